/-! WhoseName.bargain -/
theorem dX6_bargain_0 : nv_diload qX6_bargain 0 1 1 := Or.inr ⟨1, rfl, by decide +kernel, rfl⟩
theorem dX6_bargain_1 : nv_dc qX6_bargain 1 (.invokestatic 70) 3 4 := ⟨by decide +kernel, rfl⟩
theorem dX6_bargain_4 : nv_dif qX6_bargain 4 .eq 26 7 := ⟨22, by decide +kernel, by decide, rfl⟩
theorem dX6_bargain_7 : nv_diload qX6_bargain 7 3 8 := Or.inr ⟨3, rfl, by decide +kernel, rfl⟩
theorem dX6_bargain_8 : nv_dc qX6_bargain 8 (.invokestatic 70) 3 11 := ⟨by decide +kernel, rfl⟩
theorem dX6_bargain_11 : nv_dif qX6_bargain 11 .eq 26 14 := ⟨15, by decide +kernel, by decide, rfl⟩
theorem dX6_bargain_14 : nv_diload qX6_bargain 14 2 15 := Or.inr ⟨2, rfl, by decide +kernel, rfl⟩
theorem dX6_bargain_15 : nv_dk qX6_bargain 15 (-1) 16 := Or.inl ⟨(-1), ⟨by decide +kernel, rfl⟩, by decide⟩
theorem dX6_bargain_16 : nv_dic qX6_bargain 16 .eq 29 19 := ⟨13, by decide +kernel, by decide, rfl⟩
theorem dX6_bargain_19 : nv_diload qX6_bargain 19 2 20 := Or.inr ⟨2, rfl, by decide +kernel, rfl⟩
theorem dX6_bargain_20 : nv_dc qX6_bargain 20 (.invokestatic 70) 3 23 := ⟨by decide +kernel, rfl⟩
theorem dX6_bargain_23 : nv_dif qX6_bargain 23 .ne 29 26 := ⟨6, by decide +kernel, by decide, rfl⟩
theorem dX6_bargain_26 : nv_dk qX6_bargain 26 (-2) 28 := Or.inr (Or.inl ⟨(-2), ⟨by decide +kernel, rfl⟩, by decide⟩)
theorem dX6_bargain_28 : decode qX6_bargain.2.1 28 = .ok (.ireturn, 1) := by decide +kernel
theorem dX6_bargain_29 : nv_diload qX6_bargain 29 3 30 := Or.inr ⟨3, rfl, by decide +kernel, rfl⟩
theorem dX6_bargain_30 : nv_diload qX6_bargain 30 1 31 := Or.inr ⟨1, rfl, by decide +kernel, rfl⟩
theorem dX6_bargain_31 : nv_dic qX6_bargain 31 .eq 39 34 := ⟨8, by decide +kernel, by decide, rfl⟩
theorem dX6_bargain_34 : nv_diload qX6_bargain 34 3 35 := Or.inr ⟨3, rfl, by decide +kernel, rfl⟩
theorem dX6_bargain_35 : nv_diload qX6_bargain 35 2 36 := Or.inr ⟨2, rfl, by decide +kernel, rfl⟩
theorem dX6_bargain_36 : nv_dic qX6_bargain 36 .ne 42 39 := ⟨6, by decide +kernel, by decide, rfl⟩
theorem dX6_bargain_39 : nv_dk qX6_bargain 39 (-2) 41 := Or.inr (Or.inl ⟨(-2), ⟨by decide +kernel, rfl⟩, by decide⟩)
theorem dX6_bargain_41 : decode qX6_bargain.2.1 41 = .ok (.ireturn, 1) := by decide +kernel
theorem dX6_bargain_42 : nv_diload qX6_bargain 42 4 44 := Or.inl ⟨by decide +kernel, rfl⟩
theorem dX6_bargain_44 : nv_dk qX6_bargain 44 0 45 := Or.inl ⟨0, ⟨by decide +kernel, rfl⟩, by decide⟩
theorem dX6_bargain_45 : nv_dk qX6_bargain 45 3 46 := Or.inl ⟨3, ⟨by decide +kernel, rfl⟩, by decide⟩
theorem dX6_bargain_46 : nv_dc qX6_bargain 46 (.invokestatic 74) 3 49 := ⟨by decide +kernel, rfl⟩
theorem dX6_bargain_49 : nv_dif qX6_bargain 49 .eq 68 52 := ⟨19, by decide +kernel, by decide, rfl⟩
theorem dX6_bargain_52 : nv_diload qX6_bargain 52 5 54 := Or.inl ⟨by decide +kernel, rfl⟩
theorem dX6_bargain_54 : nv_dc qX6_bargain 54 (.invokestatic 132) 3 57 := ⟨by decide +kernel, rfl⟩
theorem dX6_bargain_57 : nv_dif qX6_bargain 57 .eq 68 60 := ⟨11, by decide +kernel, by decide, rfl⟩
theorem dX6_bargain_60 : nv_diload qX6_bargain 60 6 62 := Or.inl ⟨by decide +kernel, rfl⟩
theorem dX6_bargain_62 : nv_dc qX6_bargain 62 (.invokestatic 135) 3 65 := ⟨by decide +kernel, rfl⟩
theorem dX6_bargain_65 : nv_dif qX6_bargain 65 .ne 71 68 := ⟨6, by decide +kernel, by decide, rfl⟩
theorem dX6_bargain_68 : nv_dk qX6_bargain 68 (-2) 70 := Or.inr (Or.inl ⟨(-2), ⟨by decide +kernel, rfl⟩, by decide⟩)
theorem dX6_bargain_70 : decode qX6_bargain.2.1 70 = .ok (.ireturn, 1) := by decide +kernel
theorem dX6_bargain_71 : nv_daload qX6_bargain 71 0 72 := Or.inr ⟨0, rfl, by decide +kernel, rfl⟩
theorem dX6_bargain_72 : nv_dc qX6_bargain 72 (.getfield 156) 3 75 := ⟨by decide +kernel, rfl⟩
theorem dX6_bargain_75 : nv_dk qX6_bargain 75 10 77 := Or.inr (Or.inl ⟨10, ⟨by decide +kernel, rfl⟩, by decide⟩)
theorem dX6_bargain_77 : nv_dic qX6_bargain 77 .lt 83 80 := ⟨6, by decide +kernel, by decide, rfl⟩
theorem dX6_bargain_80 : nv_dk qX6_bargain 80 (-4) 82 := Or.inr (Or.inl ⟨(-4), ⟨by decide +kernel, rfl⟩, by decide⟩)
theorem dX6_bargain_82 : decode qX6_bargain.2.1 82 = .ok (.ireturn, 1) := by decide +kernel
theorem dX6_bargain_83 : nv_daload qX6_bargain 83 0 84 := Or.inr ⟨0, rfl, by decide +kernel, rfl⟩
theorem dX6_bargain_84 : nv_dc qX6_bargain 84 (.getfield 27) 3 87 := ⟨by decide +kernel, rfl⟩
theorem dX6_bargain_87 : nv_daload qX6_bargain 87 0 88 := Or.inr ⟨0, rfl, by decide +kernel, rfl⟩
theorem dX6_bargain_88 : nv_dc qX6_bargain 88 (.getfield 156) 3 91 := ⟨by decide +kernel, rfl⟩
theorem dX6_bargain_91 : nv_dc qX6_bargain 91 (.aaload) 1 92 := ⟨by decide +kernel, rfl⟩
theorem dX6_bargain_92 : nv_dastore qX6_bargain 92 7 94 := Or.inl ⟨by decide +kernel, rfl⟩
theorem dX6_bargain_94 : nv_daload qX6_bargain 94 7 96 := Or.inl ⟨by decide +kernel, rfl⟩
theorem dX6_bargain_96 : nv_daload qX6_bargain 96 0 97 := Or.inr ⟨0, rfl, by decide +kernel, rfl⟩
theorem dX6_bargain_97 : nv_dc qX6_bargain 97 (.getfield 156) 3 100 := ⟨by decide +kernel, rfl⟩
theorem dX6_bargain_100 : nv_dc qX6_bargain 100 (.putfield 159) 3 103 := ⟨by decide +kernel, rfl⟩
theorem dX6_bargain_103 : nv_daload qX6_bargain 103 7 105 := Or.inl ⟨by decide +kernel, rfl⟩
theorem dX6_bargain_105 : nv_diload qX6_bargain 105 1 106 := Or.inr ⟨1, rfl, by decide +kernel, rfl⟩
theorem dX6_bargain_106 : nv_dc qX6_bargain 106 (.putfield 162) 3 109 := ⟨by decide +kernel, rfl⟩
theorem dX6_bargain_109 : nv_daload qX6_bargain 109 7 111 := Or.inl ⟨by decide +kernel, rfl⟩
theorem dX6_bargain_111 : nv_diload qX6_bargain 111 2 112 := Or.inr ⟨2, rfl, by decide +kernel, rfl⟩
theorem dX6_bargain_112 : nv_dc qX6_bargain 112 (.putfield 165) 3 115 := ⟨by decide +kernel, rfl⟩
theorem dX6_bargain_115 : nv_daload qX6_bargain 115 7 117 := Or.inl ⟨by decide +kernel, rfl⟩
theorem dX6_bargain_117 : nv_diload qX6_bargain 117 3 118 := Or.inr ⟨3, rfl, by decide +kernel, rfl⟩
theorem dX6_bargain_118 : nv_dc qX6_bargain 118 (.putfield 168) 3 121 := ⟨by decide +kernel, rfl⟩
theorem dX6_bargain_121 : nv_daload qX6_bargain 121 7 123 := Or.inl ⟨by decide +kernel, rfl⟩
theorem dX6_bargain_123 : nv_diload qX6_bargain 123 4 125 := Or.inl ⟨by decide +kernel, rfl⟩
theorem dX6_bargain_125 : nv_dc qX6_bargain 125 (.putfield 171) 3 128 := ⟨by decide +kernel, rfl⟩
theorem dX6_bargain_128 : nv_daload qX6_bargain 128 7 130 := Or.inl ⟨by decide +kernel, rfl⟩
theorem dX6_bargain_130 : nv_diload qX6_bargain 130 5 132 := Or.inl ⟨by decide +kernel, rfl⟩
theorem dX6_bargain_132 : nv_dc qX6_bargain 132 (.putfield 174) 3 135 := ⟨by decide +kernel, rfl⟩
theorem dX6_bargain_135 : nv_daload qX6_bargain 135 7 137 := Or.inl ⟨by decide +kernel, rfl⟩
theorem dX6_bargain_137 : nv_diload qX6_bargain 137 6 139 := Or.inl ⟨by decide +kernel, rfl⟩
theorem dX6_bargain_139 : nv_dc qX6_bargain 139 (.putfield 177) 3 142 := ⟨by decide +kernel, rfl⟩
theorem dX6_bargain_142 : nv_daload qX6_bargain 142 0 143 := Or.inr ⟨0, rfl, by decide +kernel, rfl⟩
theorem dX6_bargain_143 : nv_dc qX6_bargain 143 (.dup) 1 144 := ⟨by decide +kernel, rfl⟩
theorem dX6_bargain_144 : nv_dc qX6_bargain 144 (.getfield 156) 3 147 := ⟨by decide +kernel, rfl⟩
theorem dX6_bargain_147 : nv_dk qX6_bargain 147 1 148 := Or.inl ⟨1, ⟨by decide +kernel, rfl⟩, by decide⟩
theorem dX6_bargain_148 : nv_dc qX6_bargain 148 (.iadd) 1 149 := ⟨by decide +kernel, rfl⟩
theorem dX6_bargain_149 : nv_dc qX6_bargain 149 (.putfield 156) 3 152 := ⟨by decide +kernel, rfl⟩
theorem dX6_bargain_152 : nv_daload qX6_bargain 152 0 153 := Or.inr ⟨0, rfl, by decide +kernel, rfl⟩
theorem dX6_bargain_153 : nv_dc qX6_bargain 153 (.getfield 156) 3 156 := ⟨by decide +kernel, rfl⟩
theorem dX6_bargain_156 : nv_dk qX6_bargain 156 1 157 := Or.inl ⟨1, ⟨by decide +kernel, rfl⟩, by decide⟩
theorem dX6_bargain_157 : nv_dc qX6_bargain 157 (.isub) 1 158 := ⟨by decide +kernel, rfl⟩
theorem dX6_bargain_158 : decode qX6_bargain.2.1 158 = .ok (.ireturn, 1) := by decide +kernel
def fc_bargain_29 (h : nv_Hp) (x1 : Int32) (x2 : Int32) (x3 : Int32) (x4 : Int32) (x5 : Int32) (x6 : Int32)   : Option (Int32 × nv_Hp) := (if x3 = x1 then some ((-2), h) else (if x3 = x2 then some ((-2), h) else (if (fc_isWithin x4 0 3) = true then (if (fc_isAmount x5) = true then (if (fc_isDay x6) = true then (if (h 0 9) < 10 then (if nv_inb (h 0 9) 10 = true then (nv_lt (nv_up h (37 + (h 0 9).toNatClampNeg) 0 (h 0 9)) fun h8 => (nv_lt (nv_up h8 (37 + (h 0 9).toNatClampNeg) 1 x1) fun h9 => (nv_lt (nv_up h9 (37 + (h 0 9).toNatClampNeg) 2 x2) fun h10 => (nv_lt (nv_up h10 (37 + (h 0 9).toNatClampNeg) 3 x3) fun h11 => (nv_lt (nv_up h11 (37 + (h 0 9).toNatClampNeg) 4 x4) fun h12 => (nv_lt (nv_up h12 (37 + (h 0 9).toNatClampNeg) 5 x5) fun h13 => (nv_lt (nv_up h13 (37 + (h 0 9).toNatClampNeg) 6 x6) fun h14 => (nv_lt (nv_up h14 0 9 ((h14 0 9) + 1)) fun h15 => some (((h15 0 9) - 1), h15))))))))) else none) else some ((-4), h)) else some ((-2), h)) else some ((-2), h)) else some ((-2), h))))
set_option maxHeartbeats 2000000 in
theorem tc_bargain_29 (G : nv_G) (h : nv_Hp) (x1 : Int32) (x2 : Int32) (x3 : Int32) (x4 : Int32) (x5 : Int32) (x6 : Int32)   (o7 : Option Value) (r : Int32 × nv_Hp) (hf : fc_bargain_29 h x1 x2 x3 x4 x5 x6 = some r) : nv_E G 2 qX6_bargain 29 [some (.ref 0), some (.int x1), some (.int x2), some (.int x3), some (.int x4), some (.int x5), some (.int x6), o7] [] (nv_s h) (some (.int r.1), nv_s r.2) := by
  unfold fc_bargain_29 at hf
  refine nv_iL dX6_bargain_29 rfl ?_
  refine nv_iL dX6_bargain_30 rfl ?_
  refine nv_iceq dX6_bargain_31 (fun c1 => ?_) (fun c1 => ?_)
  · replace hf := nv_ip c1 hf
    refine nv_k dX6_bargain_39 ?_
    obtain rfl := Option.some.inj hf
    exact nv_ireturnI dX6_bargain_41 rfl
  · replace hf := nv_in c1 hf
    refine nv_iL dX6_bargain_34 rfl ?_
    refine nv_iL dX6_bargain_35 rfl ?_
    refine nv_icne dX6_bargain_36 (fun c2 => ?_) (fun c2 => ?_)
    · replace hf := nv_ip c2 hf
      refine nv_k dX6_bargain_39 ?_
      obtain rfl := Option.some.inj hf
      exact nv_ireturnI dX6_bargain_41 rfl
    · replace hf := nv_in c2 hf
      refine nv_iL dX6_bargain_42 rfl ?_
      refine nv_k dX6_bargain_44 ?_
      refine nv_k dX6_bargain_45 ?_
      refine nv_cSi (tc_isWithin G h x4 0 3) dX6_bargain_46 lm_X6_74 y_qX6_isWithin rfl (by decide) rfl (Nat.le_of_ble_eq_true rfl) ?_
      refine nv_ifeqB dX6_bargain_49 (fun c3 => ?_) (fun c3 => ?_)
      · replace hf := nv_ip c3 hf
        refine nv_iL dX6_bargain_52 rfl ?_
        refine nv_cSi (tc_isAmount G h x5) dX6_bargain_54 lm_X6_132 y_qX6_isAmount rfl (by decide) rfl (Nat.le_of_ble_eq_true rfl) ?_
        refine nv_ifeqB dX6_bargain_57 (fun c4 => ?_) (fun c4 => ?_)
        · replace hf := nv_ip c4 hf
          refine nv_iL dX6_bargain_60 rfl ?_
          refine nv_cSi (tc_isDay G h x6) dX6_bargain_62 lm_X6_135 y_qX6_isDay rfl (by decide) rfl (Nat.le_of_ble_eq_true rfl) ?_
          refine nv_ifneB dX6_bargain_65 (fun c5 => ?_) (fun c5 => ?_)
          · replace hf := nv_ip c5 hf
            refine nv_aL dX6_bargain_71 rfl ?_
            refine nv_tI lf_X6_156 dX6_bargain_72 ko_0 rfl ?_
            refine nv_k dX6_bargain_75 ?_
            refine nv_iclt dX6_bargain_77 (fun c6 => ?_) (fun c6 => ?_)
            · replace hf := nv_ip c6 hf
              refine nv_aL dX6_bargain_83 rfl ?_
              refine nv_tR lf_X6_27 dX6_bargain_84 ko_0 rfl ?_
              refine nv_aL dX6_bargain_87 rfl ?_
              refine nv_tI lf_X6_156 dX6_bargain_88 ko_0 rfl ?_
              obtain ⟨g7, hf⟩ := nv_gd hf
              refine nv_aR dX6_bargain_91 kr_4 ⟨_, rfl⟩ g7 (nv_q1 _ _) ?_
              refine nv_aS dX6_bargain_92 (by decide) rfl rfl ?_
              refine nv_aL dX6_bargain_94 rfl ?_
              refine nv_aL dX6_bargain_96 rfl ?_
              refine nv_tI lf_X6_156 dX6_bargain_97 ko_0 rfl ?_
              refine nv_pI lp_X6_159 dX6_bargain_100 (nv_o2 g7) rfl ?_
              obtain ⟨h8, eh8, hf⟩ := nv_ltX hf
              rw [eh8]
              clear eh8
              refine nv_aL dX6_bargain_103 rfl ?_
              refine nv_iL dX6_bargain_105 rfl ?_
              refine nv_pI lp_X6_162 dX6_bargain_106 (nv_o2 g7) rfl ?_
              obtain ⟨h9, eh9, hf⟩ := nv_ltX hf
              rw [eh9]
              clear eh9
              refine nv_aL dX6_bargain_109 rfl ?_
              refine nv_iL dX6_bargain_111 rfl ?_
              refine nv_pI lp_X6_165 dX6_bargain_112 (nv_o2 g7) rfl ?_
              obtain ⟨h10, eh10, hf⟩ := nv_ltX hf
              rw [eh10]
              clear eh10
              refine nv_aL dX6_bargain_115 rfl ?_
              refine nv_iL dX6_bargain_117 rfl ?_
              refine nv_pI lp_X6_168 dX6_bargain_118 (nv_o2 g7) rfl ?_
              obtain ⟨h11, eh11, hf⟩ := nv_ltX hf
              rw [eh11]
              clear eh11
              refine nv_aL dX6_bargain_121 rfl ?_
              refine nv_iL dX6_bargain_123 rfl ?_
              refine nv_pI lp_X6_171 dX6_bargain_125 (nv_o2 g7) rfl ?_
              obtain ⟨h12, eh12, hf⟩ := nv_ltX hf
              rw [eh12]
              clear eh12
              refine nv_aL dX6_bargain_128 rfl ?_
              refine nv_iL dX6_bargain_130 rfl ?_
              refine nv_pI lp_X6_174 dX6_bargain_132 (nv_o2 g7) rfl ?_
              obtain ⟨h13, eh13, hf⟩ := nv_ltX hf
              rw [eh13]
              clear eh13
              refine nv_aL dX6_bargain_135 rfl ?_
              refine nv_iL dX6_bargain_137 rfl ?_
              refine nv_pI lp_X6_177 dX6_bargain_139 (nv_o2 g7) rfl ?_
              obtain ⟨h14, eh14, hf⟩ := nv_ltX hf
              rw [eh14]
              clear eh14
              refine nv_aL dX6_bargain_142 rfl ?_
              refine nv_dup dX6_bargain_143 rfl ?_
              refine nv_tI lf_X6_156 dX6_bargain_144 ko_0 rfl ?_
              refine nv_k dX6_bargain_147 ?_
              refine nv_iadd dX6_bargain_148 ?_
              refine nv_tP lp_X6_156 dX6_bargain_149 ko_0 rfl ?_
              obtain ⟨h15, eh15, hf⟩ := nv_ltX hf
              rw [eh15]
              clear eh15
              refine nv_aL dX6_bargain_152 rfl ?_
              refine nv_tI lf_X6_156 dX6_bargain_153 ko_0 rfl ?_
              refine nv_k dX6_bargain_156 ?_
              refine nv_isub dX6_bargain_157 ?_
              obtain rfl := Option.some.inj hf
              exact nv_ireturnI dX6_bargain_158 rfl
            · replace hf := nv_in c6 hf
              refine nv_k dX6_bargain_80 ?_
              obtain rfl := Option.some.inj hf
              exact nv_ireturnI dX6_bargain_82 rfl
          · replace hf := nv_in c5 hf
            refine nv_k dX6_bargain_68 ?_
            obtain rfl := Option.some.inj hf
            exact nv_ireturnI dX6_bargain_70 rfl
        · replace hf := nv_in c4 hf
          refine nv_k dX6_bargain_68 ?_
          obtain rfl := Option.some.inj hf
          exact nv_ireturnI dX6_bargain_70 rfl
      · replace hf := nv_in c3 hf
        refine nv_k dX6_bargain_68 ?_
        obtain rfl := Option.some.inj hf
        exact nv_ireturnI dX6_bargain_70 rfl
def fc_bargain (h : nv_Hp) (x1 : Int32) (x2 : Int32) (x3 : Int32) (x4 : Int32) (x5 : Int32) (x6 : Int32) : Option (Int32 × nv_Hp) := (if (fc_isPerson x1) = true then (if (fc_isPerson x3) = true then (if x2 = (-1) then (fc_bargain_29 h x1 x2 x3 x4 x5 x6) else (if (fc_isPerson x2) = true then (fc_bargain_29 h x1 x2 x3 x4 x5 x6) else some ((-2), h))) else some ((-2), h)) else some ((-2), h))
set_option maxHeartbeats 2000000 in
theorem tc_bargain (G : nv_G) (h : nv_Hp) (x1 : Int32) (x2 : Int32) (x3 : Int32) (x4 : Int32) (x5 : Int32) (x6 : Int32) {r : Int32 × nv_Hp} (hf : (fc_bargain h x1 x2 x3 x4 x5 x6) = some r) : nv_Mt G 2 qX6_bargain [.ref 0, .int x1, .int x2, .int x3, .int x4, .int x5, .int x6] (nv_s h) (some (.int r.1), nv_s r.2) := by
  refine nv_of (by decide +kernel) (fun ad => Nat.le_of_ble_eq_true rfl) (Nat.le_refl _) (Nat.le_of_ble_eq_true rfl) ?_
  show nv_E G 2 qX6_bargain 0 [some (.ref 0), some (.int x1), some (.int x2), some (.int x3), some (.int x4), some (.int x5), some (.int x6), none] [] (nv_s h) (some (.int r.1), nv_s r.2)
  unfold fc_bargain at hf
  refine nv_iL dX6_bargain_0 rfl ?_
  refine nv_cSi (tc_isPerson G h x1) dX6_bargain_1 lm_X6_70 y_qX6_isPerson rfl (by decide) rfl (Nat.le_of_ble_eq_true rfl) ?_
  refine nv_ifeqB dX6_bargain_4 (fun c1 => ?_) (fun c1 => ?_)
  · replace hf := nv_ip c1 hf
    refine nv_iL dX6_bargain_7 rfl ?_
    refine nv_cSi (tc_isPerson G h x3) dX6_bargain_8 lm_X6_70 y_qX6_isPerson rfl (by decide) rfl (Nat.le_of_ble_eq_true rfl) ?_
    refine nv_ifeqB dX6_bargain_11 (fun c2 => ?_) (fun c2 => ?_)
    · replace hf := nv_ip c2 hf
      refine nv_iL dX6_bargain_14 rfl ?_
      refine nv_k dX6_bargain_15 ?_
      refine nv_iceq dX6_bargain_16 (fun c3 => ?_) (fun c3 => ?_)
      · replace hf := nv_ip c3 hf
        exact tc_bargain_29 G _ _ _ _ _ _ _ _ _ hf
      · replace hf := nv_in c3 hf
        refine nv_iL dX6_bargain_19 rfl ?_
        refine nv_cSi (tc_isPerson G h x2) dX6_bargain_20 lm_X6_70 y_qX6_isPerson rfl (by decide) rfl (Nat.le_of_ble_eq_true rfl) ?_
        refine nv_ifneB dX6_bargain_23 (fun c4 => ?_) (fun c4 => ?_)
        · replace hf := nv_ip c4 hf
          exact tc_bargain_29 G _ _ _ _ _ _ _ _ _ hf
        · replace hf := nv_in c4 hf
          refine nv_k dX6_bargain_26 ?_
          obtain rfl := Option.some.inj hf
          exact nv_ireturnI dX6_bargain_28 rfl
    · replace hf := nv_in c2 hf
      refine nv_k dX6_bargain_26 ?_
      obtain rfl := Option.some.inj hf
      exact nv_ireturnI dX6_bargain_28 rfl
  · replace hf := nv_in c1 hf
    refine nv_k dX6_bargain_26 ?_
    obtain rfl := Option.some.inj hf
    exact nv_ireturnI dX6_bargain_28 rfl
/-! WhoseName.isSheet -/
theorem dX6_isSheet_0 : nv_diload qX6_isSheet 0 0 1 := Or.inr ⟨0, rfl, by decide +kernel, rfl⟩
theorem dX6_isSheet_1 : nv_dk qX6_isSheet 1 0 2 := Or.inl ⟨0, ⟨by decide +kernel, rfl⟩, by decide⟩
theorem dX6_isSheet_2 : nv_dk qX6_isSheet 2 3 3 := Or.inl ⟨3, ⟨by decide +kernel, rfl⟩, by decide⟩
theorem dX6_isSheet_3 : nv_dc qX6_isSheet 3 (.invokestatic 74) 3 6 := ⟨by decide +kernel, rfl⟩
theorem dX6_isSheet_6 : decode qX6_isSheet.2.1 6 = .ok (.ireturn, 1) := by decide +kernel
def fc_isSheet (x0 : Int32) : Bool := (fc_isWithin x0 0 3)
set_option maxHeartbeats 2000000 in
theorem tc_isSheet (G : nv_G) (h : nv_Hp) (x0 : Int32) : nv_Mt G 1 qX6_isSheet [.int x0] (nv_s h) (some (.int (nv_bi (fc_isSheet x0))), nv_s h) := by
  refine nv_of (by decide +kernel) (fun ad => Nat.le_of_ble_eq_true rfl) (Nat.le_refl _) (Nat.le_of_ble_eq_true rfl) ?_
  show nv_E G 1 qX6_isSheet 0 [some (.int x0)] [] (nv_s h) (some (.int (nv_bi (fc_isSheet x0))), nv_s h)
  generalize hf : (fc_isSheet x0) = r
  unfold fc_isSheet at hf
  refine nv_iL dX6_isSheet_0 rfl ?_
  refine nv_k dX6_isSheet_1 ?_
  refine nv_k dX6_isSheet_2 ?_
  refine nv_cSi (tc_isWithin G h x0 0 3) dX6_isSheet_3 lm_X6_74 y_qX6_isWithin rfl (by decide) rfl (Nat.le_of_ble_eq_true rfl) ?_
  subst hf
  exact nv_ireturnB (b := (fc_isWithin x0 0 3)) dX6_isSheet_6 rfl
/-! WhoseName.find -/
theorem dX6_find_0 : nv_daload qX6_find 0 0 1 := Or.inr ⟨0, rfl, by decide +kernel, rfl⟩
theorem dX6_find_1 : nv_diload qX6_find 1 1 2 := Or.inr ⟨1, rfl, by decide +kernel, rfl⟩
theorem dX6_find_2 : nv_dc qX6_find 2 (.putfield 405) 3 5 := ⟨by decide +kernel, rfl⟩
theorem dX6_find_5 : nv_dk qX6_find 5 (-10) 7 := Or.inr (Or.inl ⟨(-10), ⟨by decide +kernel, rfl⟩, by decide⟩)
theorem dX6_find_7 : nv_diload qX6_find 7 1 8 := Or.inr ⟨1, rfl, by decide +kernel, rfl⟩
theorem dX6_find_8 : nv_dc qX6_find 8 (.isub) 1 9 := ⟨by decide +kernel, rfl⟩
theorem dX6_find_9 : decode qX6_find.2.1 9 = .ok (.ireturn, 1) := by decide +kernel
def fc_find (h : nv_Hp) (x1 : Int32) : Int32 × nv_Hp := (nv_lt (nv_up h 0 11 x1) fun h1 => (((-10) - x1), h1))
set_option maxHeartbeats 2000000 in
theorem tc_find (G : nv_G) (h : nv_Hp) (x1 : Int32) : nv_Mt G 0 qX6_find [.ref 0, .int x1] (nv_s h) (some (.int (fc_find h x1).1), nv_s (fc_find h x1).2) := by
  refine nv_of (by decide +kernel) (fun ad => Nat.le_of_ble_eq_true rfl) (Nat.le_refl _) (Nat.le_of_ble_eq_true rfl) ?_
  show nv_E G 0 qX6_find 0 [some (.ref 0), some (.int x1)] [] (nv_s h) (some (.int (fc_find h x1).1), nv_s (fc_find h x1).2)
  generalize hf : (fc_find h x1) = r
  unfold fc_find at hf
  refine nv_aL dX6_find_0 rfl ?_
  refine nv_iL dX6_find_1 rfl ?_
  refine nv_tP lp_X6_405 dX6_find_2 ko_0 rfl ?_
  obtain ⟨h1, eh1, hf⟩ := nv_ltX hf
  rw [eh1]
  clear eh1
  refine nv_k dX6_find_5 ?_
  refine nv_iL dX6_find_7 rfl ?_
  refine nv_isub dX6_find_8 ?_
  subst hf
  exact nv_ireturnI dX6_find_9 rfl
/-! WhoseName.read -/
theorem dX6_read_0 : nv_diload qX6_read 0 1 1 := Or.inr ⟨1, rfl, by decide +kernel, rfl⟩
theorem dX6_read_1 : nv_dc qX6_read 1 (.invokestatic 180) 3 4 := ⟨by decide +kernel, rfl⟩
theorem dX6_read_4 : nv_dif qX6_read 4 .ne 10 7 := ⟨6, by decide +kernel, by decide, rfl⟩
theorem dX6_read_7 : nv_dk qX6_read 7 (-2) 9 := Or.inr (Or.inl ⟨(-2), ⟨by decide +kernel, rfl⟩, by decide⟩)
theorem dX6_read_9 : decode qX6_read.2.1 9 = .ok (.ireturn, 1) := by decide +kernel
theorem dX6_read_10 : nv_daload qX6_read 10 0 11 := Or.inr ⟨0, rfl, by decide +kernel, rfl⟩
theorem dX6_read_11 : nv_dc qX6_read 11 (.getfield 45) 3 14 := ⟨by decide +kernel, rfl⟩
theorem dX6_read_14 : nv_diload qX6_read 14 1 15 := Or.inr ⟨1, rfl, by decide +kernel, rfl⟩
theorem dX6_read_15 : nv_dc qX6_read 15 (.aaload) 1 16 := ⟨by decide +kernel, rfl⟩
theorem dX6_read_16 : nv_dastore qX6_read 16 2 17 := Or.inr ⟨2, rfl, by decide +kernel, rfl⟩
theorem dX6_read_17 : nv_daload qX6_read 17 2 18 := Or.inr ⟨2, rfl, by decide +kernel, rfl⟩
theorem dX6_read_18 : nv_dc qX6_read 18 (.getfield 183) 3 21 := ⟨by decide +kernel, rfl⟩
theorem dX6_read_21 : nv_dif qX6_read 21 .eq 30 24 := ⟨9, by decide +kernel, by decide, rfl⟩
theorem dX6_read_24 : nv_daload qX6_read 24 0 25 := Or.inr ⟨0, rfl, by decide +kernel, rfl⟩
theorem dX6_read_25 : nv_dk qX6_read 25 1 26 := Or.inl ⟨1, ⟨by decide +kernel, rfl⟩, by decide⟩
theorem dX6_read_26 : nv_dc qX6_read 26 (.invokevirtual 187) 3 29 := ⟨by decide +kernel, rfl⟩
theorem dX6_read_29 : decode qX6_read.2.1 29 = .ok (.ireturn, 1) := by decide +kernel
theorem dX6_read_30 : nv_dk qX6_read 30 0 31 := Or.inl ⟨0, ⟨by decide +kernel, rfl⟩, by decide⟩
theorem dX6_read_31 : nv_distore qX6_read 31 3 32 := Or.inr ⟨3, rfl, by decide +kernel, rfl⟩
theorem dX6_read_32 : nv_dk qX6_read 32 0 33 := Or.inl ⟨0, ⟨by decide +kernel, rfl⟩, by decide⟩
theorem dX6_read_33 : nv_distore qX6_read 33 4 35 := Or.inl ⟨by decide +kernel, rfl⟩
theorem dX6_read_35 : nv_diload qX6_read 35 4 37 := Or.inl ⟨by decide +kernel, rfl⟩
theorem dX6_read_37 : nv_dk qX6_read 37 6 39 := Or.inr (Or.inl ⟨6, ⟨by decide +kernel, rfl⟩, by decide⟩)
theorem dX6_read_39 : nv_dc qX6_read 39 (.iadd) 1 40 := ⟨by decide +kernel, rfl⟩
theorem dX6_read_40 : nv_daload qX6_read 40 2 41 := Or.inr ⟨2, rfl, by decide +kernel, rfl⟩
theorem dX6_read_41 : nv_dc qX6_read 41 (.getfield 191) 3 44 := ⟨by decide +kernel, rfl⟩
theorem dX6_read_44 : nv_dic qX6_read 44 .gt 116 47 := ⟨72, by decide +kernel, by decide, rfl⟩
theorem dX6_read_47 : nv_daload qX6_read 47 0 48 := Or.inr ⟨0, rfl, by decide +kernel, rfl⟩
theorem dX6_read_48 : nv_daload qX6_read 48 2 49 := Or.inr ⟨2, rfl, by decide +kernel, rfl⟩
theorem dX6_read_49 : nv_diload qX6_read 49 4 51 := Or.inl ⟨by decide +kernel, rfl⟩
theorem dX6_read_51 : nv_dc qX6_read 51 (.invokevirtual 194) 3 54 := ⟨by decide +kernel, rfl⟩
theorem dX6_read_54 : nv_daload qX6_read 54 2 55 := Or.inr ⟨2, rfl, by decide +kernel, rfl⟩
theorem dX6_read_55 : nv_diload qX6_read 55 4 57 := Or.inl ⟨by decide +kernel, rfl⟩
theorem dX6_read_57 : nv_dk qX6_read 57 1 58 := Or.inl ⟨1, ⟨by decide +kernel, rfl⟩, by decide⟩
theorem dX6_read_58 : nv_dc qX6_read 58 (.iadd) 1 59 := ⟨by decide +kernel, rfl⟩
theorem dX6_read_59 : nv_dc qX6_read 59 (.invokevirtual 194) 3 62 := ⟨by decide +kernel, rfl⟩
theorem dX6_read_62 : nv_daload qX6_read 62 2 63 := Or.inr ⟨2, rfl, by decide +kernel, rfl⟩
theorem dX6_read_63 : nv_diload qX6_read 63 4 65 := Or.inl ⟨by decide +kernel, rfl⟩
theorem dX6_read_65 : nv_dk qX6_read 65 2 66 := Or.inl ⟨2, ⟨by decide +kernel, rfl⟩, by decide⟩
theorem dX6_read_66 : nv_dc qX6_read 66 (.iadd) 1 67 := ⟨by decide +kernel, rfl⟩
theorem dX6_read_67 : nv_dc qX6_read 67 (.invokevirtual 194) 3 70 := ⟨by decide +kernel, rfl⟩
theorem dX6_read_70 : nv_daload qX6_read 70 2 71 := Or.inr ⟨2, rfl, by decide +kernel, rfl⟩
theorem dX6_read_71 : nv_diload qX6_read 71 4 73 := Or.inl ⟨by decide +kernel, rfl⟩
theorem dX6_read_73 : nv_dk qX6_read 73 3 74 := Or.inl ⟨3, ⟨by decide +kernel, rfl⟩, by decide⟩
theorem dX6_read_74 : nv_dc qX6_read 74 (.iadd) 1 75 := ⟨by decide +kernel, rfl⟩
theorem dX6_read_75 : nv_dc qX6_read 75 (.invokevirtual 194) 3 78 := ⟨by decide +kernel, rfl⟩
theorem dX6_read_78 : nv_daload qX6_read 78 2 79 := Or.inr ⟨2, rfl, by decide +kernel, rfl⟩
theorem dX6_read_79 : nv_diload qX6_read 79 4 81 := Or.inl ⟨by decide +kernel, rfl⟩
theorem dX6_read_81 : nv_dk qX6_read 81 4 82 := Or.inl ⟨4, ⟨by decide +kernel, rfl⟩, by decide⟩
theorem dX6_read_82 : nv_dc qX6_read 82 (.iadd) 1 83 := ⟨by decide +kernel, rfl⟩
theorem dX6_read_83 : nv_dc qX6_read 83 (.invokevirtual 194) 3 86 := ⟨by decide +kernel, rfl⟩
theorem dX6_read_86 : nv_daload qX6_read 86 2 87 := Or.inr ⟨2, rfl, by decide +kernel, rfl⟩
theorem dX6_read_87 : nv_diload qX6_read 87 4 89 := Or.inl ⟨by decide +kernel, rfl⟩
theorem dX6_read_89 : nv_dk qX6_read 89 5 90 := Or.inl ⟨5, ⟨by decide +kernel, rfl⟩, by decide⟩
theorem dX6_read_90 : nv_dc qX6_read 90 (.iadd) 1 91 := ⟨by decide +kernel, rfl⟩
theorem dX6_read_91 : nv_dc qX6_read 91 (.invokevirtual 194) 3 94 := ⟨by decide +kernel, rfl⟩
theorem dX6_read_94 : nv_dc qX6_read 94 (.invokevirtual 197) 3 97 := ⟨by decide +kernel, rfl⟩
theorem dX6_read_97 : nv_distore qX6_read 97 5 99 := Or.inl ⟨by decide +kernel, rfl⟩
theorem dX6_read_99 : nv_diload qX6_read 99 5 101 := Or.inl ⟨by decide +kernel, rfl⟩
theorem dX6_read_101 : nv_dif qX6_read 101 .ge 107 104 := ⟨6, by decide +kernel, by decide, rfl⟩
theorem dX6_read_104 : nv_dgo qX6_read 104 116 := ⟨12, by decide +kernel, by decide⟩
theorem dX6_read_107 : nv_dc qX6_read 107 (.iinc 3 1) 3 110 := ⟨by decide +kernel, rfl⟩
theorem dX6_read_110 : nv_dc qX6_read 110 (.iinc 4 6) 3 113 := ⟨by decide +kernel, rfl⟩
theorem dX6_read_113 : nv_dgo qX6_read 113 35 := ⟨(-78), by decide +kernel, by decide⟩
theorem dX6_read_116 : nv_diload qX6_read 116 3 117 := Or.inr ⟨3, rfl, by decide +kernel, rfl⟩
theorem dX6_read_117 : decode qX6_read.2.1 117 = .ok (.ireturn, 1) := by decide +kernel
def fc_read_35  (k2 : Nat)  : Nat → Int32 → Int32 → nv_Hp → Option (Int32 × nv_Hp)
  | 0, _, _, _ => none
  | n + 1, x3, x4, h => (if (h k2 3) < (x4 + 6) then some (x3, h) else (Option.bind (fs_itemAt h k2 x4) fun q2 => (Option.bind (fs_itemAt h k2 (x4 + 1)) fun q3 => (Option.bind (fs_itemAt h k2 (x4 + 2)) fun q4 => (Option.bind (fs_itemAt h k2 (x4 + 3)) fun q5 => (Option.bind (fs_itemAt h k2 (x4 + 4)) fun q6 => (Option.bind (fs_itemAt h k2 (x4 + 5)) fun q7 => (Option.bind (fc_bargain h q2 q3 q4 q5 q6 q7) fun q8 => (if 0 ≤ q8.1 then ((fc_read_35 k2 n) (x3 + 1) (x4 + 6) q8.2) else some (x3, q8.2))))))))))
set_option maxHeartbeats 2000000 in
theorem tc_read_35 (G : nv_G)  (k2 : Nat) (hk2 : nv_O 5 k2)  : ∀ (n : Nat) (x3 : Int32) (x4 : Int32) (h : nv_Hp) (o1 o5 : Option Value) (r : Int32 × nv_Hp), fc_read_35 k2 n x3 x4 h = some r → nv_E G 3 qX6_read 35 [some (.ref 0), o1, some (.ref k2), some (.int x3), some (.int x4), o5] [] (nv_s h) (some (.int r.1), nv_s r.2) := by
  intro n
  induction n with
  | zero =>
    intro x3 x4 h o1 o5 r hf
    rw [fc_read_35] at hf
    cases hf
  | succ n ih =>
    intro x3 x4 h o1 o5 r hf
    rw [fc_read_35] at hf
    refine nv_iL dX6_read_35 rfl ?_
    refine nv_k dX6_read_37 ?_
    refine nv_iadd dX6_read_39 ?_
    refine nv_aL dX6_read_40 rfl ?_
    refine nv_gI lf_X6_191 dX6_read_41 hk2 rfl ?_
    refine nv_icgt dX6_read_44 (fun c1 => ?_) (fun c1 => ?_)
    · replace hf := nv_ip c1 hf
      refine nv_iL dX6_read_116 rfl ?_
      obtain rfl := Option.some.inj hf
      exact nv_ireturnI dX6_read_117 rfl
    · replace hf := nv_in c1 hf
      refine nv_aL dX6_read_47 rfl ?_
      refine nv_aL dX6_read_48 rfl ?_
      refine nv_iL dX6_read_49 rfl ?_
      obtain ⟨q2, hq2, hf⟩ := nv_bd hf
      refine nv_cVi (ts_itemAt G h k2 hk2 x4 hq2) dX6_read_51 lm_X6_194 y_qX5_itemAt hk2 rfl rfl (by decide) rfl (Nat.le_of_ble_eq_true rfl) ?_
      refine nv_aL dX6_read_54 rfl ?_
      refine nv_iL dX6_read_55 rfl ?_
      refine nv_k dX6_read_57 ?_
      refine nv_iadd dX6_read_58 ?_
      obtain ⟨q3, hq3, hf⟩ := nv_bd hf
      refine nv_cVi (ts_itemAt G h k2 hk2 (x4 + 1) hq3) dX6_read_59 lm_X6_194 y_qX5_itemAt hk2 rfl rfl (by decide) rfl (Nat.le_of_ble_eq_true rfl) ?_
      refine nv_aL dX6_read_62 rfl ?_
      refine nv_iL dX6_read_63 rfl ?_
      refine nv_k dX6_read_65 ?_
      refine nv_iadd dX6_read_66 ?_
      obtain ⟨q4, hq4, hf⟩ := nv_bd hf
      refine nv_cVi (ts_itemAt G h k2 hk2 (x4 + 2) hq4) dX6_read_67 lm_X6_194 y_qX5_itemAt hk2 rfl rfl (by decide) rfl (Nat.le_of_ble_eq_true rfl) ?_
      refine nv_aL dX6_read_70 rfl ?_
      refine nv_iL dX6_read_71 rfl ?_
      refine nv_k dX6_read_73 ?_
      refine nv_iadd dX6_read_74 ?_
      obtain ⟨q5, hq5, hf⟩ := nv_bd hf
      refine nv_cVi (ts_itemAt G h k2 hk2 (x4 + 3) hq5) dX6_read_75 lm_X6_194 y_qX5_itemAt hk2 rfl rfl (by decide) rfl (Nat.le_of_ble_eq_true rfl) ?_
      refine nv_aL dX6_read_78 rfl ?_
      refine nv_iL dX6_read_79 rfl ?_
      refine nv_k dX6_read_81 ?_
      refine nv_iadd dX6_read_82 ?_
      obtain ⟨q6, hq6, hf⟩ := nv_bd hf
      refine nv_cVi (ts_itemAt G h k2 hk2 (x4 + 4) hq6) dX6_read_83 lm_X6_194 y_qX5_itemAt hk2 rfl rfl (by decide) rfl (Nat.le_of_ble_eq_true rfl) ?_
      refine nv_aL dX6_read_86 rfl ?_
      refine nv_iL dX6_read_87 rfl ?_
      refine nv_k dX6_read_89 ?_
      refine nv_iadd dX6_read_90 ?_
      obtain ⟨q7, hq7, hf⟩ := nv_bd hf
      refine nv_cVi (ts_itemAt G h k2 hk2 (x4 + 5) hq7) dX6_read_91 lm_X6_194 y_qX5_itemAt hk2 rfl rfl (by decide) rfl (Nat.le_of_ble_eq_true rfl) ?_
      obtain ⟨q8, hq8, hf⟩ := nv_bd hf
      refine nv_cVi (tc_bargain G h q2 q3 q4 q5 q6 q7 hq8) dX6_read_94 lm_X6_197 y_qX6_bargain ko_0 rfl rfl (by decide) rfl (Nat.le_of_ble_eq_true rfl) ?_
      refine nv_iS dX6_read_97 (by decide) rfl rfl ?_
      refine nv_iL dX6_read_99 rfl ?_
      refine nv_ifge dX6_read_101 (fun c9 => ?_) (fun c9 => ?_)
      · replace hf := nv_ip c9 hf
        refine nv_inc dX6_read_107 rfl (v := 1) (by decide) (by decide) rfl rfl ?_
        refine nv_inc dX6_read_110 rfl (v := 6) (by decide) (by decide) rfl rfl ?_
        refine nv_goto dX6_read_113 ?_
        exact ih _ _ _ _ _ _ hf
      · replace hf := nv_in c9 hf
        refine nv_goto dX6_read_104 ?_
        refine nv_iL dX6_read_116 rfl ?_
        obtain rfl := Option.some.inj hf
        exact nv_ireturnI dX6_read_117 rfl
def fc_read (h : nv_Hp) (x1 : Int32) : Option (Int32 × nv_Hp) := (if (fc_isSheet x1) = true then (if nv_inb x1 4 = true then (if (h (65 + 2 * x1.toNatClampNeg) 1) = 0 then (fc_read_35 (65 + 2 * x1.toNatClampNeg) nv_fu 0 0 h) else (nv_lt (fc_find h 1) fun q4 => some (q4.1, q4.2))) else none) else some ((-2), h))
set_option maxHeartbeats 2000000 in
theorem tc_read (G : nv_G) (h : nv_Hp) (x1 : Int32) {r : Int32 × nv_Hp} (hf : (fc_read h x1) = some r) : nv_Mt G 3 qX6_read [.ref 0, .int x1] (nv_s h) (some (.int r.1), nv_s r.2) := by
  refine nv_of (by decide +kernel) (fun ad => Nat.le_of_ble_eq_true rfl) (Nat.le_refl _) (Nat.le_of_ble_eq_true rfl) ?_
  show nv_E G 3 qX6_read 0 [some (.ref 0), some (.int x1), none, none, none, none] [] (nv_s h) (some (.int r.1), nv_s r.2)
  unfold fc_read at hf
  refine nv_iL dX6_read_0 rfl ?_
  refine nv_cSi (tc_isSheet G h x1) dX6_read_1 lm_X6_180 y_qX6_isSheet rfl (by decide) rfl (Nat.le_of_ble_eq_true rfl) ?_
  refine nv_ifneB dX6_read_4 (fun c1 => ?_) (fun c1 => ?_)
  · replace hf := nv_ip c1 hf
    refine nv_aL dX6_read_10 rfl ?_
    refine nv_tR lf_X6_45 dX6_read_11 ko_0 rfl ?_
    refine nv_iL dX6_read_14 rfl ?_
    obtain ⟨g2, hf⟩ := nv_gd hf
    refine nv_aR dX6_read_15 kr_7 ⟨_, rfl⟩ g2 rfl ?_
    refine nv_aS dX6_read_16 (by decide) rfl rfl ?_
    refine nv_aL dX6_read_17 rfl ?_
    refine nv_gI lf_X6_183 dX6_read_18 (nv_o5 g2) rfl ?_
    refine nv_ifeq dX6_read_21 (fun c3 => ?_) (fun c3 => ?_)
    · replace hf := nv_ip c3 hf
      refine nv_k dX6_read_30 ?_
      refine nv_iS dX6_read_31 (by decide) rfl rfl ?_
      refine nv_k dX6_read_32 ?_
      refine nv_iS dX6_read_33 (by decide) rfl rfl ?_
      exact tc_read_35 G _ (nv_o5 g2) _ _ _ _ _ _ _ hf
    · replace hf := nv_in c3 hf
      refine nv_aL dX6_read_24 rfl ?_
      refine nv_k dX6_read_25 ?_
      refine nv_cVi (tc_find G h 1) dX6_read_26 lm_X6_187 y_qX6_find ko_0 rfl rfl (by decide) rfl (Nat.le_of_ble_eq_true rfl) ?_
      obtain ⟨q4, eq4, hf⟩ := nv_ltX hf
      rw [eq4]
      clear eq4
      obtain rfl := Option.some.inj hf
      exact nv_ireturnI dX6_read_29 rfl
  · replace hf := nv_in c1 hf
    refine nv_k dX6_read_7 ?_
    obtain rfl := Option.some.inj hf
    exact nv_ireturnI dX6_read_9 rfl
/-! WhoseName.isBargain -/
theorem dX6_isBargain_0 : nv_diload qX6_isBargain 0 1 1 := Or.inr ⟨1, rfl, by decide +kernel, rfl⟩
theorem dX6_isBargain_1 : nv_dk qX6_isBargain 1 0 2 := Or.inl ⟨0, ⟨by decide +kernel, rfl⟩, by decide⟩
theorem dX6_isBargain_2 : nv_daload qX6_isBargain 2 0 3 := Or.inr ⟨0, rfl, by decide +kernel, rfl⟩
theorem dX6_isBargain_3 : nv_dc qX6_isBargain 3 (.getfield 156) 3 6 := ⟨by decide +kernel, rfl⟩
theorem dX6_isBargain_6 : nv_dk qX6_isBargain 6 1 7 := Or.inl ⟨1, ⟨by decide +kernel, rfl⟩, by decide⟩
theorem dX6_isBargain_7 : nv_dc qX6_isBargain 7 (.isub) 1 8 := ⟨by decide +kernel, rfl⟩
theorem dX6_isBargain_8 : nv_dc qX6_isBargain 8 (.invokestatic 74) 3 11 := ⟨by decide +kernel, rfl⟩
theorem dX6_isBargain_11 : decode qX6_isBargain.2.1 11 = .ok (.ireturn, 1) := by decide +kernel
def fc_isBargain (h : nv_Hp) (x1 : Int32) : Bool := (fc_isWithin x1 0 ((h 0 9) - 1))
set_option maxHeartbeats 2000000 in
theorem tc_isBargain (G : nv_G) (h : nv_Hp) (x1 : Int32) : nv_Mt G 1 qX6_isBargain [.ref 0, .int x1] (nv_s h) (some (.int (nv_bi (fc_isBargain h x1))), nv_s h) := by
  refine nv_of (by decide +kernel) (fun ad => Nat.le_of_ble_eq_true rfl) (Nat.le_refl _) (Nat.le_of_ble_eq_true rfl) ?_
  show nv_E G 1 qX6_isBargain 0 [some (.ref 0), some (.int x1)] [] (nv_s h) (some (.int (nv_bi (fc_isBargain h x1))), nv_s h)
  generalize hf : (fc_isBargain h x1) = r
  unfold fc_isBargain at hf
  refine nv_iL dX6_isBargain_0 rfl ?_
  refine nv_k dX6_isBargain_1 ?_
  refine nv_aL dX6_isBargain_2 rfl ?_
  refine nv_tI lf_X6_156 dX6_isBargain_3 ko_0 rfl ?_
  refine nv_k dX6_isBargain_6 ?_
  refine nv_isub dX6_isBargain_7 ?_
  refine nv_cSi (tc_isWithin G h x1 0 ((h 0 9) - 1)) dX6_isBargain_8 lm_X6_74 y_qX6_isWithin rfl (by decide) rfl (Nat.le_of_ble_eq_true rfl) ?_
  subst hf
  exact nv_ireturnB (b := (fc_isWithin x1 0 ((h 0 9) - 1))) dX6_isBargain_11 rfl
/-! WhoseName.after -/
theorem dX6_after_0 : nv_daload qX6_after 0 0 1 := Or.inr ⟨0, rfl, by decide +kernel, rfl⟩
theorem dX6_after_1 : nv_diload qX6_after 1 1 2 := Or.inr ⟨1, rfl, by decide +kernel, rfl⟩
theorem dX6_after_2 : nv_dc qX6_after 2 (.invokevirtual 201) 3 5 := ⟨by decide +kernel, rfl⟩
theorem dX6_after_5 : nv_dif qX6_after 5 .eq 33 8 := ⟨28, by decide +kernel, by decide, rfl⟩
theorem dX6_after_8 : nv_diload qX6_after 8 2 9 := Or.inr ⟨2, rfl, by decide +kernel, rfl⟩
theorem dX6_after_9 : nv_dc qX6_after 9 (.invokestatic 70) 3 12 := ⟨by decide +kernel, rfl⟩
theorem dX6_after_12 : nv_dif qX6_after 12 .eq 33 15 := ⟨21, by decide +kernel, by decide, rfl⟩
theorem dX6_after_15 : nv_diload qX6_after 15 3 16 := Or.inr ⟨3, rfl, by decide +kernel, rfl⟩
theorem dX6_after_16 : nv_daload qX6_after 16 0 17 := Or.inr ⟨0, rfl, by decide +kernel, rfl⟩
theorem dX6_after_17 : nv_dc qX6_after 17 (.getfield 27) 3 20 := ⟨by decide +kernel, rfl⟩
theorem dX6_after_20 : nv_diload qX6_after 20 1 21 := Or.inr ⟨1, rfl, by decide +kernel, rfl⟩
theorem dX6_after_21 : nv_dc qX6_after 21 (.aaload) 1 22 := ⟨by decide +kernel, rfl⟩
theorem dX6_after_22 : nv_dc qX6_after 22 (.getfield 177) 3 25 := ⟨by decide +kernel, rfl⟩
theorem dX6_after_25 : nv_dk qX6_after 25 99 27 := Or.inr (Or.inl ⟨99, ⟨by decide +kernel, rfl⟩, by decide⟩)
theorem dX6_after_27 : nv_dc qX6_after 27 (.invokestatic 74) 3 30 := ⟨by decide +kernel, rfl⟩
theorem dX6_after_30 : nv_dif qX6_after 30 .ne 36 33 := ⟨6, by decide +kernel, by decide, rfl⟩
theorem dX6_after_33 : nv_dk qX6_after 33 (-2) 35 := Or.inr (Or.inl ⟨(-2), ⟨by decide +kernel, rfl⟩, by decide⟩)
theorem dX6_after_35 : decode qX6_after.2.1 35 = .ok (.ireturn, 1) := by decide +kernel
theorem dX6_after_36 : nv_diload qX6_after 36 4 38 := Or.inl ⟨by decide +kernel, rfl⟩
theorem dX6_after_38 : nv_dc qX6_after 38 (.invokestatic 129) 3 41 := ⟨by decide +kernel, rfl⟩
theorem dX6_after_41 : nv_dif qX6_after 41 .eq 52 44 := ⟨11, by decide +kernel, by decide, rfl⟩
theorem dX6_after_44 : nv_diload qX6_after 44 5 46 := Or.inl ⟨by decide +kernel, rfl⟩
theorem dX6_after_46 : nv_dc qX6_after 46 (.invokestatic 132) 3 49 := ⟨by decide +kernel, rfl⟩
theorem dX6_after_49 : nv_dif qX6_after 49 .ne 55 52 := ⟨6, by decide +kernel, by decide, rfl⟩
theorem dX6_after_52 : nv_dk qX6_after 52 (-2) 54 := Or.inr (Or.inl ⟨(-2), ⟨by decide +kernel, rfl⟩, by decide⟩)
theorem dX6_after_54 : decode qX6_after.2.1 54 = .ok (.ireturn, 1) := by decide +kernel
theorem dX6_after_55 : nv_daload qX6_after 55 0 56 := Or.inr ⟨0, rfl, by decide +kernel, rfl⟩
theorem dX6_after_56 : nv_dc qX6_after 56 (.getfield 204) 3 59 := ⟨by decide +kernel, rfl⟩
theorem dX6_after_59 : nv_dk qX6_after 59 12 61 := Or.inr (Or.inl ⟨12, ⟨by decide +kernel, rfl⟩, by decide⟩)
theorem dX6_after_61 : nv_dic qX6_after 61 .lt 67 64 := ⟨6, by decide +kernel, by decide, rfl⟩
theorem dX6_after_64 : nv_dk qX6_after 64 (-4) 66 := Or.inr (Or.inl ⟨(-4), ⟨by decide +kernel, rfl⟩, by decide⟩)
theorem dX6_after_66 : decode qX6_after.2.1 66 = .ok (.ireturn, 1) := by decide +kernel
theorem dX6_after_67 : nv_daload qX6_after 67 0 68 := Or.inr ⟨0, rfl, by decide +kernel, rfl⟩
theorem dX6_after_68 : nv_dc qX6_after 68 (.getfield 33) 3 71 := ⟨by decide +kernel, rfl⟩
theorem dX6_after_71 : nv_daload qX6_after 71 0 72 := Or.inr ⟨0, rfl, by decide +kernel, rfl⟩
theorem dX6_after_72 : nv_dc qX6_after 72 (.getfield 204) 3 75 := ⟨by decide +kernel, rfl⟩
theorem dX6_after_75 : nv_dc qX6_after 75 (.aaload) 1 76 := ⟨by decide +kernel, rfl⟩
theorem dX6_after_76 : nv_dastore qX6_after 76 6 78 := Or.inl ⟨by decide +kernel, rfl⟩
theorem dX6_after_78 : nv_daload qX6_after 78 6 80 := Or.inl ⟨by decide +kernel, rfl⟩
theorem dX6_after_80 : nv_diload qX6_after 80 1 81 := Or.inr ⟨1, rfl, by decide +kernel, rfl⟩
theorem dX6_after_81 : nv_dc qX6_after 81 (.putfield 207) 3 84 := ⟨by decide +kernel, rfl⟩
theorem dX6_after_84 : nv_daload qX6_after 84 6 86 := Or.inl ⟨by decide +kernel, rfl⟩
theorem dX6_after_86 : nv_diload qX6_after 86 2 87 := Or.inr ⟨2, rfl, by decide +kernel, rfl⟩
theorem dX6_after_87 : nv_dc qX6_after 87 (.putfield 209) 3 90 := ⟨by decide +kernel, rfl⟩
theorem dX6_after_90 : nv_daload qX6_after 90 6 92 := Or.inl ⟨by decide +kernel, rfl⟩
theorem dX6_after_92 : nv_diload qX6_after 92 3 93 := Or.inr ⟨3, rfl, by decide +kernel, rfl⟩
theorem dX6_after_93 : nv_dc qX6_after 93 (.putfield 210) 3 96 := ⟨by decide +kernel, rfl⟩
theorem dX6_after_96 : nv_daload qX6_after 96 6 98 := Or.inl ⟨by decide +kernel, rfl⟩
theorem dX6_after_98 : nv_diload qX6_after 98 4 100 := Or.inl ⟨by decide +kernel, rfl⟩
theorem dX6_after_100 : nv_dc qX6_after 100 (.putfield 211) 3 103 := ⟨by decide +kernel, rfl⟩
theorem dX6_after_103 : nv_daload qX6_after 103 6 105 := Or.inl ⟨by decide +kernel, rfl⟩
theorem dX6_after_105 : nv_diload qX6_after 105 5 107 := Or.inl ⟨by decide +kernel, rfl⟩
theorem dX6_after_107 : nv_dc qX6_after 107 (.putfield 214) 3 110 := ⟨by decide +kernel, rfl⟩
theorem dX6_after_110 : nv_daload qX6_after 110 0 111 := Or.inr ⟨0, rfl, by decide +kernel, rfl⟩
theorem dX6_after_111 : nv_dc qX6_after 111 (.dup) 1 112 := ⟨by decide +kernel, rfl⟩
theorem dX6_after_112 : nv_dc qX6_after 112 (.getfield 204) 3 115 := ⟨by decide +kernel, rfl⟩
theorem dX6_after_115 : nv_dk qX6_after 115 1 116 := Or.inl ⟨1, ⟨by decide +kernel, rfl⟩, by decide⟩
theorem dX6_after_116 : nv_dc qX6_after 116 (.iadd) 1 117 := ⟨by decide +kernel, rfl⟩
theorem dX6_after_117 : nv_dc qX6_after 117 (.putfield 204) 3 120 := ⟨by decide +kernel, rfl⟩
theorem dX6_after_120 : nv_daload qX6_after 120 0 121 := Or.inr ⟨0, rfl, by decide +kernel, rfl⟩
theorem dX6_after_121 : nv_dc qX6_after 121 (.getfield 204) 3 124 := ⟨by decide +kernel, rfl⟩
theorem dX6_after_124 : nv_dk qX6_after 124 1 125 := Or.inl ⟨1, ⟨by decide +kernel, rfl⟩, by decide⟩
theorem dX6_after_125 : nv_dc qX6_after 125 (.isub) 1 126 := ⟨by decide +kernel, rfl⟩
theorem dX6_after_126 : decode qX6_after.2.1 126 = .ok (.ireturn, 1) := by decide +kernel
def fc_after (h : nv_Hp) (x1 : Int32) (x2 : Int32) (x3 : Int32) (x4 : Int32) (x5 : Int32) : Option (Int32 × nv_Hp) := (if (fc_isBargain h x1) = true then (if (fc_isPerson x2) = true then (if nv_inb x1 10 = true then (if (fc_isWithin x3 (h (37 + x1.toNatClampNeg) 6) 99) = true then (if (fc_isFlag x4) = true then (if (fc_isAmount x5) = true then (if (h 0 10) < 12 then (if nv_inb (h 0 10) 12 = true then (nv_lt (nv_up h (47 + (h 0 10).toNatClampNeg) 0 x1) fun h9 => (nv_lt (nv_up h9 (47 + (h 0 10).toNatClampNeg) 1 x2) fun h10 => (nv_lt (nv_up h10 (47 + (h 0 10).toNatClampNeg) 2 x3) fun h11 => (nv_lt (nv_up h11 (47 + (h 0 10).toNatClampNeg) 3 x4) fun h12 => (nv_lt (nv_up h12 (47 + (h 0 10).toNatClampNeg) 4 x5) fun h13 => (nv_lt (nv_up h13 0 10 ((h13 0 10) + 1)) fun h14 => some (((h14 0 10) - 1), h14))))))) else none) else some ((-4), h)) else some ((-2), h)) else some ((-2), h)) else some ((-2), h)) else none) else some ((-2), h)) else some ((-2), h))
set_option maxHeartbeats 2000000 in
theorem tc_after (G : nv_G) (h : nv_Hp) (x1 : Int32) (x2 : Int32) (x3 : Int32) (x4 : Int32) (x5 : Int32) {r : Int32 × nv_Hp} (hf : (fc_after h x1 x2 x3 x4 x5) = some r) : nv_Mt G 2 qX6_after [.ref 0, .int x1, .int x2, .int x3, .int x4, .int x5] (nv_s h) (some (.int r.1), nv_s r.2) := by
  refine nv_of (by decide +kernel) (fun ad => Nat.le_of_ble_eq_true rfl) (Nat.le_refl _) (Nat.le_of_ble_eq_true rfl) ?_
  show nv_E G 2 qX6_after 0 [some (.ref 0), some (.int x1), some (.int x2), some (.int x3), some (.int x4), some (.int x5), none] [] (nv_s h) (some (.int r.1), nv_s r.2)
  unfold fc_after at hf
  refine nv_aL dX6_after_0 rfl ?_
  refine nv_iL dX6_after_1 rfl ?_
  refine nv_cVi (tc_isBargain G h x1) dX6_after_2 lm_X6_201 y_qX6_isBargain ko_0 rfl rfl (by decide) rfl (Nat.le_of_ble_eq_true rfl) ?_
  refine nv_ifeqB dX6_after_5 (fun c1 => ?_) (fun c1 => ?_)
  · replace hf := nv_ip c1 hf
    refine nv_iL dX6_after_8 rfl ?_
    refine nv_cSi (tc_isPerson G h x2) dX6_after_9 lm_X6_70 y_qX6_isPerson rfl (by decide) rfl (Nat.le_of_ble_eq_true rfl) ?_
    refine nv_ifeqB dX6_after_12 (fun c2 => ?_) (fun c2 => ?_)
    · replace hf := nv_ip c2 hf
      refine nv_iL dX6_after_15 rfl ?_
      refine nv_aL dX6_after_16 rfl ?_
      refine nv_tR lf_X6_27 dX6_after_17 ko_0 rfl ?_
      refine nv_iL dX6_after_20 rfl ?_
      obtain ⟨g3, hf⟩ := nv_gd hf
      refine nv_aR dX6_after_21 kr_4 ⟨_, rfl⟩ g3 (nv_q1 _ _) ?_
      refine nv_gI lf_X6_177 dX6_after_22 (nv_o2 g3) rfl ?_
      refine nv_k dX6_after_25 ?_
      refine nv_cSi (tc_isWithin G h x3 (h (37 + x1.toNatClampNeg) 6) 99) dX6_after_27 lm_X6_74 y_qX6_isWithin rfl (by decide) rfl (Nat.le_of_ble_eq_true rfl) ?_
      refine nv_ifneB dX6_after_30 (fun c4 => ?_) (fun c4 => ?_)
      · replace hf := nv_ip c4 hf
        refine nv_iL dX6_after_36 rfl ?_
        refine nv_cSi (tc_isFlag G h x4) dX6_after_38 lm_X6_129 y_qX6_isFlag rfl (by decide) rfl (Nat.le_of_ble_eq_true rfl) ?_
        refine nv_ifeqB dX6_after_41 (fun c5 => ?_) (fun c5 => ?_)
        · replace hf := nv_ip c5 hf
          refine nv_iL dX6_after_44 rfl ?_
          refine nv_cSi (tc_isAmount G h x5) dX6_after_46 lm_X6_132 y_qX6_isAmount rfl (by decide) rfl (Nat.le_of_ble_eq_true rfl) ?_
          refine nv_ifneB dX6_after_49 (fun c6 => ?_) (fun c6 => ?_)
          · replace hf := nv_ip c6 hf
            refine nv_aL dX6_after_55 rfl ?_
            refine nv_tI lf_X6_204 dX6_after_56 ko_0 rfl ?_
            refine nv_k dX6_after_59 ?_
            refine nv_iclt dX6_after_61 (fun c7 => ?_) (fun c7 => ?_)
            · replace hf := nv_ip c7 hf
              refine nv_aL dX6_after_67 rfl ?_
              refine nv_tR lf_X6_33 dX6_after_68 ko_0 rfl ?_
              refine nv_aL dX6_after_71 rfl ?_
              refine nv_tI lf_X6_204 dX6_after_72 ko_0 rfl ?_
              obtain ⟨g8, hf⟩ := nv_gd hf
              refine nv_aR dX6_after_75 kr_5 ⟨_, rfl⟩ g8 (nv_q1 _ _) ?_
              refine nv_aS dX6_after_76 (by decide) rfl rfl ?_
              refine nv_aL dX6_after_78 rfl ?_
              refine nv_iL dX6_after_80 rfl ?_
              refine nv_pI lp_X6_207 dX6_after_81 (nv_o0 g8) rfl ?_
              obtain ⟨h9, eh9, hf⟩ := nv_ltX hf
              rw [eh9]
              clear eh9
              refine nv_aL dX6_after_84 rfl ?_
              refine nv_iL dX6_after_86 rfl ?_
              refine nv_pI lp_X6_209 dX6_after_87 (nv_o0 g8) rfl ?_
              obtain ⟨h10, eh10, hf⟩ := nv_ltX hf
              rw [eh10]
              clear eh10
              refine nv_aL dX6_after_90 rfl ?_
              refine nv_iL dX6_after_92 rfl ?_
              refine nv_pI lp_X6_210 dX6_after_93 (nv_o0 g8) rfl ?_
              obtain ⟨h11, eh11, hf⟩ := nv_ltX hf
              rw [eh11]
              clear eh11
              refine nv_aL dX6_after_96 rfl ?_
              refine nv_iL dX6_after_98 rfl ?_
              refine nv_pI lp_X6_211 dX6_after_100 (nv_o0 g8) rfl ?_
              obtain ⟨h12, eh12, hf⟩ := nv_ltX hf
              rw [eh12]
              clear eh12
              refine nv_aL dX6_after_103 rfl ?_
              refine nv_iL dX6_after_105 rfl ?_
              refine nv_pI lp_X6_214 dX6_after_107 (nv_o0 g8) rfl ?_
              obtain ⟨h13, eh13, hf⟩ := nv_ltX hf
              rw [eh13]
              clear eh13
              refine nv_aL dX6_after_110 rfl ?_
              refine nv_dup dX6_after_111 rfl ?_
              refine nv_tI lf_X6_204 dX6_after_112 ko_0 rfl ?_
              refine nv_k dX6_after_115 ?_
              refine nv_iadd dX6_after_116 ?_
              refine nv_tP lp_X6_204 dX6_after_117 ko_0 rfl ?_
              obtain ⟨h14, eh14, hf⟩ := nv_ltX hf
              rw [eh14]
              clear eh14
              refine nv_aL dX6_after_120 rfl ?_
              refine nv_tI lf_X6_204 dX6_after_121 ko_0 rfl ?_
              refine nv_k dX6_after_124 ?_
              refine nv_isub dX6_after_125 ?_
              obtain rfl := Option.some.inj hf
              exact nv_ireturnI dX6_after_126 rfl
            · replace hf := nv_in c7 hf
              refine nv_k dX6_after_64 ?_
              obtain rfl := Option.some.inj hf
              exact nv_ireturnI dX6_after_66 rfl
          · replace hf := nv_in c6 hf
            refine nv_k dX6_after_52 ?_
            obtain rfl := Option.some.inj hf
            exact nv_ireturnI dX6_after_54 rfl
        · replace hf := nv_in c5 hf
          refine nv_k dX6_after_52 ?_
          obtain rfl := Option.some.inj hf
          exact nv_ireturnI dX6_after_54 rfl
      · replace hf := nv_in c4 hf
        refine nv_k dX6_after_33 ?_
        obtain rfl := Option.some.inj hf
        exact nv_ireturnI dX6_after_35 rfl
    · replace hf := nv_in c2 hf
      refine nv_k dX6_after_33 ?_
      obtain rfl := Option.some.inj hf
      exact nv_ireturnI dX6_after_35 rfl
  · replace hf := nv_in c1 hf
    refine nv_k dX6_after_33 ?_
    obtain rfl := Option.some.inj hf
    exact nv_ireturnI dX6_after_35 rfl
/-! WhoseName.leaveIs -/
theorem dX6_leaveIs_0 : nv_daload qX6_leaveIs 0 0 1 := Or.inr ⟨0, rfl, by decide +kernel, rfl⟩
theorem dX6_leaveIs_1 : nv_diload qX6_leaveIs 1 1 2 := Or.inr ⟨1, rfl, by decide +kernel, rfl⟩
theorem dX6_leaveIs_2 : nv_dc qX6_leaveIs 2 (.invokevirtual 114) 3 5 := ⟨by decide +kernel, rfl⟩
theorem dX6_leaveIs_5 : nv_dif qX6_leaveIs 5 .ne 11 8 := ⟨6, by decide +kernel, by decide, rfl⟩
theorem dX6_leaveIs_8 : nv_dk qX6_leaveIs 8 (-2) 10 := Or.inr (Or.inl ⟨(-2), ⟨by decide +kernel, rfl⟩, by decide⟩)
theorem dX6_leaveIs_10 : decode qX6_leaveIs.2.1 10 = .ok (.ireturn, 1) := by decide +kernel
theorem dX6_leaveIs_11 : nv_daload qX6_leaveIs 11 0 12 := Or.inr ⟨0, rfl, by decide +kernel, rfl⟩
theorem dX6_leaveIs_12 : nv_dc qX6_leaveIs 12 (.getfield 15) 3 15 := ⟨by decide +kernel, rfl⟩
theorem dX6_leaveIs_15 : nv_diload qX6_leaveIs 15 1 16 := Or.inr ⟨1, rfl, by decide +kernel, rfl⟩
theorem dX6_leaveIs_16 : nv_dc qX6_leaveIs 16 (.aaload) 1 17 := ⟨by decide +kernel, rfl⟩
theorem dX6_leaveIs_17 : nv_dastore qX6_leaveIs 17 3 18 := Or.inr ⟨3, rfl, by decide +kernel, rfl⟩
theorem dX6_leaveIs_18 : nv_diload qX6_leaveIs 18 2 19 := Or.inr ⟨2, rfl, by decide +kernel, rfl⟩
theorem dX6_leaveIs_19 : decode qX6_leaveIs.2.1 19 = .ok (.tableswitch 103 0 9 #[53, 58, 63, 68, 73, 78, 83, 88, 93, 98], 53) := by decide +kernel
theorem swX6_leaveIs_19_0 (x : Int32) (hx : x = 0) : nv_dsw qX6_leaveIs 19 x 72 := by subst hx; exact Or.inl ⟨_, _, _, _, _, dX6_leaveIs_19, Or.inl ⟨53, by decide, by decide, rfl, by decide⟩⟩
theorem swX6_leaveIs_19_1 (x : Int32) (hx : x = 1) : nv_dsw qX6_leaveIs 19 x 77 := by subst hx; exact Or.inl ⟨_, _, _, _, _, dX6_leaveIs_19, Or.inl ⟨58, by decide, by decide, rfl, by decide⟩⟩
theorem swX6_leaveIs_19_2 (x : Int32) (hx : x = 2) : nv_dsw qX6_leaveIs 19 x 82 := by subst hx; exact Or.inl ⟨_, _, _, _, _, dX6_leaveIs_19, Or.inl ⟨63, by decide, by decide, rfl, by decide⟩⟩
theorem swX6_leaveIs_19_3 (x : Int32) (hx : x = 3) : nv_dsw qX6_leaveIs 19 x 87 := by subst hx; exact Or.inl ⟨_, _, _, _, _, dX6_leaveIs_19, Or.inl ⟨68, by decide, by decide, rfl, by decide⟩⟩
theorem swX6_leaveIs_19_4 (x : Int32) (hx : x = 4) : nv_dsw qX6_leaveIs 19 x 92 := by subst hx; exact Or.inl ⟨_, _, _, _, _, dX6_leaveIs_19, Or.inl ⟨73, by decide, by decide, rfl, by decide⟩⟩
theorem swX6_leaveIs_19_5 (x : Int32) (hx : x = 5) : nv_dsw qX6_leaveIs 19 x 97 := by subst hx; exact Or.inl ⟨_, _, _, _, _, dX6_leaveIs_19, Or.inl ⟨78, by decide, by decide, rfl, by decide⟩⟩
theorem swX6_leaveIs_19_6 (x : Int32) (hx : x = 6) : nv_dsw qX6_leaveIs 19 x 102 := by subst hx; exact Or.inl ⟨_, _, _, _, _, dX6_leaveIs_19, Or.inl ⟨83, by decide, by decide, rfl, by decide⟩⟩
theorem swX6_leaveIs_19_7 (x : Int32) (hx : x = 7) : nv_dsw qX6_leaveIs 19 x 107 := by subst hx; exact Or.inl ⟨_, _, _, _, _, dX6_leaveIs_19, Or.inl ⟨88, by decide, by decide, rfl, by decide⟩⟩
theorem swX6_leaveIs_19_8 (x : Int32) (hx : x = 8) : nv_dsw qX6_leaveIs 19 x 112 := by subst hx; exact Or.inl ⟨_, _, _, _, _, dX6_leaveIs_19, Or.inl ⟨93, by decide, by decide, rfl, by decide⟩⟩
theorem swX6_leaveIs_19_9 (x : Int32) (hx : x = 9) : nv_dsw qX6_leaveIs 19 x 117 := by subst hx; exact Or.inl ⟨_, _, _, _, _, dX6_leaveIs_19, Or.inl ⟨98, by decide, by decide, rfl, by decide⟩⟩
theorem swX6_leaveIs_19_d (x : Int32) (c0 : ¬ x = 0) (c1 : ¬ x = 1) (c2 : ¬ x = 2) (c3 : ¬ x = 3) (c4 : ¬ x = 4) (c5 : ¬ x = 5) (c6 : ¬ x = 6) (c7 : ¬ x = 7) (c8 : ¬ x = 8) (c9 : ¬ x = 9) : nv_dsw qX6_leaveIs 19 x 122 := by
  have g0 : x.toInt ≠ 0 := fun e => c0 (Int32.toInt_inj.mp (e.trans (by decide)))
  have g1 : x.toInt ≠ 1 := fun e => c1 (Int32.toInt_inj.mp (e.trans (by decide)))
  have g2 : x.toInt ≠ 2 := fun e => c2 (Int32.toInt_inj.mp (e.trans (by decide)))
  have g3 : x.toInt ≠ 3 := fun e => c3 (Int32.toInt_inj.mp (e.trans (by decide)))
  have g4 : x.toInt ≠ 4 := fun e => c4 (Int32.toInt_inj.mp (e.trans (by decide)))
  have g5 : x.toInt ≠ 5 := fun e => c5 (Int32.toInt_inj.mp (e.trans (by decide)))
  have g6 : x.toInt ≠ 6 := fun e => c6 (Int32.toInt_inj.mp (e.trans (by decide)))
  have g7 : x.toInt ≠ 7 := fun e => c7 (Int32.toInt_inj.mp (e.trans (by decide)))
  have g8 : x.toInt ≠ 8 := fun e => c8 (Int32.toInt_inj.mp (e.trans (by decide)))
  have g9 : x.toInt ≠ 9 := fun e => c9 (Int32.toInt_inj.mp (e.trans (by decide)))
  exact Or.inl ⟨_, _, _, _, _, dX6_leaveIs_19, Or.inr ⟨by omega, by decide⟩⟩
theorem dX6_leaveIs_72 : nv_daload qX6_leaveIs 72 3 73 := Or.inr ⟨3, rfl, by decide +kernel, rfl⟩
theorem dX6_leaveIs_73 : nv_dc qX6_leaveIs 73 (.getfield 89) 3 76 := ⟨by decide +kernel, rfl⟩
theorem dX6_leaveIs_76 : decode qX6_leaveIs.2.1 76 = .ok (.ireturn, 1) := by decide +kernel
theorem dX6_leaveIs_77 : nv_daload qX6_leaveIs 77 3 78 := Or.inr ⟨3, rfl, by decide +kernel, rfl⟩
theorem dX6_leaveIs_78 : nv_dc qX6_leaveIs 78 (.getfield 117) 3 81 := ⟨by decide +kernel, rfl⟩
theorem dX6_leaveIs_81 : decode qX6_leaveIs.2.1 81 = .ok (.ireturn, 1) := by decide +kernel
theorem dX6_leaveIs_82 : nv_daload qX6_leaveIs 82 3 83 := Or.inr ⟨3, rfl, by decide +kernel, rfl⟩
theorem dX6_leaveIs_83 : nv_dc qX6_leaveIs 83 (.getfield 92) 3 86 := ⟨by decide +kernel, rfl⟩
theorem dX6_leaveIs_86 : decode qX6_leaveIs.2.1 86 = .ok (.ireturn, 1) := by decide +kernel
theorem dX6_leaveIs_87 : nv_daload qX6_leaveIs 87 3 88 := Or.inr ⟨3, rfl, by decide +kernel, rfl⟩
theorem dX6_leaveIs_88 : nv_dc qX6_leaveIs 88 (.getfield 95) 3 91 := ⟨by decide +kernel, rfl⟩
theorem dX6_leaveIs_91 : decode qX6_leaveIs.2.1 91 = .ok (.ireturn, 1) := by decide +kernel
theorem dX6_leaveIs_92 : nv_daload qX6_leaveIs 92 3 93 := Or.inr ⟨3, rfl, by decide +kernel, rfl⟩
theorem dX6_leaveIs_93 : nv_dc qX6_leaveIs 93 (.getfield 98) 3 96 := ⟨by decide +kernel, rfl⟩
theorem dX6_leaveIs_96 : decode qX6_leaveIs.2.1 96 = .ok (.ireturn, 1) := by decide +kernel
theorem dX6_leaveIs_97 : nv_daload qX6_leaveIs 97 3 98 := Or.inr ⟨3, rfl, by decide +kernel, rfl⟩
theorem dX6_leaveIs_98 : nv_dc qX6_leaveIs 98 (.getfield 101) 3 101 := ⟨by decide +kernel, rfl⟩
theorem dX6_leaveIs_101 : decode qX6_leaveIs.2.1 101 = .ok (.ireturn, 1) := by decide +kernel
theorem dX6_leaveIs_102 : nv_daload qX6_leaveIs 102 3 103 := Or.inr ⟨3, rfl, by decide +kernel, rfl⟩
theorem dX6_leaveIs_103 : nv_dc qX6_leaveIs 103 (.getfield 104) 3 106 := ⟨by decide +kernel, rfl⟩
theorem dX6_leaveIs_106 : decode qX6_leaveIs.2.1 106 = .ok (.ireturn, 1) := by decide +kernel
theorem dX6_leaveIs_107 : nv_daload qX6_leaveIs 107 3 108 := Or.inr ⟨3, rfl, by decide +kernel, rfl⟩
theorem dX6_leaveIs_108 : nv_dc qX6_leaveIs 108 (.getfield 107) 3 111 := ⟨by decide +kernel, rfl⟩
theorem dX6_leaveIs_111 : decode qX6_leaveIs.2.1 111 = .ok (.ireturn, 1) := by decide +kernel
theorem dX6_leaveIs_112 : nv_daload qX6_leaveIs 112 3 113 := Or.inr ⟨3, rfl, by decide +kernel, rfl⟩
theorem dX6_leaveIs_113 : nv_dc qX6_leaveIs 113 (.getfield 120) 3 116 := ⟨by decide +kernel, rfl⟩
theorem dX6_leaveIs_116 : decode qX6_leaveIs.2.1 116 = .ok (.ireturn, 1) := by decide +kernel
theorem dX6_leaveIs_117 : nv_daload qX6_leaveIs 117 3 118 := Or.inr ⟨3, rfl, by decide +kernel, rfl⟩
theorem dX6_leaveIs_118 : nv_dc qX6_leaveIs 118 (.getfield 123) 3 121 := ⟨by decide +kernel, rfl⟩
theorem dX6_leaveIs_121 : decode qX6_leaveIs.2.1 121 = .ok (.ireturn, 1) := by decide +kernel
theorem dX6_leaveIs_122 : nv_dk qX6_leaveIs 122 (-2) 124 := Or.inr (Or.inl ⟨(-2), ⟨by decide +kernel, rfl⟩, by decide⟩)
theorem dX6_leaveIs_124 : decode qX6_leaveIs.2.1 124 = .ok (.ireturn, 1) := by decide +kernel
def fc_leaveIs (h : nv_Hp) (x1 : Int32) (x2 : Int32) : Option (Int32) := (if (fc_isLeave h x1) = true then (if nv_inb x1 12 = true then (if x2 = 0 then some (h (13 + x1.toNatClampNeg) 0) else (if x2 = 1 then some (h (13 + x1.toNatClampNeg) 1) else (if x2 = 2 then some (h (13 + x1.toNatClampNeg) 2) else (if x2 = 3 then some (h (13 + x1.toNatClampNeg) 3) else (if x2 = 4 then some (h (13 + x1.toNatClampNeg) 4) else (if x2 = 5 then some (h (13 + x1.toNatClampNeg) 5) else (if x2 = 6 then some (h (13 + x1.toNatClampNeg) 6) else (if x2 = 7 then some (h (13 + x1.toNatClampNeg) 7) else (if x2 = 8 then some (h (13 + x1.toNatClampNeg) 8) else (if x2 = 9 then some (h (13 + x1.toNatClampNeg) 9) else some (-2))))))))))) else none) else some (-2))
set_option maxHeartbeats 2000000 in
theorem tc_leaveIs (G : nv_G) (h : nv_Hp) (x1 : Int32) (x2 : Int32) {r : Int32} (hf : (fc_leaveIs h x1 x2) = some r) : nv_Mt G 2 qX6_leaveIs [.ref 0, .int x1, .int x2] (nv_s h) (some (.int r), nv_s h) := by
  refine nv_of (by decide +kernel) (fun ad => Nat.le_of_ble_eq_true rfl) (Nat.le_refl _) (Nat.le_of_ble_eq_true rfl) ?_
  show nv_E G 2 qX6_leaveIs 0 [some (.ref 0), some (.int x1), some (.int x2), none] [] (nv_s h) (some (.int r), nv_s h)
  unfold fc_leaveIs at hf
  refine nv_aL dX6_leaveIs_0 rfl ?_
  refine nv_iL dX6_leaveIs_1 rfl ?_
  refine nv_cVi (tc_isLeave G h x1) dX6_leaveIs_2 lm_X6_114 y_qX6_isLeave ko_0 rfl rfl (by decide) rfl (Nat.le_of_ble_eq_true rfl) ?_
  refine nv_ifneB dX6_leaveIs_5 (fun c1 => ?_) (fun c1 => ?_)
  · replace hf := nv_ip c1 hf
    refine nv_aL dX6_leaveIs_11 rfl ?_
    refine nv_tR lf_X6_15 dX6_leaveIs_12 ko_0 rfl ?_
    refine nv_iL dX6_leaveIs_15 rfl ?_
    obtain ⟨g2, hf⟩ := nv_gd hf
    refine nv_aR dX6_leaveIs_16 kr_2 ⟨_, rfl⟩ g2 (nv_q1 _ _) ?_
    refine nv_aS dX6_leaveIs_17 (by decide) rfl rfl ?_
    refine nv_iL dX6_leaveIs_18 rfl ?_
    by_cases c3 : x2 = 0
    · replace hf := nv_ip c3 hf
      refine nv_switch (tgt := 72) (swX6_leaveIs_19_0 _ c3) ?_
      refine nv_aL dX6_leaveIs_72 rfl ?_
      refine nv_gI lf_X6_89 dX6_leaveIs_73 (nv_o4 g2) rfl ?_
      obtain rfl := Option.some.inj hf
      exact nv_ireturnI dX6_leaveIs_76 rfl
    · replace hf := nv_in c3 hf
      by_cases c4 : x2 = 1
      · replace hf := nv_ip c4 hf
        refine nv_switch (tgt := 77) (swX6_leaveIs_19_1 _ c4) ?_
        refine nv_aL dX6_leaveIs_77 rfl ?_
        refine nv_gI lf_X6_117 dX6_leaveIs_78 (nv_o4 g2) rfl ?_
        obtain rfl := Option.some.inj hf
        exact nv_ireturnI dX6_leaveIs_81 rfl
      · replace hf := nv_in c4 hf
        by_cases c5 : x2 = 2
        · replace hf := nv_ip c5 hf
          refine nv_switch (tgt := 82) (swX6_leaveIs_19_2 _ c5) ?_
          refine nv_aL dX6_leaveIs_82 rfl ?_
          refine nv_gI lf_X6_92 dX6_leaveIs_83 (nv_o4 g2) rfl ?_
          obtain rfl := Option.some.inj hf
          exact nv_ireturnI dX6_leaveIs_86 rfl
        · replace hf := nv_in c5 hf
          by_cases c6 : x2 = 3
          · replace hf := nv_ip c6 hf
            refine nv_switch (tgt := 87) (swX6_leaveIs_19_3 _ c6) ?_
            refine nv_aL dX6_leaveIs_87 rfl ?_
            refine nv_gI lf_X6_95 dX6_leaveIs_88 (nv_o4 g2) rfl ?_
            obtain rfl := Option.some.inj hf
            exact nv_ireturnI dX6_leaveIs_91 rfl
          · replace hf := nv_in c6 hf
            by_cases c7 : x2 = 4
            · replace hf := nv_ip c7 hf
              refine nv_switch (tgt := 92) (swX6_leaveIs_19_4 _ c7) ?_
              refine nv_aL dX6_leaveIs_92 rfl ?_
              refine nv_gI lf_X6_98 dX6_leaveIs_93 (nv_o4 g2) rfl ?_
              obtain rfl := Option.some.inj hf
              exact nv_ireturnI dX6_leaveIs_96 rfl
            · replace hf := nv_in c7 hf
              by_cases c8 : x2 = 5
              · replace hf := nv_ip c8 hf
                refine nv_switch (tgt := 97) (swX6_leaveIs_19_5 _ c8) ?_
                refine nv_aL dX6_leaveIs_97 rfl ?_
                refine nv_gI lf_X6_101 dX6_leaveIs_98 (nv_o4 g2) rfl ?_
                obtain rfl := Option.some.inj hf
                exact nv_ireturnI dX6_leaveIs_101 rfl
              · replace hf := nv_in c8 hf
                by_cases c9 : x2 = 6
                · replace hf := nv_ip c9 hf
                  refine nv_switch (tgt := 102) (swX6_leaveIs_19_6 _ c9) ?_
                  refine nv_aL dX6_leaveIs_102 rfl ?_
                  refine nv_gI lf_X6_104 dX6_leaveIs_103 (nv_o4 g2) rfl ?_
                  obtain rfl := Option.some.inj hf
                  exact nv_ireturnI dX6_leaveIs_106 rfl
                · replace hf := nv_in c9 hf
                  by_cases c10 : x2 = 7
                  · replace hf := nv_ip c10 hf
                    refine nv_switch (tgt := 107) (swX6_leaveIs_19_7 _ c10) ?_
                    refine nv_aL dX6_leaveIs_107 rfl ?_
                    refine nv_gI lf_X6_107 dX6_leaveIs_108 (nv_o4 g2) rfl ?_
                    obtain rfl := Option.some.inj hf
                    exact nv_ireturnI dX6_leaveIs_111 rfl
                  · replace hf := nv_in c10 hf
                    by_cases c11 : x2 = 8
                    · replace hf := nv_ip c11 hf
                      refine nv_switch (tgt := 112) (swX6_leaveIs_19_8 _ c11) ?_
                      refine nv_aL dX6_leaveIs_112 rfl ?_
                      refine nv_gI lf_X6_120 dX6_leaveIs_113 (nv_o4 g2) rfl ?_
                      obtain rfl := Option.some.inj hf
                      exact nv_ireturnI dX6_leaveIs_116 rfl
                    · replace hf := nv_in c11 hf
                      by_cases c12 : x2 = 9
                      · replace hf := nv_ip c12 hf
                        refine nv_switch (tgt := 117) (swX6_leaveIs_19_9 _ c12) ?_
                        refine nv_aL dX6_leaveIs_117 rfl ?_
                        refine nv_gI lf_X6_123 dX6_leaveIs_118 (nv_o4 g2) rfl ?_
                        obtain rfl := Option.some.inj hf
                        exact nv_ireturnI dX6_leaveIs_121 rfl
                      · replace hf := nv_in c12 hf
                        refine nv_switch (tgt := 122) (swX6_leaveIs_19_d _ c3 c4 c5 c6 c7 c8 c9 c10 c11 c12) ?_
                        refine nv_k dX6_leaveIs_122 ?_
                        obtain rfl := Option.some.inj hf
                        exact nv_ireturnI dX6_leaveIs_124 rfl
  · replace hf := nv_in c1 hf
    refine nv_k dX6_leaveIs_8 ?_
    obtain rfl := Option.some.inj hf
    exact nv_ireturnI dX6_leaveIs_10 rfl
/-! WhoseName.bargainIs -/
theorem dX6_bargainIs_0 : nv_daload qX6_bargainIs 0 0 1 := Or.inr ⟨0, rfl, by decide +kernel, rfl⟩
theorem dX6_bargainIs_1 : nv_diload qX6_bargainIs 1 1 2 := Or.inr ⟨1, rfl, by decide +kernel, rfl⟩
theorem dX6_bargainIs_2 : nv_dc qX6_bargainIs 2 (.invokevirtual 201) 3 5 := ⟨by decide +kernel, rfl⟩
theorem dX6_bargainIs_5 : nv_dif qX6_bargainIs 5 .ne 11 8 := ⟨6, by decide +kernel, by decide, rfl⟩
theorem dX6_bargainIs_8 : nv_dk qX6_bargainIs 8 (-2) 10 := Or.inr (Or.inl ⟨(-2), ⟨by decide +kernel, rfl⟩, by decide⟩)
theorem dX6_bargainIs_10 : decode qX6_bargainIs.2.1 10 = .ok (.ireturn, 1) := by decide +kernel
theorem dX6_bargainIs_11 : nv_daload qX6_bargainIs 11 0 12 := Or.inr ⟨0, rfl, by decide +kernel, rfl⟩
theorem dX6_bargainIs_12 : nv_dc qX6_bargainIs 12 (.getfield 27) 3 15 := ⟨by decide +kernel, rfl⟩
theorem dX6_bargainIs_15 : nv_diload qX6_bargainIs 15 1 16 := Or.inr ⟨1, rfl, by decide +kernel, rfl⟩
theorem dX6_bargainIs_16 : nv_dc qX6_bargainIs 16 (.aaload) 1 17 := ⟨by decide +kernel, rfl⟩
theorem dX6_bargainIs_17 : nv_dastore qX6_bargainIs 17 3 18 := Or.inr ⟨3, rfl, by decide +kernel, rfl⟩
theorem dX6_bargainIs_18 : nv_diload qX6_bargainIs 18 2 19 := Or.inr ⟨2, rfl, by decide +kernel, rfl⟩
theorem dX6_bargainIs_19 : decode qX6_bargainIs.2.1 19 = .ok (.tableswitch 67 0 5 #[37, 42, 47, 52, 57, 62], 37) := by decide +kernel
theorem swX6_bargainIs_19_0 (x : Int32) (hx : x = 0) : nv_dsw qX6_bargainIs 19 x 56 := by subst hx; exact Or.inl ⟨_, _, _, _, _, dX6_bargainIs_19, Or.inl ⟨37, by decide, by decide, rfl, by decide⟩⟩
theorem swX6_bargainIs_19_1 (x : Int32) (hx : x = 1) : nv_dsw qX6_bargainIs 19 x 61 := by subst hx; exact Or.inl ⟨_, _, _, _, _, dX6_bargainIs_19, Or.inl ⟨42, by decide, by decide, rfl, by decide⟩⟩
theorem swX6_bargainIs_19_2 (x : Int32) (hx : x = 2) : nv_dsw qX6_bargainIs 19 x 66 := by subst hx; exact Or.inl ⟨_, _, _, _, _, dX6_bargainIs_19, Or.inl ⟨47, by decide, by decide, rfl, by decide⟩⟩
theorem swX6_bargainIs_19_3 (x : Int32) (hx : x = 3) : nv_dsw qX6_bargainIs 19 x 71 := by subst hx; exact Or.inl ⟨_, _, _, _, _, dX6_bargainIs_19, Or.inl ⟨52, by decide, by decide, rfl, by decide⟩⟩
theorem swX6_bargainIs_19_4 (x : Int32) (hx : x = 4) : nv_dsw qX6_bargainIs 19 x 76 := by subst hx; exact Or.inl ⟨_, _, _, _, _, dX6_bargainIs_19, Or.inl ⟨57, by decide, by decide, rfl, by decide⟩⟩
theorem swX6_bargainIs_19_5 (x : Int32) (hx : x = 5) : nv_dsw qX6_bargainIs 19 x 81 := by subst hx; exact Or.inl ⟨_, _, _, _, _, dX6_bargainIs_19, Or.inl ⟨62, by decide, by decide, rfl, by decide⟩⟩
theorem swX6_bargainIs_19_d (x : Int32) (c0 : ¬ x = 0) (c1 : ¬ x = 1) (c2 : ¬ x = 2) (c3 : ¬ x = 3) (c4 : ¬ x = 4) (c5 : ¬ x = 5) : nv_dsw qX6_bargainIs 19 x 86 := by
  have g0 : x.toInt ≠ 0 := fun e => c0 (Int32.toInt_inj.mp (e.trans (by decide)))
  have g1 : x.toInt ≠ 1 := fun e => c1 (Int32.toInt_inj.mp (e.trans (by decide)))
  have g2 : x.toInt ≠ 2 := fun e => c2 (Int32.toInt_inj.mp (e.trans (by decide)))
  have g3 : x.toInt ≠ 3 := fun e => c3 (Int32.toInt_inj.mp (e.trans (by decide)))
  have g4 : x.toInt ≠ 4 := fun e => c4 (Int32.toInt_inj.mp (e.trans (by decide)))
  have g5 : x.toInt ≠ 5 := fun e => c5 (Int32.toInt_inj.mp (e.trans (by decide)))
  exact Or.inl ⟨_, _, _, _, _, dX6_bargainIs_19, Or.inr ⟨by omega, by decide⟩⟩
theorem dX6_bargainIs_56 : nv_daload qX6_bargainIs 56 3 57 := Or.inr ⟨3, rfl, by decide +kernel, rfl⟩
theorem dX6_bargainIs_57 : nv_dc qX6_bargainIs 57 (.getfield 162) 3 60 := ⟨by decide +kernel, rfl⟩
theorem dX6_bargainIs_60 : decode qX6_bargainIs.2.1 60 = .ok (.ireturn, 1) := by decide +kernel
theorem dX6_bargainIs_61 : nv_daload qX6_bargainIs 61 3 62 := Or.inr ⟨3, rfl, by decide +kernel, rfl⟩
theorem dX6_bargainIs_62 : nv_dc qX6_bargainIs 62 (.getfield 165) 3 65 := ⟨by decide +kernel, rfl⟩
theorem dX6_bargainIs_65 : decode qX6_bargainIs.2.1 65 = .ok (.ireturn, 1) := by decide +kernel
theorem dX6_bargainIs_66 : nv_daload qX6_bargainIs 66 3 67 := Or.inr ⟨3, rfl, by decide +kernel, rfl⟩
theorem dX6_bargainIs_67 : nv_dc qX6_bargainIs 67 (.getfield 168) 3 70 := ⟨by decide +kernel, rfl⟩
theorem dX6_bargainIs_70 : decode qX6_bargainIs.2.1 70 = .ok (.ireturn, 1) := by decide +kernel
theorem dX6_bargainIs_71 : nv_daload qX6_bargainIs 71 3 72 := Or.inr ⟨3, rfl, by decide +kernel, rfl⟩
theorem dX6_bargainIs_72 : nv_dc qX6_bargainIs 72 (.getfield 171) 3 75 := ⟨by decide +kernel, rfl⟩
theorem dX6_bargainIs_75 : decode qX6_bargainIs.2.1 75 = .ok (.ireturn, 1) := by decide +kernel
theorem dX6_bargainIs_76 : nv_daload qX6_bargainIs 76 3 77 := Or.inr ⟨3, rfl, by decide +kernel, rfl⟩
theorem dX6_bargainIs_77 : nv_dc qX6_bargainIs 77 (.getfield 174) 3 80 := ⟨by decide +kernel, rfl⟩
theorem dX6_bargainIs_80 : decode qX6_bargainIs.2.1 80 = .ok (.ireturn, 1) := by decide +kernel
theorem dX6_bargainIs_81 : nv_daload qX6_bargainIs 81 3 82 := Or.inr ⟨3, rfl, by decide +kernel, rfl⟩
theorem dX6_bargainIs_82 : nv_dc qX6_bargainIs 82 (.getfield 177) 3 85 := ⟨by decide +kernel, rfl⟩
theorem dX6_bargainIs_85 : decode qX6_bargainIs.2.1 85 = .ok (.ireturn, 1) := by decide +kernel
theorem dX6_bargainIs_86 : nv_dk qX6_bargainIs 86 (-2) 88 := Or.inr (Or.inl ⟨(-2), ⟨by decide +kernel, rfl⟩, by decide⟩)
theorem dX6_bargainIs_88 : decode qX6_bargainIs.2.1 88 = .ok (.ireturn, 1) := by decide +kernel
def fc_bargainIs (h : nv_Hp) (x1 : Int32) (x2 : Int32) : Option (Int32) := (if (fc_isBargain h x1) = true then (if nv_inb x1 10 = true then (if x2 = 0 then some (h (37 + x1.toNatClampNeg) 1) else (if x2 = 1 then some (h (37 + x1.toNatClampNeg) 2) else (if x2 = 2 then some (h (37 + x1.toNatClampNeg) 3) else (if x2 = 3 then some (h (37 + x1.toNatClampNeg) 4) else (if x2 = 4 then some (h (37 + x1.toNatClampNeg) 5) else (if x2 = 5 then some (h (37 + x1.toNatClampNeg) 6) else some (-2))))))) else none) else some (-2))
set_option maxHeartbeats 2000000 in
theorem tc_bargainIs (G : nv_G) (h : nv_Hp) (x1 : Int32) (x2 : Int32) {r : Int32} (hf : (fc_bargainIs h x1 x2) = some r) : nv_Mt G 2 qX6_bargainIs [.ref 0, .int x1, .int x2] (nv_s h) (some (.int r), nv_s h) := by
  refine nv_of (by decide +kernel) (fun ad => Nat.le_of_ble_eq_true rfl) (Nat.le_refl _) (Nat.le_of_ble_eq_true rfl) ?_
  show nv_E G 2 qX6_bargainIs 0 [some (.ref 0), some (.int x1), some (.int x2), none] [] (nv_s h) (some (.int r), nv_s h)
  unfold fc_bargainIs at hf
  refine nv_aL dX6_bargainIs_0 rfl ?_
  refine nv_iL dX6_bargainIs_1 rfl ?_
  refine nv_cVi (tc_isBargain G h x1) dX6_bargainIs_2 lm_X6_201 y_qX6_isBargain ko_0 rfl rfl (by decide) rfl (Nat.le_of_ble_eq_true rfl) ?_
  refine nv_ifneB dX6_bargainIs_5 (fun c1 => ?_) (fun c1 => ?_)
  · replace hf := nv_ip c1 hf
    refine nv_aL dX6_bargainIs_11 rfl ?_
    refine nv_tR lf_X6_27 dX6_bargainIs_12 ko_0 rfl ?_
    refine nv_iL dX6_bargainIs_15 rfl ?_
    obtain ⟨g2, hf⟩ := nv_gd hf
    refine nv_aR dX6_bargainIs_16 kr_4 ⟨_, rfl⟩ g2 (nv_q1 _ _) ?_
    refine nv_aS dX6_bargainIs_17 (by decide) rfl rfl ?_
    refine nv_iL dX6_bargainIs_18 rfl ?_
    by_cases c3 : x2 = 0
    · replace hf := nv_ip c3 hf
      refine nv_switch (tgt := 56) (swX6_bargainIs_19_0 _ c3) ?_
      refine nv_aL dX6_bargainIs_56 rfl ?_
      refine nv_gI lf_X6_162 dX6_bargainIs_57 (nv_o2 g2) rfl ?_
      obtain rfl := Option.some.inj hf
      exact nv_ireturnI dX6_bargainIs_60 rfl
    · replace hf := nv_in c3 hf
      by_cases c4 : x2 = 1
      · replace hf := nv_ip c4 hf
        refine nv_switch (tgt := 61) (swX6_bargainIs_19_1 _ c4) ?_
        refine nv_aL dX6_bargainIs_61 rfl ?_
        refine nv_gI lf_X6_165 dX6_bargainIs_62 (nv_o2 g2) rfl ?_
        obtain rfl := Option.some.inj hf
        exact nv_ireturnI dX6_bargainIs_65 rfl
      · replace hf := nv_in c4 hf
        by_cases c5 : x2 = 2
        · replace hf := nv_ip c5 hf
          refine nv_switch (tgt := 66) (swX6_bargainIs_19_2 _ c5) ?_
          refine nv_aL dX6_bargainIs_66 rfl ?_
          refine nv_gI lf_X6_168 dX6_bargainIs_67 (nv_o2 g2) rfl ?_
          obtain rfl := Option.some.inj hf
          exact nv_ireturnI dX6_bargainIs_70 rfl
        · replace hf := nv_in c5 hf
          by_cases c6 : x2 = 3
          · replace hf := nv_ip c6 hf
            refine nv_switch (tgt := 71) (swX6_bargainIs_19_3 _ c6) ?_
            refine nv_aL dX6_bargainIs_71 rfl ?_
            refine nv_gI lf_X6_171 dX6_bargainIs_72 (nv_o2 g2) rfl ?_
            obtain rfl := Option.some.inj hf
            exact nv_ireturnI dX6_bargainIs_75 rfl
          · replace hf := nv_in c6 hf
            by_cases c7 : x2 = 4
            · replace hf := nv_ip c7 hf
              refine nv_switch (tgt := 76) (swX6_bargainIs_19_4 _ c7) ?_
              refine nv_aL dX6_bargainIs_76 rfl ?_
              refine nv_gI lf_X6_174 dX6_bargainIs_77 (nv_o2 g2) rfl ?_
              obtain rfl := Option.some.inj hf
              exact nv_ireturnI dX6_bargainIs_80 rfl
            · replace hf := nv_in c7 hf
              by_cases c8 : x2 = 5
              · replace hf := nv_ip c8 hf
                refine nv_switch (tgt := 81) (swX6_bargainIs_19_5 _ c8) ?_
                refine nv_aL dX6_bargainIs_81 rfl ?_
                refine nv_gI lf_X6_177 dX6_bargainIs_82 (nv_o2 g2) rfl ?_
                obtain rfl := Option.some.inj hf
                exact nv_ireturnI dX6_bargainIs_85 rfl
              · replace hf := nv_in c8 hf
                refine nv_switch (tgt := 86) (swX6_bargainIs_19_d _ c3 c4 c5 c6 c7 c8) ?_
                refine nv_k dX6_bargainIs_86 ?_
                obtain rfl := Option.some.inj hf
                exact nv_ireturnI dX6_bargainIs_88 rfl
  · replace hf := nv_in c1 hf
    refine nv_k dX6_bargainIs_8 ?_
    obtain rfl := Option.some.inj hf
    exact nv_ireturnI dX6_bargainIs_10 rfl
/-! WhoseName.isLaw -/
theorem dX6_isLaw_0 : nv_diload qX6_isLaw 0 0 1 := Or.inr ⟨0, rfl, by decide +kernel, rfl⟩
theorem dX6_isLaw_1 : nv_dk qX6_isLaw 1 0 2 := Or.inl ⟨0, ⟨by decide +kernel, rfl⟩, by decide⟩
theorem dX6_isLaw_2 : nv_dk qX6_isLaw 2 1 3 := Or.inl ⟨1, ⟨by decide +kernel, rfl⟩, by decide⟩
theorem dX6_isLaw_3 : nv_dc qX6_isLaw 3 (.invokestatic 74) 3 6 := ⟨by decide +kernel, rfl⟩
theorem dX6_isLaw_6 : decode qX6_isLaw.2.1 6 = .ok (.ireturn, 1) := by decide +kernel
def fc_isLaw (x0 : Int32) : Bool := (fc_isWithin x0 0 1)
set_option maxHeartbeats 2000000 in
theorem tc_isLaw (G : nv_G) (h : nv_Hp) (x0 : Int32) : nv_Mt G 1 qX6_isLaw [.int x0] (nv_s h) (some (.int (nv_bi (fc_isLaw x0))), nv_s h) := by
  refine nv_of (by decide +kernel) (fun ad => Nat.le_of_ble_eq_true rfl) (Nat.le_refl _) (Nat.le_of_ble_eq_true rfl) ?_
  show nv_E G 1 qX6_isLaw 0 [some (.int x0)] [] (nv_s h) (some (.int (nv_bi (fc_isLaw x0))), nv_s h)
  generalize hf : (fc_isLaw x0) = r
  unfold fc_isLaw at hf
  refine nv_iL dX6_isLaw_0 rfl ?_
  refine nv_k dX6_isLaw_1 ?_
  refine nv_k dX6_isLaw_2 ?_
  refine nv_cSi (tc_isWithin G h x0 0 1) dX6_isLaw_3 lm_X6_74 y_qX6_isWithin rfl (by decide) rfl (Nat.le_of_ble_eq_true rfl) ?_
  subst hf
  exact nv_ireturnB (b := (fc_isWithin x0 0 1)) dX6_isLaw_6 rfl
/-! WhoseName.type -/
theorem dX6_type_0 : nv_diload qX6_type 0 1 1 := Or.inr ⟨1, rfl, by decide +kernel, rfl⟩
theorem dX6_type_1 : nv_dc qX6_type 1 (.invokestatic 217) 3 4 := ⟨by decide +kernel, rfl⟩
theorem dX6_type_4 : nv_dif qX6_type 4 .eq 18 7 := ⟨14, by decide +kernel, by decide, rfl⟩
theorem dX6_type_7 : nv_diload qX6_type 7 2 8 := Or.inr ⟨2, rfl, by decide +kernel, rfl⟩
theorem dX6_type_8 : nv_dk qX6_type 8 0 9 := Or.inl ⟨0, ⟨by decide +kernel, rfl⟩, by decide⟩
theorem dX6_type_9 : nv_dk qX6_type 9 255 12 := Or.inr (Or.inr ⟨255, ⟨by decide +kernel, rfl⟩, by decide⟩)
theorem dX6_type_12 : nv_dc qX6_type 12 (.invokestatic 74) 3 15 := ⟨by decide +kernel, rfl⟩
theorem dX6_type_15 : nv_dif qX6_type 15 .ne 21 18 := ⟨6, by decide +kernel, by decide, rfl⟩
theorem dX6_type_18 : nv_dk qX6_type 18 (-2) 20 := Or.inr (Or.inl ⟨(-2), ⟨by decide +kernel, rfl⟩, by decide⟩)
theorem dX6_type_20 : decode qX6_type.2.1 20 = .ok (.ireturn, 1) := by decide +kernel
theorem dX6_type_21 : nv_daload qX6_type 21 0 22 := Or.inr ⟨0, rfl, by decide +kernel, rfl⟩
theorem dX6_type_22 : nv_dc qX6_type 22 (.getfield 39) 3 25 := ⟨by decide +kernel, rfl⟩
theorem dX6_type_25 : nv_diload qX6_type 25 1 26 := Or.inr ⟨1, rfl, by decide +kernel, rfl⟩
theorem dX6_type_26 : nv_dc qX6_type 26 (.aaload) 1 27 := ⟨by decide +kernel, rfl⟩
theorem dX6_type_27 : nv_dc qX6_type 27 (.getfield 220) 3 30 := ⟨by decide +kernel, rfl⟩
theorem dX6_type_30 : nv_dk qX6_type 30 60 32 := Or.inr (Or.inl ⟨60, ⟨by decide +kernel, rfl⟩, by decide⟩)
theorem dX6_type_32 : nv_dic qX6_type 32 .lt 38 35 := ⟨6, by decide +kernel, by decide, rfl⟩
theorem dX6_type_35 : nv_dk qX6_type 35 (-4) 37 := Or.inr (Or.inl ⟨(-4), ⟨by decide +kernel, rfl⟩, by decide⟩)
theorem dX6_type_37 : decode qX6_type.2.1 37 = .ok (.ireturn, 1) := by decide +kernel
theorem dX6_type_38 : nv_daload qX6_type 38 0 39 := Or.inr ⟨0, rfl, by decide +kernel, rfl⟩
theorem dX6_type_39 : nv_dc qX6_type 39 (.getfield 39) 3 42 := ⟨by decide +kernel, rfl⟩
theorem dX6_type_42 : nv_diload qX6_type 42 1 43 := Or.inr ⟨1, rfl, by decide +kernel, rfl⟩
theorem dX6_type_43 : nv_dc qX6_type 43 (.aaload) 1 44 := ⟨by decide +kernel, rfl⟩
theorem dX6_type_44 : nv_diload qX6_type 44 2 45 := Or.inr ⟨2, rfl, by decide +kernel, rfl⟩
theorem dX6_type_45 : nv_dc qX6_type 45 (.invokevirtual 221) 3 48 := ⟨by decide +kernel, rfl⟩
theorem dX6_type_48 : nv_daload qX6_type 48 0 49 := Or.inr ⟨0, rfl, by decide +kernel, rfl⟩
theorem dX6_type_49 : nv_dc qX6_type 49 (.getfield 39) 3 52 := ⟨by decide +kernel, rfl⟩
theorem dX6_type_52 : nv_diload qX6_type 52 1 53 := Or.inr ⟨1, rfl, by decide +kernel, rfl⟩
theorem dX6_type_53 : nv_dc qX6_type 53 (.aaload) 1 54 := ⟨by decide +kernel, rfl⟩
theorem dX6_type_54 : nv_dc qX6_type 54 (.getfield 220) 3 57 := ⟨by decide +kernel, rfl⟩
theorem dX6_type_57 : decode qX6_type.2.1 57 = .ok (.ireturn, 1) := by decide +kernel
def fc_type (h : nv_Hp) (x1 : Int32) (x2 : Int32) : Option (Int32 × nv_Hp) := (if (fc_isLaw x1) = true then (if (fc_isWithin x2 0 255) = true then (if nv_inb x1 2 = true then (if (h (59 + 3 * x1.toNatClampNeg) 2) < 60 then (Option.bind (fw_append h (59 + 3 * x1.toNatClampNeg) x2) fun q5 => some ((q5 (59 + 3 * x1.toNatClampNeg) 2), q5)) else some ((-4), h)) else none) else some ((-2), h)) else some ((-2), h))
set_option maxHeartbeats 2000000 in
theorem tc_type (G : nv_G) (h : nv_Hp) (x1 : Int32) (x2 : Int32) {r : Int32 × nv_Hp} (hf : (fc_type h x1 x2) = some r) : nv_Mt G 6 qX6_type [.ref 0, .int x1, .int x2] (nv_s h) (some (.int r.1), nv_s r.2) := by
  refine nv_of (by decide +kernel) (fun ad => Nat.le_of_ble_eq_true rfl) (Nat.le_refl _) (Nat.le_of_ble_eq_true rfl) ?_
  show nv_E G 6 qX6_type 0 [some (.ref 0), some (.int x1), some (.int x2)] [] (nv_s h) (some (.int r.1), nv_s r.2)
  unfold fc_type at hf
  refine nv_iL dX6_type_0 rfl ?_
  refine nv_cSi (tc_isLaw G h x1) dX6_type_1 lm_X6_217 y_qX6_isLaw rfl (by decide) rfl (Nat.le_of_ble_eq_true rfl) ?_
  refine nv_ifeqB dX6_type_4 (fun c1 => ?_) (fun c1 => ?_)
  · replace hf := nv_ip c1 hf
    refine nv_iL dX6_type_7 rfl ?_
    refine nv_k dX6_type_8 ?_
    refine nv_k dX6_type_9 ?_
    refine nv_cSi (tc_isWithin G h x2 0 255) dX6_type_12 lm_X6_74 y_qX6_isWithin rfl (by decide) rfl (Nat.le_of_ble_eq_true rfl) ?_
    refine nv_ifneB dX6_type_15 (fun c2 => ?_) (fun c2 => ?_)
    · replace hf := nv_ip c2 hf
      refine nv_aL dX6_type_21 rfl ?_
      refine nv_tR lf_X6_39 dX6_type_22 ko_0 rfl ?_
      refine nv_iL dX6_type_25 rfl ?_
      obtain ⟨g3, hf⟩ := nv_gd hf
      refine nv_aR dX6_type_26 kr_6 ⟨_, rfl⟩ g3 rfl ?_
      refine nv_gI lf_X6_220 dX6_type_27 (nv_o3 g3) rfl ?_
      refine nv_k dX6_type_30 ?_
      refine nv_iclt dX6_type_32 (fun c4 => ?_) (fun c4 => ?_)
      · replace hf := nv_ip c4 hf
        refine nv_aL dX6_type_38 rfl ?_
        refine nv_tR lf_X6_39 dX6_type_39 ko_0 rfl ?_
        refine nv_iL dX6_type_42 rfl ?_
        refine nv_aR dX6_type_43 kr_6 ⟨_, rfl⟩ g3 rfl ?_
        refine nv_iL dX6_type_44 rfl ?_
        obtain ⟨q5, hq5, hf⟩ := nv_bd hf
        refine nv_cVv (tw_append G h (59 + 3 * x1.toNatClampNeg) (nv_o3 g3) x2 hq5) dX6_type_45 lm_X6_221 y_qX3_append (nv_o3 g3) rfl rfl (by decide) rfl (Nat.le_of_ble_eq_true rfl) ?_
        refine nv_aL dX6_type_48 rfl ?_
        refine nv_tR lf_X6_39 dX6_type_49 ko_0 rfl ?_
        refine nv_iL dX6_type_52 rfl ?_
        refine nv_aR dX6_type_53 kr_6 ⟨_, rfl⟩ g3 rfl ?_
        refine nv_gI lf_X6_220 dX6_type_54 (nv_o3 g3) rfl ?_
        obtain rfl := Option.some.inj hf
        exact nv_ireturnI dX6_type_57 rfl
      · replace hf := nv_in c4 hf
        refine nv_k dX6_type_35 ?_
        obtain rfl := Option.some.inj hf
        exact nv_ireturnI dX6_type_37 rfl
    · replace hf := nv_in c2 hf
      refine nv_k dX6_type_18 ?_
      obtain rfl := Option.some.inj hf
      exact nv_ireturnI dX6_type_20 rfl
  · replace hf := nv_in c1 hf
    refine nv_k dX6_type_18 ?_
    obtain rfl := Option.some.inj hf
    exact nv_ireturnI dX6_type_20 rfl
/-! WhoseName.wipe -/
theorem dX6_wipe_0 : nv_diload qX6_wipe 0 1 1 := Or.inr ⟨1, rfl, by decide +kernel, rfl⟩
theorem dX6_wipe_1 : nv_dc qX6_wipe 1 (.invokestatic 217) 3 4 := ⟨by decide +kernel, rfl⟩
theorem dX6_wipe_4 : nv_dif qX6_wipe 4 .ne 10 7 := ⟨6, by decide +kernel, by decide, rfl⟩
theorem dX6_wipe_7 : nv_dk qX6_wipe 7 (-2) 9 := Or.inr (Or.inl ⟨(-2), ⟨by decide +kernel, rfl⟩, by decide⟩)
theorem dX6_wipe_9 : decode qX6_wipe.2.1 9 = .ok (.ireturn, 1) := by decide +kernel
theorem dX6_wipe_10 : nv_daload qX6_wipe 10 0 11 := Or.inr ⟨0, rfl, by decide +kernel, rfl⟩
theorem dX6_wipe_11 : nv_dc qX6_wipe 11 (.getfield 39) 3 14 := ⟨by decide +kernel, rfl⟩
theorem dX6_wipe_14 : nv_diload qX6_wipe 14 1 15 := Or.inr ⟨1, rfl, by decide +kernel, rfl⟩
theorem dX6_wipe_15 : nv_dc qX6_wipe 15 (.aaload) 1 16 := ⟨by decide +kernel, rfl⟩
theorem dX6_wipe_16 : nv_dc qX6_wipe 16 (.getfield 220) 3 19 := ⟨by decide +kernel, rfl⟩
theorem dX6_wipe_19 : nv_distore qX6_wipe 19 2 20 := Or.inr ⟨2, rfl, by decide +kernel, rfl⟩
theorem dX6_wipe_20 : nv_daload qX6_wipe 20 0 21 := Or.inr ⟨0, rfl, by decide +kernel, rfl⟩
theorem dX6_wipe_21 : nv_dc qX6_wipe 21 (.getfield 39) 3 24 := ⟨by decide +kernel, rfl⟩
theorem dX6_wipe_24 : nv_diload qX6_wipe 24 1 25 := Or.inr ⟨1, rfl, by decide +kernel, rfl⟩
theorem dX6_wipe_25 : nv_dc qX6_wipe 25 (.aaload) 1 26 := ⟨by decide +kernel, rfl⟩
theorem dX6_wipe_26 : nv_dc qX6_wipe 26 (.invokevirtual 225) 3 29 := ⟨by decide +kernel, rfl⟩
theorem dX6_wipe_29 : nv_diload qX6_wipe 29 2 30 := Or.inr ⟨2, rfl, by decide +kernel, rfl⟩
theorem dX6_wipe_30 : decode qX6_wipe.2.1 30 = .ok (.ireturn, 1) := by decide +kernel
def fc_wipe (h : nv_Hp) (x1 : Int32) : Option (Int32 × nv_Hp) := (if (fc_isLaw x1) = true then (if nv_inb x1 2 = true then (nv_lt ((h (59 + 3 * x1.toNatClampNeg) 2)) fun v3 => (Option.bind (fw_clear h (59 + 3 * x1.toNatClampNeg)) fun q4 => some (v3, q4))) else none) else some ((-2), h))
set_option maxHeartbeats 2000000 in
theorem tc_wipe (G : nv_G) (h : nv_Hp) (x1 : Int32) {r : Int32 × nv_Hp} (hf : (fc_wipe h x1) = some r) : nv_Mt G 6 qX6_wipe [.ref 0, .int x1] (nv_s h) (some (.int r.1), nv_s r.2) := by
  refine nv_of (by decide +kernel) (fun ad => Nat.le_of_ble_eq_true rfl) (Nat.le_refl _) (Nat.le_of_ble_eq_true rfl) ?_
  show nv_E G 6 qX6_wipe 0 [some (.ref 0), some (.int x1), none] [] (nv_s h) (some (.int r.1), nv_s r.2)
  unfold fc_wipe at hf
  refine nv_iL dX6_wipe_0 rfl ?_
  refine nv_cSi (tc_isLaw G h x1) dX6_wipe_1 lm_X6_217 y_qX6_isLaw rfl (by decide) rfl (Nat.le_of_ble_eq_true rfl) ?_
  refine nv_ifneB dX6_wipe_4 (fun c1 => ?_) (fun c1 => ?_)
  · replace hf := nv_ip c1 hf
    refine nv_aL dX6_wipe_10 rfl ?_
    refine nv_tR lf_X6_39 dX6_wipe_11 ko_0 rfl ?_
    refine nv_iL dX6_wipe_14 rfl ?_
    obtain ⟨g2, hf⟩ := nv_gd hf
    refine nv_aR dX6_wipe_15 kr_6 ⟨_, rfl⟩ g2 rfl ?_
    refine nv_gI lf_X6_220 dX6_wipe_16 (nv_o3 g2) rfl ?_
    obtain ⟨v3, ev3, hf⟩ := nv_ltX hf
    rw [ev3]
    clear ev3
    refine nv_iS dX6_wipe_19 (by decide) rfl rfl ?_
    refine nv_aL dX6_wipe_20 rfl ?_
    refine nv_tR lf_X6_39 dX6_wipe_21 ko_0 rfl ?_
    refine nv_iL dX6_wipe_24 rfl ?_
    refine nv_aR dX6_wipe_25 kr_6 ⟨_, rfl⟩ g2 rfl ?_
    obtain ⟨q4, hq4, hf⟩ := nv_bd hf
    refine nv_cVv (tw_clear G h (59 + 3 * x1.toNatClampNeg) (nv_o3 g2) hq4) dX6_wipe_26 lm_X6_225 y_qX3_clear (nv_o3 g2) rfl rfl (by decide) rfl (Nat.le_of_ble_eq_true rfl) ?_
    refine nv_iL dX6_wipe_29 rfl ?_
    obtain rfl := Option.some.inj hf
    exact nv_ireturnI dX6_wipe_30 rfl
  · replace hf := nv_in c1 hf
    refine nv_k dX6_wipe_7 ?_
    obtain rfl := Option.some.inj hf
    exact nv_ireturnI dX6_wipe_9 rfl
/-! WhoseName.fault -/
theorem dX6_fault_0 : nv_diload qX6_fault 0 1 1 := Or.inr ⟨1, rfl, by decide +kernel, rfl⟩
theorem dX6_fault_1 : nv_dc qX6_fault 1 (.invokestatic 217) 3 4 := ⟨by decide +kernel, rfl⟩
theorem dX6_fault_4 : nv_dif qX6_fault 4 .eq 19 7 := ⟨15, by decide +kernel, by decide, rfl⟩
theorem dX6_fault_7 : nv_daload qX6_fault 7 0 8 := Or.inr ⟨0, rfl, by decide +kernel, rfl⟩
theorem dX6_fault_8 : nv_dc qX6_fault 8 (.getfield 39) 3 11 := ⟨by decide +kernel, rfl⟩
theorem dX6_fault_11 : nv_diload qX6_fault 11 1 12 := Or.inr ⟨1, rfl, by decide +kernel, rfl⟩
theorem dX6_fault_12 : nv_dc qX6_fault 12 (.aaload) 1 13 := ⟨by decide +kernel, rfl⟩
theorem dX6_fault_13 : nv_dc qX6_fault 13 (.getfield 228) 3 16 := ⟨by decide +kernel, rfl⟩
theorem dX6_fault_16 : nv_dgo qX6_fault 16 21 := ⟨5, by decide +kernel, by decide⟩
theorem dX6_fault_19 : nv_dk qX6_fault 19 (-2) 21 := Or.inr (Or.inl ⟨(-2), ⟨by decide +kernel, rfl⟩, by decide⟩)
theorem dX6_fault_21 : decode qX6_fault.2.1 21 = .ok (.ireturn, 1) := by decide +kernel
def fc_fault (h : nv_Hp) (x1 : Int32) : Option (Int32) := (if (fc_isLaw x1) = true then (if nv_inb x1 2 = true then some (h (59 + 3 * x1.toNatClampNeg) 3) else none) else some (-2))
set_option maxHeartbeats 2000000 in
theorem tc_fault (G : nv_G) (h : nv_Hp) (x1 : Int32) {r : Int32} (hf : (fc_fault h x1) = some r) : nv_Mt G 2 qX6_fault [.ref 0, .int x1] (nv_s h) (some (.int r), nv_s h) := by
  refine nv_of (by decide +kernel) (fun ad => Nat.le_of_ble_eq_true rfl) (Nat.le_refl _) (Nat.le_of_ble_eq_true rfl) ?_
  show nv_E G 2 qX6_fault 0 [some (.ref 0), some (.int x1)] [] (nv_s h) (some (.int r), nv_s h)
  unfold fc_fault at hf
  refine nv_iL dX6_fault_0 rfl ?_
  refine nv_cSi (tc_isLaw G h x1) dX6_fault_1 lm_X6_217 y_qX6_isLaw rfl (by decide) rfl (Nat.le_of_ble_eq_true rfl) ?_
  refine nv_ifeqB dX6_fault_4 (fun c1 => ?_) (fun c1 => ?_)
  · replace hf := nv_ip c1 hf
    refine nv_aL dX6_fault_7 rfl ?_
    refine nv_tR lf_X6_39 dX6_fault_8 ko_0 rfl ?_
    refine nv_iL dX6_fault_11 rfl ?_
    obtain ⟨g2, hf⟩ := nv_gd hf
    refine nv_aR dX6_fault_12 kr_6 ⟨_, rfl⟩ g2 rfl ?_
    refine nv_gI lf_X6_228 dX6_fault_13 (nv_o3 g2) rfl ?_
    refine nv_goto dX6_fault_16 ?_
    obtain rfl := Option.some.inj hf
    exact nv_ireturnI dX6_fault_21 rfl
  · replace hf := nv_in c1 hf
    refine nv_k dX6_fault_19 ?_
    obtain rfl := Option.some.inj hf
    exact nv_ireturnI dX6_fault_21 rfl
/-! WhoseName.law -/
theorem dX6_law_0 : nv_diload qX6_law 0 1 1 := Or.inr ⟨1, rfl, by decide +kernel, rfl⟩
theorem dX6_law_1 : nv_dc qX6_law 1 (.invokestatic 217) 3 4 := ⟨by decide +kernel, rfl⟩
theorem dX6_law_4 : nv_dif qX6_law 4 .eq 17 7 := ⟨13, by decide +kernel, by decide, rfl⟩
theorem dX6_law_7 : nv_diload qX6_law 7 2 8 := Or.inr ⟨2, rfl, by decide +kernel, rfl⟩
theorem dX6_law_8 : nv_dk qX6_law 8 0 9 := Or.inl ⟨0, ⟨by decide +kernel, rfl⟩, by decide⟩
theorem dX6_law_9 : nv_dk qX6_law 9 8 11 := Or.inr (Or.inl ⟨8, ⟨by decide +kernel, rfl⟩, by decide⟩)
theorem dX6_law_11 : nv_dc qX6_law 11 (.invokestatic 74) 3 14 := ⟨by decide +kernel, rfl⟩
theorem dX6_law_14 : nv_dif qX6_law 14 .ne 20 17 := ⟨6, by decide +kernel, by decide, rfl⟩
theorem dX6_law_17 : nv_dk qX6_law 17 (-2) 19 := Or.inr (Or.inl ⟨(-2), ⟨by decide +kernel, rfl⟩, by decide⟩)
theorem dX6_law_19 : decode qX6_law.2.1 19 = .ok (.ireturn, 1) := by decide +kernel
theorem dX6_law_20 : nv_daload qX6_law 20 0 21 := Or.inr ⟨0, rfl, by decide +kernel, rfl⟩
theorem dX6_law_21 : nv_dc qX6_law 21 (.getfield 39) 3 24 := ⟨by decide +kernel, rfl⟩
theorem dX6_law_24 : nv_diload qX6_law 24 1 25 := Or.inr ⟨1, rfl, by decide +kernel, rfl⟩
theorem dX6_law_25 : nv_dc qX6_law 25 (.aaload) 1 26 := ⟨by decide +kernel, rfl⟩
theorem dX6_law_26 : nv_dc qX6_law 26 (.getfield 231) 3 29 := ⟨by decide +kernel, rfl⟩
theorem dX6_law_29 : nv_diload qX6_law 29 2 30 := Or.inr ⟨2, rfl, by decide +kernel, rfl⟩
theorem dX6_law_30 : nv_dc qX6_law 30 (.iaload) 1 31 := ⟨by decide +kernel, rfl⟩
theorem dX6_law_31 : decode qX6_law.2.1 31 = .ok (.ireturn, 1) := by decide +kernel
def fc_law (h : nv_Hp) (x1 : Int32) (x2 : Int32) : Option (Int32) := (if (fc_isLaw x1) = true then (if (fc_isWithin x2 0 8) = true then (if nv_inb x1 2 = true then (if nv_inb x2 9 = true then some (h ((59 + 3 * x1.toNatClampNeg) + 2) x2.toNatClampNeg) else none) else none) else some (-2)) else some (-2))
set_option maxHeartbeats 2000000 in
theorem tc_law (G : nv_G) (h : nv_Hp) (x1 : Int32) (x2 : Int32) {r : Int32} (hf : (fc_law h x1 x2) = some r) : nv_Mt G 2 qX6_law [.ref 0, .int x1, .int x2] (nv_s h) (some (.int r), nv_s h) := by
  refine nv_of (by decide +kernel) (fun ad => Nat.le_of_ble_eq_true rfl) (Nat.le_refl _) (Nat.le_of_ble_eq_true rfl) ?_
  show nv_E G 2 qX6_law 0 [some (.ref 0), some (.int x1), some (.int x2)] [] (nv_s h) (some (.int r), nv_s h)
  unfold fc_law at hf
  refine nv_iL dX6_law_0 rfl ?_
  refine nv_cSi (tc_isLaw G h x1) dX6_law_1 lm_X6_217 y_qX6_isLaw rfl (by decide) rfl (Nat.le_of_ble_eq_true rfl) ?_
  refine nv_ifeqB dX6_law_4 (fun c1 => ?_) (fun c1 => ?_)
  · replace hf := nv_ip c1 hf
    refine nv_iL dX6_law_7 rfl ?_
    refine nv_k dX6_law_8 ?_
    refine nv_k dX6_law_9 ?_
    refine nv_cSi (tc_isWithin G h x2 0 8) dX6_law_11 lm_X6_74 y_qX6_isWithin rfl (by decide) rfl (Nat.le_of_ble_eq_true rfl) ?_
    refine nv_ifneB dX6_law_14 (fun c2 => ?_) (fun c2 => ?_)
    · replace hf := nv_ip c2 hf
      refine nv_aL dX6_law_20 rfl ?_
      refine nv_tR lf_X6_39 dX6_law_21 ko_0 rfl ?_
      refine nv_iL dX6_law_24 rfl ?_
      obtain ⟨g3, hf⟩ := nv_gd hf
      refine nv_aR dX6_law_25 kr_6 ⟨_, rfl⟩ g3 rfl ?_
      refine nv_gR (t := ((59 + 3 * x1.toNatClampNeg) + 2)) lf_X6_231 dX6_law_26 (nv_o3 g3) rfl ?_
      refine nv_iL dX6_law_29 rfl ?_
      obtain ⟨g4, hf⟩ := nv_gd hf
      refine nv_aI dX6_law_30 (nv_o3w (nv_o3 g3)) g4 rfl ?_
      obtain rfl := Option.some.inj hf
      exact nv_ireturnI dX6_law_31 rfl
    · replace hf := nv_in c2 hf
      refine nv_k dX6_law_17 ?_
      obtain rfl := Option.some.inj hf
      exact nv_ireturnI dX6_law_19 rfl
  · replace hf := nv_in c1 hf
    refine nv_k dX6_law_17 ?_
    obtain rfl := Option.some.inj hf
    exact nv_ireturnI dX6_law_19 rfl
/-! WhoseName.isAimedAt -/
theorem dX6_isAimedAt_0 : nv_daload qX6_isAimedAt 0 1 1 := Or.inr ⟨1, rfl, by decide +kernel, rfl⟩
theorem dX6_isAimedAt_1 : nv_dc qX6_isAimedAt 1 (.getfield 92) 3 4 := ⟨by decide +kernel, rfl⟩
theorem dX6_isAimedAt_4 : nv_daload qX6_isAimedAt 4 2 5 := Or.inr ⟨2, rfl, by decide +kernel, rfl⟩
theorem dX6_isAimedAt_5 : nv_dc qX6_isAimedAt 5 (.getfield 162) 3 8 := ⟨by decide +kernel, rfl⟩
theorem dX6_isAimedAt_8 : nv_dic qX6_isAimedAt 8 .eq 13 11 := ⟨5, by decide +kernel, by decide, rfl⟩
theorem dX6_isAimedAt_11 : nv_dk qX6_isAimedAt 11 0 12 := Or.inl ⟨0, ⟨by decide +kernel, rfl⟩, by decide⟩
theorem dX6_isAimedAt_12 : decode qX6_isAimedAt.2.1 12 = .ok (.ireturn, 1) := by decide +kernel
theorem dX6_isAimedAt_13 : nv_daload qX6_isAimedAt 13 1 14 := Or.inr ⟨1, rfl, by decide +kernel, rfl⟩
theorem dX6_isAimedAt_14 : nv_dc qX6_isAimedAt 14 (.getfield 89) 3 17 := ⟨by decide +kernel, rfl⟩
theorem dX6_isAimedAt_17 : nv_dk qX6_isAimedAt 17 2 18 := Or.inl ⟨2, ⟨by decide +kernel, rfl⟩, by decide⟩
theorem dX6_isAimedAt_18 : nv_dic qX6_isAimedAt 18 .ne 56 21 := ⟨38, by decide +kernel, by decide, rfl⟩
theorem dX6_isAimedAt_21 : nv_daload qX6_isAimedAt 21 2 22 := Or.inr ⟨2, rfl, by decide +kernel, rfl⟩
theorem dX6_isAimedAt_22 : nv_dc qX6_isAimedAt 22 (.getfield 165) 3 25 := ⟨by decide +kernel, rfl⟩
theorem dX6_isAimedAt_25 : nv_daload qX6_isAimedAt 25 1 26 := Or.inr ⟨1, rfl, by decide +kernel, rfl⟩
theorem dX6_isAimedAt_26 : nv_dc qX6_isAimedAt 26 (.getfield 117) 3 29 := ⟨by decide +kernel, rfl⟩
theorem dX6_isAimedAt_29 : nv_dic qX6_isAimedAt 29 .ne 54 32 := ⟨25, by decide +kernel, by decide, rfl⟩
theorem dX6_isAimedAt_32 : nv_daload qX6_isAimedAt 32 0 33 := Or.inr ⟨0, rfl, by decide +kernel, rfl⟩
theorem dX6_isAimedAt_33 : nv_dk qX6_isAimedAt 33 1 34 := Or.inl ⟨1, ⟨by decide +kernel, rfl⟩, by decide⟩
theorem dX6_isAimedAt_34 : nv_dc qX6_isAimedAt 34 (.iaload) 1 35 := ⟨by decide +kernel, rfl⟩
theorem dX6_isAimedAt_35 : nv_dk qX6_isAimedAt 35 1 36 := Or.inl ⟨1, ⟨by decide +kernel, rfl⟩, by decide⟩
theorem dX6_isAimedAt_36 : nv_dic qX6_isAimedAt 36 .ne 54 39 := ⟨18, by decide +kernel, by decide, rfl⟩
theorem dX6_isAimedAt_39 : nv_daload qX6_isAimedAt 39 2 40 := Or.inr ⟨2, rfl, by decide +kernel, rfl⟩
theorem dX6_isAimedAt_40 : nv_dc qX6_isAimedAt 40 (.getfield 168) 3 43 := ⟨by decide +kernel, rfl⟩
theorem dX6_isAimedAt_43 : nv_daload qX6_isAimedAt 43 1 44 := Or.inr ⟨1, rfl, by decide +kernel, rfl⟩
theorem dX6_isAimedAt_44 : nv_dc qX6_isAimedAt 44 (.getfield 95) 3 47 := ⟨by decide +kernel, rfl⟩
theorem dX6_isAimedAt_47 : nv_dic qX6_isAimedAt 47 .ne 54 50 := ⟨7, by decide +kernel, by decide, rfl⟩
theorem dX6_isAimedAt_50 : nv_dk qX6_isAimedAt 50 1 51 := Or.inl ⟨1, ⟨by decide +kernel, rfl⟩, by decide⟩
theorem dX6_isAimedAt_51 : nv_dgo qX6_isAimedAt 51 55 := ⟨4, by decide +kernel, by decide⟩
theorem dX6_isAimedAt_54 : nv_dk qX6_isAimedAt 54 0 55 := Or.inl ⟨0, ⟨by decide +kernel, rfl⟩, by decide⟩
theorem dX6_isAimedAt_55 : decode qX6_isAimedAt.2.1 55 = .ok (.ireturn, 1) := by decide +kernel
theorem dX6_isAimedAt_56 : nv_daload qX6_isAimedAt 56 2 57 := Or.inr ⟨2, rfl, by decide +kernel, rfl⟩
theorem dX6_isAimedAt_57 : nv_dc qX6_isAimedAt 57 (.getfield 165) 3 60 := ⟨by decide +kernel, rfl⟩
theorem dX6_isAimedAt_60 : nv_daload qX6_isAimedAt 60 1 61 := Or.inr ⟨1, rfl, by decide +kernel, rfl⟩
theorem dX6_isAimedAt_61 : nv_dc qX6_isAimedAt 61 (.getfield 117) 3 64 := ⟨by decide +kernel, rfl⟩
theorem dX6_isAimedAt_64 : nv_dic qX6_isAimedAt 64 .eq 75 67 := ⟨11, by decide +kernel, by decide, rfl⟩
theorem dX6_isAimedAt_67 : nv_daload qX6_isAimedAt 67 2 68 := Or.inr ⟨2, rfl, by decide +kernel, rfl⟩
theorem dX6_isAimedAt_68 : nv_dc qX6_isAimedAt 68 (.getfield 165) 3 71 := ⟨by decide +kernel, rfl⟩
theorem dX6_isAimedAt_71 : nv_dk qX6_isAimedAt 71 (-1) 72 := Or.inl ⟨(-1), ⟨by decide +kernel, rfl⟩, by decide⟩
theorem dX6_isAimedAt_72 : nv_dic qX6_isAimedAt 72 .ne 79 75 := ⟨7, by decide +kernel, by decide, rfl⟩
theorem dX6_isAimedAt_75 : nv_dk qX6_isAimedAt 75 1 76 := Or.inl ⟨1, ⟨by decide +kernel, rfl⟩, by decide⟩
theorem dX6_isAimedAt_76 : nv_dgo qX6_isAimedAt 76 80 := ⟨4, by decide +kernel, by decide⟩
theorem dX6_isAimedAt_79 : nv_dk qX6_isAimedAt 79 0 80 := Or.inl ⟨0, ⟨by decide +kernel, rfl⟩, by decide⟩
theorem dX6_isAimedAt_80 : decode qX6_isAimedAt.2.1 80 = .ok (.ireturn, 1) := by decide +kernel
def fc_isAimedAt (h : nv_Hp) (k0 : Nat) (k1 : Nat) (k2 : Nat) : Bool := (if (h k1 2) = (h k2 1) then (if (h k1 0) = 2 then (if (h k2 2) = (h k1 1) then (if (h k0 1) = 1 then (if (h k2 3) = (h k1 3) then true else false) else false) else false) else (if (h k2 2) = (h k1 1) then true else (if (h k2 2) = (-1) then true else false))) else false)
set_option maxHeartbeats 2000000 in
theorem tc_isAimedAt (G : nv_G) (h : nv_Hp) (k0 : Nat) (hk0 : nv_A 9 k0) (k1 : Nat) (hk1 : nv_O 4 k1) (k2 : Nat) (hk2 : nv_O 2 k2) : nv_Mt G 0 qX6_isAimedAt [.ref k0, .ref k1, .ref k2] (nv_s h) (some (.int (nv_bi (fc_isAimedAt h k0 k1 k2))), nv_s h) := by
  refine nv_of (by decide +kernel) (fun ad => Nat.le_of_ble_eq_true rfl) (Nat.le_refl _) (Nat.le_of_ble_eq_true rfl) ?_
  show nv_E G 0 qX6_isAimedAt 0 [some (.ref k0), some (.ref k1), some (.ref k2)] [] (nv_s h) (some (.int (nv_bi (fc_isAimedAt h k0 k1 k2))), nv_s h)
  generalize hf : (fc_isAimedAt h k0 k1 k2) = r
  unfold fc_isAimedAt at hf
  refine nv_aL dX6_isAimedAt_0 rfl ?_
  refine nv_gI lf_X6_92 dX6_isAimedAt_1 hk1 rfl ?_
  refine nv_aL dX6_isAimedAt_4 rfl ?_
  refine nv_gI lf_X6_162 dX6_isAimedAt_5 hk2 rfl ?_
  refine nv_iceq dX6_isAimedAt_8 (fun c1 => ?_) (fun c1 => ?_)
  · replace hf := nv_ip c1 hf
    refine nv_aL dX6_isAimedAt_13 rfl ?_
    refine nv_gI lf_X6_89 dX6_isAimedAt_14 hk1 rfl ?_
    refine nv_k dX6_isAimedAt_17 ?_
    refine nv_icne dX6_isAimedAt_18 (fun c2 => ?_) (fun c2 => ?_)
    · replace hf := nv_ip c2 hf
      refine nv_aL dX6_isAimedAt_21 rfl ?_
      refine nv_gI lf_X6_165 dX6_isAimedAt_22 hk2 rfl ?_
      refine nv_aL dX6_isAimedAt_25 rfl ?_
      refine nv_gI lf_X6_117 dX6_isAimedAt_26 hk1 rfl ?_
      refine nv_icne dX6_isAimedAt_29 (fun c3 => ?_) (fun c3 => ?_)
      · replace hf := nv_ip c3 hf
        refine nv_aL dX6_isAimedAt_32 rfl ?_
        refine nv_k dX6_isAimedAt_33 ?_
        refine nv_aI dX6_isAimedAt_34 hk0 (by decide) (j := 1) (by decide) ?_
        refine nv_k dX6_isAimedAt_35 ?_
        refine nv_icne dX6_isAimedAt_36 (fun c4 => ?_) (fun c4 => ?_)
        · replace hf := nv_ip c4 hf
          refine nv_aL dX6_isAimedAt_39 rfl ?_
          refine nv_gI lf_X6_168 dX6_isAimedAt_40 hk2 rfl ?_
          refine nv_aL dX6_isAimedAt_43 rfl ?_
          refine nv_gI lf_X6_95 dX6_isAimedAt_44 hk1 rfl ?_
          refine nv_icne dX6_isAimedAt_47 (fun c5 => ?_) (fun c5 => ?_)
          · replace hf := nv_ip c5 hf
            refine nv_k dX6_isAimedAt_50 ?_
            refine nv_goto dX6_isAimedAt_51 ?_
            subst hf
            exact nv_ireturnB (b := true) dX6_isAimedAt_55 rfl
          · replace hf := nv_in c5 hf
            refine nv_k dX6_isAimedAt_54 ?_
            subst hf
            exact nv_ireturnB (b := false) dX6_isAimedAt_55 rfl
        · replace hf := nv_in c4 hf
          refine nv_k dX6_isAimedAt_54 ?_
          subst hf
          exact nv_ireturnB (b := false) dX6_isAimedAt_55 rfl
      · replace hf := nv_in c3 hf
        refine nv_k dX6_isAimedAt_54 ?_
        subst hf
        exact nv_ireturnB (b := false) dX6_isAimedAt_55 rfl
    · replace hf := nv_in c2 hf
      refine nv_aL dX6_isAimedAt_56 rfl ?_
      refine nv_gI lf_X6_165 dX6_isAimedAt_57 hk2 rfl ?_
      refine nv_aL dX6_isAimedAt_60 rfl ?_
      refine nv_gI lf_X6_117 dX6_isAimedAt_61 hk1 rfl ?_
      refine nv_iceq dX6_isAimedAt_64 (fun c6 => ?_) (fun c6 => ?_)
      · replace hf := nv_ip c6 hf
        refine nv_k dX6_isAimedAt_75 ?_
        refine nv_goto dX6_isAimedAt_76 ?_
        subst hf
        exact nv_ireturnB (b := true) dX6_isAimedAt_80 rfl
      · replace hf := nv_in c6 hf
        refine nv_aL dX6_isAimedAt_67 rfl ?_
        refine nv_gI lf_X6_165 dX6_isAimedAt_68 hk2 rfl ?_
        refine nv_k dX6_isAimedAt_71 ?_
        refine nv_icne dX6_isAimedAt_72 (fun c7 => ?_) (fun c7 => ?_)
        · replace hf := nv_ip c7 hf
          refine nv_k dX6_isAimedAt_75 ?_
          refine nv_goto dX6_isAimedAt_76 ?_
          subst hf
          exact nv_ireturnB (b := true) dX6_isAimedAt_80 rfl
        · replace hf := nv_in c7 hf
          refine nv_k dX6_isAimedAt_79 ?_
          subst hf
          exact nv_ireturnB (b := false) dX6_isAimedAt_80 rfl
  · replace hf := nv_in c1 hf
    refine nv_k dX6_isAimedAt_11 ?_
    subst hf
    exact nv_ireturnB (b := false) dX6_isAimedAt_12 rfl
/-! WhoseName.hasBit -/
theorem dX6_hasBit_0 : nv_diload qX6_hasBit 0 0 1 := Or.inr ⟨0, rfl, by decide +kernel, rfl⟩
theorem dX6_hasBit_1 : nv_diload qX6_hasBit 1 1 2 := Or.inr ⟨1, rfl, by decide +kernel, rfl⟩
theorem dX6_hasBit_2 : nv_dc qX6_hasBit 2 (.ishr) 1 3 := ⟨by decide +kernel, rfl⟩
theorem dX6_hasBit_3 : nv_dk qX6_hasBit 3 1 4 := Or.inl ⟨1, ⟨by decide +kernel, rfl⟩, by decide⟩
theorem dX6_hasBit_4 : nv_dc qX6_hasBit 4 (.iand) 1 5 := ⟨by decide +kernel, rfl⟩
theorem dX6_hasBit_5 : nv_dif qX6_hasBit 5 .eq 12 8 := ⟨7, by decide +kernel, by decide, rfl⟩
theorem dX6_hasBit_8 : nv_dk qX6_hasBit 8 1 9 := Or.inl ⟨1, ⟨by decide +kernel, rfl⟩, by decide⟩
theorem dX6_hasBit_9 : nv_dgo qX6_hasBit 9 13 := ⟨4, by decide +kernel, by decide⟩
theorem dX6_hasBit_12 : nv_dk qX6_hasBit 12 0 13 := Or.inl ⟨0, ⟨by decide +kernel, rfl⟩, by decide⟩
theorem dX6_hasBit_13 : decode qX6_hasBit.2.1 13 = .ok (.ireturn, 1) := by decide +kernel
def fc_hasBit (x0 : Int32) (x1 : Int32) : Bool := (if ((x0 >>> (x1 &&& 31)) &&& 1) = 0 then false else true)
set_option maxHeartbeats 2000000 in
theorem tc_hasBit (G : nv_G) (h : nv_Hp) (x0 : Int32) (x1 : Int32) : nv_Mt G 0 qX6_hasBit [.int x0, .int x1] (nv_s h) (some (.int (nv_bi (fc_hasBit x0 x1))), nv_s h) := by
  refine nv_of (by decide +kernel) (fun ad => Nat.le_of_ble_eq_true rfl) (Nat.le_refl _) (Nat.le_of_ble_eq_true rfl) ?_
  show nv_E G 0 qX6_hasBit 0 [some (.int x0), some (.int x1)] [] (nv_s h) (some (.int (nv_bi (fc_hasBit x0 x1))), nv_s h)
  generalize hf : (fc_hasBit x0 x1) = r
  unfold fc_hasBit at hf
  refine nv_iL dX6_hasBit_0 rfl ?_
  refine nv_iL dX6_hasBit_1 rfl ?_
  refine nv_ishr dX6_hasBit_2 ?_
  refine nv_k dX6_hasBit_3 ?_
  refine nv_iand dX6_hasBit_4 ?_
  refine nv_ifeq dX6_hasBit_5 (fun c1 => ?_) (fun c1 => ?_)
  · replace hf := nv_ip c1 hf
    refine nv_k dX6_hasBit_12 ?_
    subst hf
    exact nv_ireturnB (b := false) dX6_hasBit_13 rfl
  · replace hf := nv_in c1 hf
    refine nv_k dX6_hasBit_8 ?_
    refine nv_goto dX6_hasBit_9 ?_
    subst hf
    exact nv_ireturnB (b := true) dX6_hasBit_13 rfl
/-! WhoseName.limitOf -/
theorem dX6_limitOf_0 : nv_daload qX6_limitOf 0 1 1 := Or.inr ⟨1, rfl, by decide +kernel, rfl⟩
theorem dX6_limitOf_1 : nv_dc qX6_limitOf 1 (.getfield 89) 3 4 := ⟨by decide +kernel, rfl⟩
theorem dX6_limitOf_4 : nv_dk qX6_limitOf 4 1 5 := Or.inl ⟨1, ⟨by decide +kernel, rfl⟩, by decide⟩
theorem dX6_limitOf_5 : nv_dic qX6_limitOf 5 .ne 17 8 := ⟨12, by decide +kernel, by decide, rfl⟩
theorem dX6_limitOf_8 : nv_dk qX6_limitOf 8 10 10 := Or.inr (Or.inl ⟨10, ⟨by decide +kernel, rfl⟩, by decide⟩)
theorem dX6_limitOf_10 : nv_daload qX6_limitOf 10 0 11 := Or.inr ⟨0, rfl, by decide +kernel, rfl⟩
theorem dX6_limitOf_11 : nv_dk qX6_limitOf 11 2 12 := Or.inl ⟨2, ⟨by decide +kernel, rfl⟩, by decide⟩
theorem dX6_limitOf_12 : nv_dc qX6_limitOf 12 (.iaload) 1 13 := ⟨by decide +kernel, rfl⟩
theorem dX6_limitOf_13 : nv_dc qX6_limitOf 13 (.imul) 1 14 := ⟨by decide +kernel, rfl⟩
theorem dX6_limitOf_14 : nv_dgo qX6_limitOf 14 21 := ⟨7, by decide +kernel, by decide⟩
theorem dX6_limitOf_17 : nv_daload qX6_limitOf 17 1 18 := Or.inr ⟨1, rfl, by decide +kernel, rfl⟩
theorem dX6_limitOf_18 : nv_dc qX6_limitOf 18 (.getfield 101) 3 21 := ⟨by decide +kernel, rfl⟩
theorem dX6_limitOf_21 : decode qX6_limitOf.2.1 21 = .ok (.ireturn, 1) := by decide +kernel
def fc_limitOf (h : nv_Hp) (k0 : Nat) (k1 : Nat) : Int32 := (if (h k1 0) = 1 then (10 * (h k0 2)) else (h k1 5))
set_option maxHeartbeats 2000000 in
theorem tc_limitOf (G : nv_G) (h : nv_Hp) (k0 : Nat) (hk0 : nv_A 9 k0) (k1 : Nat) (hk1 : nv_O 4 k1) : nv_Mt G 0 qX6_limitOf [.ref k0, .ref k1] (nv_s h) (some (.int (fc_limitOf h k0 k1)), nv_s h) := by
  refine nv_of (by decide +kernel) (fun ad => Nat.le_of_ble_eq_true rfl) (Nat.le_refl _) (Nat.le_of_ble_eq_true rfl) ?_
  show nv_E G 0 qX6_limitOf 0 [some (.ref k0), some (.ref k1)] [] (nv_s h) (some (.int (fc_limitOf h k0 k1)), nv_s h)
  generalize hf : (fc_limitOf h k0 k1) = r
  unfold fc_limitOf at hf
  refine nv_aL dX6_limitOf_0 rfl ?_
  refine nv_gI lf_X6_89 dX6_limitOf_1 hk1 rfl ?_
  refine nv_k dX6_limitOf_4 ?_
  refine nv_icne dX6_limitOf_5 (fun c1 => ?_) (fun c1 => ?_)
  · replace hf := nv_ip c1 hf
    refine nv_k dX6_limitOf_8 ?_
    refine nv_aL dX6_limitOf_10 rfl ?_
    refine nv_k dX6_limitOf_11 ?_
    refine nv_aI dX6_limitOf_12 hk0 (by decide) (j := 2) (by decide) ?_
    refine nv_imul dX6_limitOf_13 ?_
    refine nv_goto dX6_limitOf_14 ?_
    subst hf
    exact nv_ireturnI dX6_limitOf_21 rfl
  · replace hf := nv_in c1 hf
    refine nv_aL dX6_limitOf_17 rfl ?_
    refine nv_gI lf_X6_101 dX6_limitOf_18 hk1 rfl ?_
    subst hf
    exact nv_ireturnI dX6_limitOf_21 rfl
/-! WhoseName.stretched -/
theorem dX6_stretched_0 : nv_diload qX6_stretched 0 1 1 := Or.inr ⟨1, rfl, by decide +kernel, rfl⟩
theorem dX6_stretched_1 : nv_diload qX6_stretched 1 1 2 := Or.inr ⟨1, rfl, by decide +kernel, rfl⟩
theorem dX6_stretched_2 : nv_daload qX6_stretched 2 0 3 := Or.inr ⟨0, rfl, by decide +kernel, rfl⟩
theorem dX6_stretched_3 : nv_dk qX6_stretched 3 3 4 := Or.inl ⟨3, ⟨by decide +kernel, rfl⟩, by decide⟩
theorem dX6_stretched_4 : nv_dc qX6_stretched 4 (.iaload) 1 5 := ⟨by decide +kernel, rfl⟩
theorem dX6_stretched_5 : nv_dc qX6_stretched 5 (.imul) 1 6 := ⟨by decide +kernel, rfl⟩
theorem dX6_stretched_6 : nv_dk qX6_stretched 6 100 8 := Or.inr (Or.inl ⟨100, ⟨by decide +kernel, rfl⟩, by decide⟩)
theorem dX6_stretched_8 : nv_dc qX6_stretched 8 (.idiv) 1 9 := ⟨by decide +kernel, rfl⟩
theorem dX6_stretched_9 : nv_dc qX6_stretched 9 (.iadd) 1 10 := ⟨by decide +kernel, rfl⟩
theorem dX6_stretched_10 : decode qX6_stretched.2.1 10 = .ok (.ireturn, 1) := by decide +kernel
def fc_stretched (h : nv_Hp) (k0 : Nat) (x1 : Int32) : Int32 := (x1 + ((x1 * (h k0 3)) / 100))
set_option maxHeartbeats 2000000 in
theorem tc_stretched (G : nv_G) (h : nv_Hp) (k0 : Nat) (hk0 : nv_A 9 k0) (x1 : Int32) : nv_Mt G 0 qX6_stretched [.ref k0, .int x1] (nv_s h) (some (.int (fc_stretched h k0 x1)), nv_s h) := by
  refine nv_of (by decide +kernel) (fun ad => Nat.le_of_ble_eq_true rfl) (Nat.le_refl _) (Nat.le_of_ble_eq_true rfl) ?_
  show nv_E G 0 qX6_stretched 0 [some (.ref k0), some (.int x1)] [] (nv_s h) (some (.int (fc_stretched h k0 x1)), nv_s h)
  generalize hf : (fc_stretched h k0 x1) = r
  unfold fc_stretched at hf
  refine nv_iL dX6_stretched_0 rfl ?_
  refine nv_iL dX6_stretched_1 rfl ?_
  refine nv_aL dX6_stretched_2 rfl ?_
  refine nv_k dX6_stretched_3 ?_
  refine nv_aI dX6_stretched_4 hk0 (by decide) (j := 3) (by decide) ?_
  refine nv_imul dX6_stretched_5 ?_
  refine nv_k dX6_stretched_6 ?_
  refine nv_idiv dX6_stretched_8 (by decide) ?_
  refine nv_iadd dX6_stretched_9 ?_
  subst hf
  exact nv_ireturnI dX6_stretched_10 rfl
/-! WhoseName.hasRoomFor -/
theorem dX6_hasRoomFor_0 : nv_daload qX6_hasRoomFor 0 2 1 := Or.inr ⟨2, rfl, by decide +kernel, rfl⟩
theorem dX6_hasRoomFor_1 : nv_dc qX6_hasRoomFor 1 (.getfield 177) 3 4 := ⟨by decide +kernel, rfl⟩
theorem dX6_hasRoomFor_4 : nv_daload qX6_hasRoomFor 4 1 5 := Or.inr ⟨1, rfl, by decide +kernel, rfl⟩
theorem dX6_hasRoomFor_5 : nv_dc qX6_hasRoomFor 5 (.getfield 104) 3 8 := ⟨by decide +kernel, rfl⟩
theorem dX6_hasRoomFor_8 : nv_daload qX6_hasRoomFor 8 1 9 := Or.inr ⟨1, rfl, by decide +kernel, rfl⟩
theorem dX6_hasRoomFor_9 : nv_dc qX6_hasRoomFor 9 (.getfield 107) 3 12 := ⟨by decide +kernel, rfl⟩
theorem dX6_hasRoomFor_12 : nv_dc qX6_hasRoomFor 12 (.invokestatic 74) 3 15 := ⟨by decide +kernel, rfl⟩
theorem dX6_hasRoomFor_15 : nv_dif qX6_hasRoomFor 15 .eq 60 18 := ⟨45, by decide +kernel, by decide, rfl⟩
theorem dX6_hasRoomFor_18 : nv_daload qX6_hasRoomFor 18 1 19 := Or.inr ⟨1, rfl, by decide +kernel, rfl⟩
theorem dX6_hasRoomFor_19 : nv_dc qX6_hasRoomFor 19 (.getfield 89) 3 22 := ⟨by decide +kernel, rfl⟩
theorem dX6_hasRoomFor_22 : nv_dk qX6_hasRoomFor 22 1 23 := Or.inl ⟨1, ⟨by decide +kernel, rfl⟩, by decide⟩
theorem dX6_hasRoomFor_23 : nv_dic qX6_hasRoomFor 23 .eq 40 26 := ⟨17, by decide +kernel, by decide, rfl⟩
theorem dX6_hasRoomFor_26 : nv_daload qX6_hasRoomFor 26 1 27 := Or.inr ⟨1, rfl, by decide +kernel, rfl⟩
theorem dX6_hasRoomFor_27 : nv_dc qX6_hasRoomFor 27 (.getfield 98) 3 30 := ⟨by decide +kernel, rfl⟩
theorem dX6_hasRoomFor_30 : nv_daload qX6_hasRoomFor 30 2 31 := Or.inr ⟨2, rfl, by decide +kernel, rfl⟩
theorem dX6_hasRoomFor_31 : nv_dc qX6_hasRoomFor 31 (.getfield 171) 3 34 := ⟨by decide +kernel, rfl⟩
theorem dX6_hasRoomFor_34 : nv_dc qX6_hasRoomFor 34 (.invokestatic 265) 3 37 := ⟨by decide +kernel, rfl⟩
theorem dX6_hasRoomFor_37 : nv_dif qX6_hasRoomFor 37 .eq 60 40 := ⟨23, by decide +kernel, by decide, rfl⟩
theorem dX6_hasRoomFor_40 : nv_daload qX6_hasRoomFor 40 2 41 := Or.inr ⟨2, rfl, by decide +kernel, rfl⟩
theorem dX6_hasRoomFor_41 : nv_dc qX6_hasRoomFor 41 (.getfield 174) 3 44 := ⟨by decide +kernel, rfl⟩
theorem dX6_hasRoomFor_44 : nv_daload qX6_hasRoomFor 44 0 45 := Or.inr ⟨0, rfl, by decide +kernel, rfl⟩
theorem dX6_hasRoomFor_45 : nv_daload qX6_hasRoomFor 45 0 46 := Or.inr ⟨0, rfl, by decide +kernel, rfl⟩
theorem dX6_hasRoomFor_46 : nv_daload qX6_hasRoomFor 46 1 47 := Or.inr ⟨1, rfl, by decide +kernel, rfl⟩
theorem dX6_hasRoomFor_47 : nv_dc qX6_hasRoomFor 47 (.invokestatic 269) 3 50 := ⟨by decide +kernel, rfl⟩
theorem dX6_hasRoomFor_50 : nv_dc qX6_hasRoomFor 50 (.invokestatic 273) 3 53 := ⟨by decide +kernel, rfl⟩
theorem dX6_hasRoomFor_53 : nv_dic qX6_hasRoomFor 53 .gt 60 56 := ⟨7, by decide +kernel, by decide, rfl⟩
theorem dX6_hasRoomFor_56 : nv_dk qX6_hasRoomFor 56 1 57 := Or.inl ⟨1, ⟨by decide +kernel, rfl⟩, by decide⟩
theorem dX6_hasRoomFor_57 : nv_dgo qX6_hasRoomFor 57 61 := ⟨4, by decide +kernel, by decide⟩
theorem dX6_hasRoomFor_60 : nv_dk qX6_hasRoomFor 60 0 61 := Or.inl ⟨0, ⟨by decide +kernel, rfl⟩, by decide⟩
theorem dX6_hasRoomFor_61 : decode qX6_hasRoomFor.2.1 61 = .ok (.ireturn, 1) := by decide +kernel
def fc_hasRoomFor_40 (h : nv_Hp) (k0 : Nat) (k1 : Nat) (k2 : Nat)   : Bool := (if (fc_stretched h k0 (fc_limitOf h k0 k1)) < (h k2 5) then false else true)
set_option maxHeartbeats 2000000 in
theorem tc_hasRoomFor_40 (G : nv_G) (h : nv_Hp) (k0 : Nat) (hk0 : nv_A 9 k0) (k1 : Nat) (hk1 : nv_O 4 k1) (k2 : Nat) (hk2 : nv_O 2 k2)   (r : Bool) (hf : fc_hasRoomFor_40 h k0 k1 k2 = r) : nv_E G 1 qX6_hasRoomFor 40 [some (.ref k0), some (.ref k1), some (.ref k2)] [] (nv_s h) (some (.int (nv_bi r)), nv_s h) := by
  unfold fc_hasRoomFor_40 at hf
  refine nv_aL dX6_hasRoomFor_40 rfl ?_
  refine nv_gI lf_X6_174 dX6_hasRoomFor_41 hk2 rfl ?_
  refine nv_aL dX6_hasRoomFor_44 rfl ?_
  refine nv_aL dX6_hasRoomFor_45 rfl ?_
  refine nv_aL dX6_hasRoomFor_46 rfl ?_
  refine nv_cSi (tc_limitOf G h k0 hk0 k1 hk1) dX6_hasRoomFor_47 lm_X6_269 y_qX6_limitOf rfl (by decide) rfl (Nat.le_of_ble_eq_true rfl) ?_
  refine nv_cSi (tc_stretched G h k0 hk0 (fc_limitOf h k0 k1)) dX6_hasRoomFor_50 lm_X6_273 y_qX6_stretched rfl (by decide) rfl (Nat.le_of_ble_eq_true rfl) ?_
  refine nv_icgt dX6_hasRoomFor_53 (fun c1 => ?_) (fun c1 => ?_)
  · replace hf := nv_ip c1 hf
    refine nv_k dX6_hasRoomFor_60 ?_
    subst hf
    exact nv_ireturnB (b := false) dX6_hasRoomFor_61 rfl
  · replace hf := nv_in c1 hf
    refine nv_k dX6_hasRoomFor_56 ?_
    refine nv_goto dX6_hasRoomFor_57 ?_
    subst hf
    exact nv_ireturnB (b := true) dX6_hasRoomFor_61 rfl
def fc_hasRoomFor (h : nv_Hp) (k0 : Nat) (k1 : Nat) (k2 : Nat) : Bool := (if (fc_isWithin (h k2 6) (h k1 6) (h k1 7)) = true then (if (h k1 0) = 1 then (fc_hasRoomFor_40 h k0 k1 k2) else (if (fc_hasBit (h k1 4) (h k2 4)) = true then (fc_hasRoomFor_40 h k0 k1 k2) else false)) else false)
set_option maxHeartbeats 2000000 in
theorem tc_hasRoomFor (G : nv_G) (h : nv_Hp) (k0 : Nat) (hk0 : nv_A 9 k0) (k1 : Nat) (hk1 : nv_O 4 k1) (k2 : Nat) (hk2 : nv_O 2 k2) : nv_Mt G 1 qX6_hasRoomFor [.ref k0, .ref k1, .ref k2] (nv_s h) (some (.int (nv_bi (fc_hasRoomFor h k0 k1 k2))), nv_s h) := by
  refine nv_of (by decide +kernel) (fun ad => Nat.le_of_ble_eq_true rfl) (Nat.le_refl _) (Nat.le_of_ble_eq_true rfl) ?_
  show nv_E G 1 qX6_hasRoomFor 0 [some (.ref k0), some (.ref k1), some (.ref k2)] [] (nv_s h) (some (.int (nv_bi (fc_hasRoomFor h k0 k1 k2))), nv_s h)
  generalize hf : (fc_hasRoomFor h k0 k1 k2) = r
  unfold fc_hasRoomFor at hf
  refine nv_aL dX6_hasRoomFor_0 rfl ?_
  refine nv_gI lf_X6_177 dX6_hasRoomFor_1 hk2 rfl ?_
  refine nv_aL dX6_hasRoomFor_4 rfl ?_
  refine nv_gI lf_X6_104 dX6_hasRoomFor_5 hk1 rfl ?_
  refine nv_aL dX6_hasRoomFor_8 rfl ?_
  refine nv_gI lf_X6_107 dX6_hasRoomFor_9 hk1 rfl ?_
  refine nv_cSi (tc_isWithin G h (h k2 6) (h k1 6) (h k1 7)) dX6_hasRoomFor_12 lm_X6_74 y_qX6_isWithin rfl (by decide) rfl (Nat.le_of_ble_eq_true rfl) ?_
  refine nv_ifeqB dX6_hasRoomFor_15 (fun c1 => ?_) (fun c1 => ?_)
  · replace hf := nv_ip c1 hf
    refine nv_aL dX6_hasRoomFor_18 rfl ?_
    refine nv_gI lf_X6_89 dX6_hasRoomFor_19 hk1 rfl ?_
    refine nv_k dX6_hasRoomFor_22 ?_
    refine nv_iceq dX6_hasRoomFor_23 (fun c2 => ?_) (fun c2 => ?_)
    · replace hf := nv_ip c2 hf
      exact tc_hasRoomFor_40 G _ _ hk0 _ hk1 _ hk2 _ hf
    · replace hf := nv_in c2 hf
      refine nv_aL dX6_hasRoomFor_26 rfl ?_
      refine nv_gI lf_X6_98 dX6_hasRoomFor_27 hk1 rfl ?_
      refine nv_aL dX6_hasRoomFor_30 rfl ?_
      refine nv_gI lf_X6_171 dX6_hasRoomFor_31 hk2 rfl ?_
      refine nv_cSi (tc_hasBit G h (h k1 4) (h k2 4)) dX6_hasRoomFor_34 lm_X6_265 y_qX6_hasBit rfl (by decide) rfl (Nat.le_of_ble_eq_true rfl) ?_
      refine nv_ifeqB dX6_hasRoomFor_37 (fun c3 => ?_) (fun c3 => ?_)
      · replace hf := nv_ip c3 hf
        exact tc_hasRoomFor_40 G _ _ hk0 _ hk1 _ hk2 _ hf
      · replace hf := nv_in c3 hf
        refine nv_k dX6_hasRoomFor_60 ?_
        subst hf
        exact nv_ireturnB (b := false) dX6_hasRoomFor_61 rfl
  · replace hf := nv_in c1 hf
    refine nv_k dX6_hasRoomFor_60 ?_
    subst hf
    exact nv_ireturnB (b := false) dX6_hasRoomFor_61 rfl
/-! WhoseName.hearerOf -/
theorem dX6_hearerOf_0 : nv_daload qX6_hearerOf 0 1 1 := Or.inr ⟨1, rfl, by decide +kernel, rfl⟩
theorem dX6_hearerOf_1 : nv_dc qX6_hearerOf 1 (.getfield 89) 3 4 := ⟨by decide +kernel, rfl⟩
theorem dX6_hearerOf_4 : nv_dk qX6_hearerOf 4 2 5 := Or.inl ⟨2, ⟨by decide +kernel, rfl⟩, by decide⟩
theorem dX6_hearerOf_5 : nv_dic qX6_hearerOf 5 .ne 13 8 := ⟨8, by decide +kernel, by decide, rfl⟩
theorem dX6_hearerOf_8 : nv_daload qX6_hearerOf 8 1 9 := Or.inr ⟨1, rfl, by decide +kernel, rfl⟩
theorem dX6_hearerOf_9 : nv_dc qX6_hearerOf 9 (.getfield 95) 3 12 := ⟨by decide +kernel, rfl⟩
theorem dX6_hearerOf_12 : decode qX6_hearerOf.2.1 12 = .ok (.ireturn, 1) := by decide +kernel
theorem dX6_hearerOf_13 : nv_daload qX6_hearerOf 13 0 14 := Or.inr ⟨0, rfl, by decide +kernel, rfl⟩
theorem dX6_hearerOf_14 : nv_dk qX6_hearerOf 14 0 15 := Or.inl ⟨0, ⟨by decide +kernel, rfl⟩, by decide⟩
theorem dX6_hearerOf_15 : nv_dc qX6_hearerOf 15 (.iaload) 1 16 := ⟨by decide +kernel, rfl⟩
theorem dX6_hearerOf_16 : nv_dk qX6_hearerOf 16 2 17 := Or.inl ⟨2, ⟨by decide +kernel, rfl⟩, by decide⟩
theorem dX6_hearerOf_17 : nv_dic qX6_hearerOf 17 .ne 27 20 := ⟨10, by decide +kernel, by decide, rfl⟩
theorem dX6_hearerOf_20 : nv_daload qX6_hearerOf 20 2 21 := Or.inr ⟨2, rfl, by decide +kernel, rfl⟩
theorem dX6_hearerOf_21 : nv_dc qX6_hearerOf 21 (.getfield 168) 3 24 := ⟨by decide +kernel, rfl⟩
theorem dX6_hearerOf_24 : nv_dgo qX6_hearerOf 24 31 := ⟨7, by decide +kernel, by decide⟩
theorem dX6_hearerOf_27 : nv_daload qX6_hearerOf 27 1 28 := Or.inr ⟨1, rfl, by decide +kernel, rfl⟩
theorem dX6_hearerOf_28 : nv_dc qX6_hearerOf 28 (.getfield 92) 3 31 := ⟨by decide +kernel, rfl⟩
theorem dX6_hearerOf_31 : decode qX6_hearerOf.2.1 31 = .ok (.ireturn, 1) := by decide +kernel
def fc_hearerOf (h : nv_Hp) (k0 : Nat) (k1 : Nat) (k2 : Nat) : Int32 := (if (h k1 0) = 2 then (h k1 3) else (if (h k0 0) = 2 then (h k2 3) else (h k1 2)))
set_option maxHeartbeats 2000000 in
theorem tc_hearerOf (G : nv_G) (h : nv_Hp) (k0 : Nat) (hk0 : nv_A 9 k0) (k1 : Nat) (hk1 : nv_O 4 k1) (k2 : Nat) (hk2 : nv_O 2 k2) : nv_Mt G 0 qX6_hearerOf [.ref k0, .ref k1, .ref k2] (nv_s h) (some (.int (fc_hearerOf h k0 k1 k2)), nv_s h) := by
  refine nv_of (by decide +kernel) (fun ad => Nat.le_of_ble_eq_true rfl) (Nat.le_refl _) (Nat.le_of_ble_eq_true rfl) ?_
  show nv_E G 0 qX6_hearerOf 0 [some (.ref k0), some (.ref k1), some (.ref k2)] [] (nv_s h) (some (.int (fc_hearerOf h k0 k1 k2)), nv_s h)
  generalize hf : (fc_hearerOf h k0 k1 k2) = r
  unfold fc_hearerOf at hf
  refine nv_aL dX6_hearerOf_0 rfl ?_
  refine nv_gI lf_X6_89 dX6_hearerOf_1 hk1 rfl ?_
  refine nv_k dX6_hearerOf_4 ?_
  refine nv_icne dX6_hearerOf_5 (fun c1 => ?_) (fun c1 => ?_)
  · replace hf := nv_ip c1 hf
    refine nv_aL dX6_hearerOf_8 rfl ?_
    refine nv_gI lf_X6_95 dX6_hearerOf_9 hk1 rfl ?_
    subst hf
    exact nv_ireturnI dX6_hearerOf_12 rfl
  · replace hf := nv_in c1 hf
    refine nv_aL dX6_hearerOf_13 rfl ?_
    refine nv_k dX6_hearerOf_14 ?_
    refine nv_aI dX6_hearerOf_15 hk0 (by decide) (j := 0) (by decide) ?_
    refine nv_k dX6_hearerOf_16 ?_
    refine nv_icne dX6_hearerOf_17 (fun c2 => ?_) (fun c2 => ?_)
    · replace hf := nv_ip c2 hf
      refine nv_aL dX6_hearerOf_20 rfl ?_
      refine nv_gI lf_X6_168 dX6_hearerOf_21 hk2 rfl ?_
      refine nv_goto dX6_hearerOf_24 ?_
      subst hf
      exact nv_ireturnI dX6_hearerOf_31 rfl
    · replace hf := nv_in c2 hf
      refine nv_aL dX6_hearerOf_27 rfl ?_
      refine nv_gI lf_X6_92 dX6_hearerOf_28 hk1 rfl ?_
      subst hf
      exact nv_ireturnI dX6_hearerOf_31 rfl
/-! WhoseName.hearingDay -/
theorem dX6_hearingDay_0 : nv_daload qX6_hearingDay 0 0 1 := Or.inr ⟨0, rfl, by decide +kernel, rfl⟩
theorem dX6_hearingDay_1 : nv_dc qX6_hearingDay 1 (.getfield 21) 3 4 := ⟨by decide +kernel, rfl⟩
theorem dX6_hearingDay_4 : nv_diload qX6_hearingDay 4 1 5 := Or.inr ⟨1, rfl, by decide +kernel, rfl⟩
theorem dX6_hearingDay_5 : nv_dc qX6_hearingDay 5 (.aaload) 1 6 := ⟨by decide +kernel, rfl⟩
theorem dX6_hearingDay_6 : nv_dastore qX6_hearingDay 6 3 7 := Or.inr ⟨3, rfl, by decide +kernel, rfl⟩
theorem dX6_hearingDay_7 : nv_daload qX6_hearingDay 7 3 8 := Or.inr ⟨3, rfl, by decide +kernel, rfl⟩
theorem dX6_hearingDay_8 : nv_dc qX6_hearingDay 8 (.getfield 150) 3 11 := ⟨by decide +kernel, rfl⟩
theorem dX6_hearingDay_11 : nv_dk qX6_hearingDay 11 (-1) 12 := Or.inl ⟨(-1), ⟨by decide +kernel, rfl⟩, by decide⟩
theorem dX6_hearingDay_12 : nv_dic qX6_hearingDay 12 .eq 20 15 := ⟨8, by decide +kernel, by decide, rfl⟩
theorem dX6_hearingDay_15 : nv_daload qX6_hearingDay 15 3 16 := Or.inr ⟨3, rfl, by decide +kernel, rfl⟩
theorem dX6_hearingDay_16 : nv_dc qX6_hearingDay 16 (.getfield 150) 3 19 := ⟨by decide +kernel, rfl⟩
theorem dX6_hearingDay_19 : decode qX6_hearingDay.2.1 19 = .ok (.ireturn, 1) := by decide +kernel
theorem dX6_hearingDay_20 : nv_diload qX6_hearingDay 20 2 21 := Or.inr ⟨2, rfl, by decide +kernel, rfl⟩
theorem dX6_hearingDay_21 : nv_dk qX6_hearingDay 21 1 22 := Or.inl ⟨1, ⟨by decide +kernel, rfl⟩, by decide⟩
theorem dX6_hearingDay_22 : nv_diload qX6_hearingDay 22 1 23 := Or.inr ⟨1, rfl, by decide +kernel, rfl⟩
theorem dX6_hearingDay_23 : nv_dc qX6_hearingDay 23 (.ishl) 1 24 := ⟨by decide +kernel, rfl⟩
theorem dX6_hearingDay_24 : nv_dc qX6_hearingDay 24 (.iand) 1 25 := ⟨by decide +kernel, rfl⟩
theorem dX6_hearingDay_25 : nv_dif qX6_hearingDay 25 .eq 35 28 := ⟨10, by decide +kernel, by decide, rfl⟩
theorem dX6_hearingDay_28 : nv_daload qX6_hearingDay 28 3 29 := Or.inr ⟨3, rfl, by decide +kernel, rfl⟩
theorem dX6_hearingDay_29 : nv_dc qX6_hearingDay 29 (.getfield 144) 3 32 := ⟨by decide +kernel, rfl⟩
theorem dX6_hearingDay_32 : nv_dgo qX6_hearingDay 32 37 := ⟨5, by decide +kernel, by decide⟩
theorem dX6_hearingDay_35 : nv_dk qX6_hearingDay 35 100 37 := Or.inr (Or.inl ⟨100, ⟨by decide +kernel, rfl⟩, by decide⟩)
theorem dX6_hearingDay_37 : decode qX6_hearingDay.2.1 37 = .ok (.ireturn, 1) := by decide +kernel
def fc_hearingDay (h : nv_Hp) (x1 : Int32) (x2 : Int32) : Int32 := (if (h (25 + x1.toNatClampNeg) 3) = (-1) then (if (x2 &&& (1 <<< (x1 &&& 31))) = 0 then 100 else (h (25 + x1.toNatClampNeg) 1)) else (h (25 + x1.toNatClampNeg) 3))
set_option maxHeartbeats 2000000 in
theorem tc_hearingDay (G : nv_G) (h : nv_Hp) (x1 : Int32) (hx1 : nv_inb x1 12 = true) (x2 : Int32) : nv_Mt G 0 qX6_hearingDay [.ref 0, .int x1, .int x2] (nv_s h) (some (.int (fc_hearingDay h x1 x2)), nv_s h) := by
  refine nv_of (by decide +kernel) (fun ad => Nat.le_of_ble_eq_true rfl) (Nat.le_refl _) (Nat.le_of_ble_eq_true rfl) ?_
  show nv_E G 0 qX6_hearingDay 0 [some (.ref 0), some (.int x1), some (.int x2), none] [] (nv_s h) (some (.int (fc_hearingDay h x1 x2)), nv_s h)
  generalize hf : (fc_hearingDay h x1 x2) = r
  unfold fc_hearingDay at hf
  refine nv_aL dX6_hearingDay_0 rfl ?_
  refine nv_tR lf_X6_21 dX6_hearingDay_1 ko_0 rfl ?_
  refine nv_iL dX6_hearingDay_4 rfl ?_
  refine nv_aR dX6_hearingDay_5 kr_3 ⟨_, rfl⟩ hx1 (nv_q1 _ _) ?_
  refine nv_aS dX6_hearingDay_6 (by decide) rfl rfl ?_
  refine nv_aL dX6_hearingDay_7 rfl ?_
  refine nv_gI lf_X6_150 dX6_hearingDay_8 (nv_o1 hx1) rfl ?_
  refine nv_k dX6_hearingDay_11 ?_
  refine nv_iceq dX6_hearingDay_12 (fun c1 => ?_) (fun c1 => ?_)
  · replace hf := nv_ip c1 hf
    refine nv_iL dX6_hearingDay_20 rfl ?_
    refine nv_k dX6_hearingDay_21 ?_
    refine nv_iL dX6_hearingDay_22 rfl ?_
    refine nv_ishl dX6_hearingDay_23 ?_
    refine nv_iand dX6_hearingDay_24 ?_
    refine nv_ifeq dX6_hearingDay_25 (fun c2 => ?_) (fun c2 => ?_)
    · replace hf := nv_ip c2 hf
      refine nv_k dX6_hearingDay_35 ?_
      subst hf
      exact nv_ireturnI dX6_hearingDay_37 rfl
    · replace hf := nv_in c2 hf
      refine nv_aL dX6_hearingDay_28 rfl ?_
      refine nv_gI lf_X6_144 dX6_hearingDay_29 (nv_o1 hx1) rfl ?_
      refine nv_goto dX6_hearingDay_32 ?_
      subst hf
      exact nv_ireturnI dX6_hearingDay_37 rfl
  · replace hf := nv_in c1 hf
    refine nv_aL dX6_hearingDay_15 rfl ?_
    refine nv_gI lf_X6_150 dX6_hearingDay_16 (nv_o1 hx1) rfl ?_
    subst hf
    exact nv_ireturnI dX6_hearingDay_19 rfl
/-! WhoseName.isEnded -/
theorem dX6_isEnded_0 : nv_daload qX6_isEnded 0 0 1 := Or.inr ⟨0, rfl, by decide +kernel, rfl⟩
theorem dX6_isEnded_1 : nv_dc qX6_isEnded 1 (.getfield 15) 3 4 := ⟨by decide +kernel, rfl⟩
theorem dX6_isEnded_4 : nv_diload qX6_isEnded 4 2 5 := Or.inr ⟨2, rfl, by decide +kernel, rfl⟩
theorem dX6_isEnded_5 : nv_dc qX6_isEnded 5 (.aaload) 1 6 := ⟨by decide +kernel, rfl⟩
theorem dX6_isEnded_6 : nv_dc qX6_isEnded 6 (.getfield 89) 3 9 := ⟨by decide +kernel, rfl⟩
theorem dX6_isEnded_9 : nv_dk qX6_isEnded 9 2 10 := Or.inl ⟨2, ⟨by decide +kernel, rfl⟩, by decide⟩
theorem dX6_isEnded_10 : nv_dic qX6_isEnded 10 .eq 23 13 := ⟨13, by decide +kernel, by decide, rfl⟩
theorem dX6_isEnded_13 : nv_daload qX6_isEnded 13 1 14 := Or.inr ⟨1, rfl, by decide +kernel, rfl⟩
theorem dX6_isEnded_14 : nv_dk qX6_isEnded 14 0 15 := Or.inl ⟨0, ⟨by decide +kernel, rfl⟩, by decide⟩
theorem dX6_isEnded_15 : nv_dc qX6_isEnded 15 (.iaload) 1 16 := ⟨by decide +kernel, rfl⟩
theorem dX6_isEnded_16 : nv_dif qX6_isEnded 16 .ne 23 19 := ⟨7, by decide +kernel, by decide, rfl⟩
theorem dX6_isEnded_19 : nv_dk qX6_isEnded 19 1 20 := Or.inl ⟨1, ⟨by decide +kernel, rfl⟩, by decide⟩
theorem dX6_isEnded_20 : nv_dgo qX6_isEnded 20 24 := ⟨4, by decide +kernel, by decide⟩
theorem dX6_isEnded_23 : nv_dk qX6_isEnded 23 0 24 := Or.inl ⟨0, ⟨by decide +kernel, rfl⟩, by decide⟩
theorem dX6_isEnded_24 : nv_distore qX6_isEnded 24 5 26 := Or.inl ⟨by decide +kernel, rfl⟩
theorem dX6_isEnded_26 : nv_daload qX6_isEnded 26 1 27 := Or.inr ⟨1, rfl, by decide +kernel, rfl⟩
theorem dX6_isEnded_27 : nv_daload qX6_isEnded 27 0 28 := Or.inr ⟨0, rfl, by decide +kernel, rfl⟩
theorem dX6_isEnded_28 : nv_dc qX6_isEnded 28 (.getfield 15) 3 31 := ⟨by decide +kernel, rfl⟩
theorem dX6_isEnded_31 : nv_diload qX6_isEnded 31 2 32 := Or.inr ⟨2, rfl, by decide +kernel, rfl⟩
theorem dX6_isEnded_32 : nv_dc qX6_isEnded 32 (.aaload) 1 33 := ⟨by decide +kernel, rfl⟩
theorem dX6_isEnded_33 : nv_daload qX6_isEnded 33 3 34 := Or.inr ⟨3, rfl, by decide +kernel, rfl⟩
theorem dX6_isEnded_34 : nv_dc qX6_isEnded 34 (.invokestatic 258) 3 37 := ⟨by decide +kernel, rfl⟩
theorem dX6_isEnded_37 : nv_distore qX6_isEnded 37 6 39 := Or.inl ⟨by decide +kernel, rfl⟩
theorem dX6_isEnded_39 : nv_dk qX6_isEnded 39 0 40 := Or.inl ⟨0, ⟨by decide +kernel, rfl⟩, by decide⟩
theorem dX6_isEnded_40 : nv_distore qX6_isEnded 40 7 42 := Or.inl ⟨by decide +kernel, rfl⟩
theorem dX6_isEnded_42 : nv_diload qX6_isEnded 42 7 44 := Or.inl ⟨by decide +kernel, rfl⟩
theorem dX6_isEnded_44 : nv_daload qX6_isEnded 44 0 45 := Or.inr ⟨0, rfl, by decide +kernel, rfl⟩
theorem dX6_isEnded_45 : nv_dc qX6_isEnded 45 (.getfield 138) 3 48 := ⟨by decide +kernel, rfl⟩
theorem dX6_isEnded_48 : nv_dic qX6_isEnded 48 .ge 131 51 := ⟨83, by decide +kernel, by decide, rfl⟩
theorem dX6_isEnded_51 : nv_daload qX6_isEnded 51 0 52 := Or.inr ⟨0, rfl, by decide +kernel, rfl⟩
theorem dX6_isEnded_52 : nv_dc qX6_isEnded 52 (.getfield 21) 3 55 := ⟨by decide +kernel, rfl⟩
theorem dX6_isEnded_55 : nv_diload qX6_isEnded 55 7 57 := Or.inl ⟨by decide +kernel, rfl⟩
theorem dX6_isEnded_57 : nv_dc qX6_isEnded 57 (.aaload) 1 58 := ⟨by decide +kernel, rfl⟩
theorem dX6_isEnded_58 : nv_dc qX6_isEnded 58 (.getfield 141) 3 61 := ⟨by decide +kernel, rfl⟩
theorem dX6_isEnded_61 : nv_diload qX6_isEnded 61 2 62 := Or.inr ⟨2, rfl, by decide +kernel, rfl⟩
theorem dX6_isEnded_62 : nv_dic qX6_isEnded 62 .eq 68 65 := ⟨6, by decide +kernel, by decide, rfl⟩
theorem dX6_isEnded_65 : nv_dgo qX6_isEnded 65 125 := ⟨60, by decide +kernel, by decide⟩
theorem dX6_isEnded_68 : nv_diload qX6_isEnded 68 5 70 := Or.inl ⟨by decide +kernel, rfl⟩
theorem dX6_isEnded_70 : nv_dif qX6_isEnded 70 .eq 93 73 := ⟨23, by decide +kernel, by decide, rfl⟩
theorem dX6_isEnded_73 : nv_daload qX6_isEnded 73 0 74 := Or.inr ⟨0, rfl, by decide +kernel, rfl⟩
theorem dX6_isEnded_74 : nv_dc qX6_isEnded 74 (.getfield 21) 3 77 := ⟨by decide +kernel, rfl⟩
theorem dX6_isEnded_77 : nv_diload qX6_isEnded 77 7 79 := Or.inl ⟨by decide +kernel, rfl⟩
theorem dX6_isEnded_79 : nv_dc qX6_isEnded 79 (.aaload) 1 80 := ⟨by decide +kernel, rfl⟩
theorem dX6_isEnded_80 : nv_dc qX6_isEnded 80 (.getfield 144) 3 83 := ⟨by decide +kernel, rfl⟩
theorem dX6_isEnded_83 : nv_daload qX6_isEnded 83 3 84 := Or.inr ⟨3, rfl, by decide +kernel, rfl⟩
theorem dX6_isEnded_84 : nv_dc qX6_isEnded 84 (.getfield 177) 3 87 := ⟨by decide +kernel, rfl⟩
theorem dX6_isEnded_87 : nv_dic qX6_isEnded 87 .gt 125 90 := ⟨38, by decide +kernel, by decide, rfl⟩
theorem dX6_isEnded_90 : nv_dgo qX6_isEnded 90 123 := ⟨33, by decide +kernel, by decide⟩
theorem dX6_isEnded_93 : nv_daload qX6_isEnded 93 0 94 := Or.inr ⟨0, rfl, by decide +kernel, rfl⟩
theorem dX6_isEnded_94 : nv_dc qX6_isEnded 94 (.getfield 21) 3 97 := ⟨by decide +kernel, rfl⟩
theorem dX6_isEnded_97 : nv_diload qX6_isEnded 97 7 99 := Or.inl ⟨by decide +kernel, rfl⟩
theorem dX6_isEnded_99 : nv_dc qX6_isEnded 99 (.aaload) 1 100 := ⟨by decide +kernel, rfl⟩
theorem dX6_isEnded_100 : nv_dc qX6_isEnded 100 (.getfield 147) 3 103 := ⟨by decide +kernel, rfl⟩
theorem dX6_isEnded_103 : nv_diload qX6_isEnded 103 6 105 := Or.inl ⟨by decide +kernel, rfl⟩
theorem dX6_isEnded_105 : nv_dic qX6_isEnded 105 .ne 125 108 := ⟨20, by decide +kernel, by decide, rfl⟩
theorem dX6_isEnded_108 : nv_daload qX6_isEnded 108 0 109 := Or.inr ⟨0, rfl, by decide +kernel, rfl⟩
theorem dX6_isEnded_109 : nv_diload qX6_isEnded 109 7 111 := Or.inl ⟨by decide +kernel, rfl⟩
theorem dX6_isEnded_111 : nv_diload qX6_isEnded 111 4 113 := Or.inl ⟨by decide +kernel, rfl⟩
theorem dX6_isEnded_113 : nv_dc qX6_isEnded 113 (.invokevirtual 262) 3 116 := ⟨by decide +kernel, rfl⟩
theorem dX6_isEnded_116 : nv_daload qX6_isEnded 116 3 117 := Or.inr ⟨3, rfl, by decide +kernel, rfl⟩
theorem dX6_isEnded_117 : nv_dc qX6_isEnded 117 (.getfield 177) 3 120 := ⟨by decide +kernel, rfl⟩
theorem dX6_isEnded_120 : nv_dic qX6_isEnded 120 .gt 125 123 := ⟨5, by decide +kernel, by decide, rfl⟩
theorem dX6_isEnded_123 : nv_dk qX6_isEnded 123 1 124 := Or.inl ⟨1, ⟨by decide +kernel, rfl⟩, by decide⟩
theorem dX6_isEnded_124 : decode qX6_isEnded.2.1 124 = .ok (.ireturn, 1) := by decide +kernel
theorem dX6_isEnded_125 : nv_dc qX6_isEnded 125 (.iinc 7 1) 3 128 := ⟨by decide +kernel, rfl⟩
theorem dX6_isEnded_128 : nv_dgo qX6_isEnded 128 42 := ⟨(-86), by decide +kernel, by decide⟩
theorem dX6_isEnded_131 : nv_dk qX6_isEnded 131 0 132 := Or.inl ⟨0, ⟨by decide +kernel, rfl⟩, by decide⟩
theorem dX6_isEnded_132 : decode qX6_isEnded.2.1 132 = .ok (.ireturn, 1) := by decide +kernel
def fc_isEnded_42 (h : nv_Hp) (x2 : Int32) (k3 : Nat) (x4 : Int32) (x5 : Bool) (x6 : Int32)  : Nat → Int32 → Option (Bool)
  | 0, _ => none
  | n + 1, x7 => (if (h 0 8) ≤ x7 then some false else (if nv_inb x7 12 = true then (if (h (25 + x7.toNatClampNeg) 0) = x2 then (if x5 = true then (if (h k3 6) < (h (25 + x7.toNatClampNeg) 1) then ((fc_isEnded_42 h x2 k3 x4 x5 x6 n) (x7 + 1)) else some true) else (if (h (25 + x7.toNatClampNeg) 2) = x6 then (if (h k3 6) < (fc_hearingDay h x7 x4) then ((fc_isEnded_42 h x2 k3 x4 x5 x6 n) (x7 + 1)) else some true) else ((fc_isEnded_42 h x2 k3 x4 x5 x6 n) (x7 + 1)))) else ((fc_isEnded_42 h x2 k3 x4 x5 x6 n) (x7 + 1))) else none))
set_option maxHeartbeats 2000000 in
theorem tc_isEnded_42 (G : nv_G) (h : nv_Hp) (x2 : Int32) (hx2 : nv_inb x2 12 = true) (k3 : Nat) (hk3 : nv_O 2 k3) (x4 : Int32) (x5 : Bool) (x6 : Int32)  : ∀ (n : Nat) (x7 : Int32) (o1 : Option Value) (r : Bool), fc_isEnded_42 h x2 k3 x4 x5 x6 n x7 = some r → nv_E G 1 qX6_isEnded 42 [some (.ref 0), o1, some (.int x2), some (.ref k3), some (.int x4), some (.int (nv_bi x5)), some (.int x6), some (.int x7)] [] (nv_s h) (some (.int (nv_bi r)), nv_s h) := by
  intro n
  induction n with
  | zero =>
    intro x7 o1 r hf
    rw [fc_isEnded_42] at hf
    cases hf
  | succ n ih =>
    intro x7 o1 r hf
    rw [fc_isEnded_42] at hf
    refine nv_iL dX6_isEnded_42 rfl ?_
    refine nv_aL dX6_isEnded_44 rfl ?_
    refine nv_tI lf_X6_138 dX6_isEnded_45 ko_0 rfl ?_
    refine nv_icge dX6_isEnded_48 (fun c1 => ?_) (fun c1 => ?_)
    · replace hf := nv_ip c1 hf
      refine nv_k dX6_isEnded_131 ?_
      obtain rfl := Option.some.inj hf
      exact nv_ireturnB (b := false) dX6_isEnded_132 rfl
    · replace hf := nv_in c1 hf
      refine nv_aL dX6_isEnded_51 rfl ?_
      refine nv_tR lf_X6_21 dX6_isEnded_52 ko_0 rfl ?_
      refine nv_iL dX6_isEnded_55 rfl ?_
      obtain ⟨g2, hf⟩ := nv_gd hf
      refine nv_aR dX6_isEnded_57 kr_3 ⟨_, rfl⟩ g2 (nv_q1 _ _) ?_
      refine nv_gI lf_X6_141 dX6_isEnded_58 (nv_o1 g2) rfl ?_
      refine nv_iL dX6_isEnded_61 rfl ?_
      refine nv_iceq dX6_isEnded_62 (fun c3 => ?_) (fun c3 => ?_)
      · replace hf := nv_ip c3 hf
        refine nv_iL dX6_isEnded_68 rfl ?_
        refine nv_ifeqB dX6_isEnded_70 (fun c4 => ?_) (fun c4 => ?_)
        · replace hf := nv_ip c4 hf
          refine nv_aL dX6_isEnded_73 rfl ?_
          refine nv_tR lf_X6_21 dX6_isEnded_74 ko_0 rfl ?_
          refine nv_iL dX6_isEnded_77 rfl ?_
          refine nv_aR dX6_isEnded_79 kr_3 ⟨_, rfl⟩ g2 (nv_q1 _ _) ?_
          refine nv_gI lf_X6_144 dX6_isEnded_80 (nv_o1 g2) rfl ?_
          refine nv_aL dX6_isEnded_83 rfl ?_
          refine nv_gI lf_X6_177 dX6_isEnded_84 hk3 rfl ?_
          refine nv_icgt dX6_isEnded_87 (fun c5 => ?_) (fun c5 => ?_)
          · replace hf := nv_ip c5 hf
            refine nv_inc dX6_isEnded_125 rfl (v := 1) (by decide) (by decide) rfl rfl ?_
            refine nv_goto dX6_isEnded_128 ?_
            exact ih _ _ _ hf
          · replace hf := nv_in c5 hf
            refine nv_goto dX6_isEnded_90 ?_
            refine nv_k dX6_isEnded_123 ?_
            obtain rfl := Option.some.inj hf
            exact nv_ireturnB (b := true) dX6_isEnded_124 rfl
        · replace hf := nv_in c4 hf
          refine nv_aL dX6_isEnded_93 rfl ?_
          refine nv_tR lf_X6_21 dX6_isEnded_94 ko_0 rfl ?_
          refine nv_iL dX6_isEnded_97 rfl ?_
          refine nv_aR dX6_isEnded_99 kr_3 ⟨_, rfl⟩ g2 (nv_q1 _ _) ?_
          refine nv_gI lf_X6_147 dX6_isEnded_100 (nv_o1 g2) rfl ?_
          refine nv_iL dX6_isEnded_103 rfl ?_
          refine nv_icne dX6_isEnded_105 (fun c6 => ?_) (fun c6 => ?_)
          · replace hf := nv_ip c6 hf
            refine nv_aL dX6_isEnded_108 rfl ?_
            refine nv_iL dX6_isEnded_109 rfl ?_
            refine nv_iL dX6_isEnded_111 rfl ?_
            refine nv_cVi (tc_hearingDay G h x7 g2 x4) dX6_isEnded_113 lm_X6_262 y_qX6_hearingDay ko_0 rfl rfl (by decide) rfl (Nat.le_of_ble_eq_true rfl) ?_
            refine nv_aL dX6_isEnded_116 rfl ?_
            refine nv_gI lf_X6_177 dX6_isEnded_117 hk3 rfl ?_
            refine nv_icgt dX6_isEnded_120 (fun c7 => ?_) (fun c7 => ?_)
            · replace hf := nv_ip c7 hf
              refine nv_inc dX6_isEnded_125 rfl (v := 1) (by decide) (by decide) rfl rfl ?_
              refine nv_goto dX6_isEnded_128 ?_
              exact ih _ _ _ hf
            · replace hf := nv_in c7 hf
              refine nv_k dX6_isEnded_123 ?_
              obtain rfl := Option.some.inj hf
              exact nv_ireturnB (b := true) dX6_isEnded_124 rfl
          · replace hf := nv_in c6 hf
            refine nv_inc dX6_isEnded_125 rfl (v := 1) (by decide) (by decide) rfl rfl ?_
            refine nv_goto dX6_isEnded_128 ?_
            exact ih _ _ _ hf
      · replace hf := nv_in c3 hf
        refine nv_goto dX6_isEnded_65 ?_
        refine nv_inc dX6_isEnded_125 rfl (v := 1) (by decide) (by decide) rfl rfl ?_
        refine nv_goto dX6_isEnded_128 ?_
        exact ih _ _ _ hf
def fc_isEnded_24 (h : nv_Hp) (k1 : Nat) (x2 : Int32) (k3 : Nat) (x4 : Int32) (s0 : Bool)  : Option (Bool) := (nv_lt ((fc_hearerOf h k1 (13 + x2.toNatClampNeg) k3)) fun v1 => (fc_isEnded_42 h x2 k3 x4 s0 v1 nv_fu 0))
set_option maxHeartbeats 2000000 in
theorem tc_isEnded_24 (G : nv_G) (h : nv_Hp) (k1 : Nat) (hk1 : nv_A 9 k1) (x2 : Int32) (hx2 : nv_inb x2 12 = true) (k3 : Nat) (hk3 : nv_O 2 k3) (x4 : Int32) (s0 : Bool)  (o5 o6 o7 : Option Value) (r : Bool) (hf : fc_isEnded_24 h k1 x2 k3 x4 s0 = some r) : nv_E G 1 qX6_isEnded 24 [some (.ref 0), some (.ref k1), some (.int x2), some (.ref k3), some (.int x4), o5, o6, o7] [.int (nv_bi s0)] (nv_s h) (some (.int (nv_bi r)), nv_s h) := by
  unfold fc_isEnded_24 at hf
  refine nv_iS dX6_isEnded_24 (by decide) rfl rfl ?_
  refine nv_aL dX6_isEnded_26 rfl ?_
  refine nv_aL dX6_isEnded_27 rfl ?_
  refine nv_tR lf_X6_15 dX6_isEnded_28 ko_0 rfl ?_
  refine nv_iL dX6_isEnded_31 rfl ?_
  refine nv_aR dX6_isEnded_32 kr_2 ⟨_, rfl⟩ hx2 (nv_q1 _ _) ?_
  refine nv_aL dX6_isEnded_33 rfl ?_
  refine nv_cSi (tc_hearerOf G h k1 hk1 (13 + x2.toNatClampNeg) (nv_o4 hx2) k3 hk3) dX6_isEnded_34 lm_X6_258 y_qX6_hearerOf rfl (by decide) rfl (Nat.le_of_ble_eq_true rfl) ?_
  obtain ⟨v1, ev1, hf⟩ := nv_ltX hf
  rw [ev1]
  clear ev1
  refine nv_iS dX6_isEnded_37 (by decide) rfl rfl ?_
  refine nv_k dX6_isEnded_39 ?_
  refine nv_iS dX6_isEnded_40 (by decide) rfl rfl ?_
  exact tc_isEnded_42 G _ _ hx2 _ hk3 _ _ _ _ _ _ _ hf
def fc_isEnded (h : nv_Hp) (k1 : Nat) (x2 : Int32) (k3 : Nat) (x4 : Int32) : Option (Bool) := (fc_isEnded_24 h k1 x2 k3 x4 (if (h (13 + x2.toNatClampNeg) 0) = 2 then false else (if (h k1 0) = 0 then true else false)))
set_option maxHeartbeats 2000000 in
theorem tc_isEnded (G : nv_G) (h : nv_Hp) (k1 : Nat) (hk1 : nv_A 9 k1) (x2 : Int32) (hx2 : nv_inb x2 12 = true) (k3 : Nat) (hk3 : nv_O 2 k3) (x4 : Int32) {r : Bool} (hf : (fc_isEnded h k1 x2 k3 x4) = some r) : nv_Mt G 1 qX6_isEnded [.ref 0, .ref k1, .int x2, .ref k3, .int x4] (nv_s h) (some (.int (nv_bi r)), nv_s h) := by
  refine nv_of (by decide +kernel) (fun ad => Nat.le_of_ble_eq_true rfl) (Nat.le_refl _) (Nat.le_of_ble_eq_true rfl) ?_
  show nv_E G 1 qX6_isEnded 0 [some (.ref 0), some (.ref k1), some (.int x2), some (.ref k3), some (.int x4), none, none, none] [] (nv_s h) (some (.int (nv_bi r)), nv_s h)
  unfold fc_isEnded at hf
  refine nv_aL dX6_isEnded_0 rfl ?_
  refine nv_tR lf_X6_15 dX6_isEnded_1 ko_0 rfl ?_
  refine nv_iL dX6_isEnded_4 rfl ?_
  refine nv_aR dX6_isEnded_5 kr_2 ⟨_, rfl⟩ hx2 (nv_q1 _ _) ?_
  refine nv_gI lf_X6_89 dX6_isEnded_6 (nv_o4 hx2) rfl ?_
  refine nv_k dX6_isEnded_9 ?_
  refine nv_iceq dX6_isEnded_10 (fun c1 => ?_) (fun c1 => ?_)
  · try simp only [if_pos c1] at hf
    refine nv_k dX6_isEnded_23 ?_
    exact tc_isEnded_24 G _ _ hk1 _ hx2 _ hk3 _ _ _ _ _ _ hf
  · try simp only [if_neg c1] at hf
    refine nv_aL dX6_isEnded_13 rfl ?_
    refine nv_k dX6_isEnded_14 ?_
    refine nv_aI dX6_isEnded_15 hk1 (by decide) (j := 0) (by decide) ?_
    refine nv_ifne dX6_isEnded_16 (fun c2 => ?_) (fun c2 => ?_)
    · try simp only [if_pos c2] at hf
      refine nv_k dX6_isEnded_19 ?_
      refine nv_goto dX6_isEnded_20 ?_
      exact tc_isEnded_24 G _ _ hk1 _ hx2 _ hk3 _ _ _ _ _ _ hf
    · try simp only [if_neg c2] at hf
      refine nv_k dX6_isEnded_23 ?_
      exact tc_isEnded_24 G _ _ hk1 _ hx2 _ hk3 _ _ _ _ _ _ hf
/-! WhoseName.reachesIn -/
theorem dX6_reachesIn_0 : nv_daload qX6_reachesIn 0 0 1 := Or.inr ⟨0, rfl, by decide +kernel, rfl⟩
theorem dX6_reachesIn_1 : nv_dc qX6_reachesIn 1 (.getfield 15) 3 4 := ⟨by decide +kernel, rfl⟩
theorem dX6_reachesIn_4 : nv_diload qX6_reachesIn 4 2 5 := Or.inr ⟨2, rfl, by decide +kernel, rfl⟩
theorem dX6_reachesIn_5 : nv_dc qX6_reachesIn 5 (.aaload) 1 6 := ⟨by decide +kernel, rfl⟩
theorem dX6_reachesIn_6 : nv_dastore qX6_reachesIn 6 5 8 := Or.inl ⟨by decide +kernel, rfl⟩
theorem dX6_reachesIn_8 : nv_daload qX6_reachesIn 8 1 9 := Or.inr ⟨1, rfl, by decide +kernel, rfl⟩
theorem dX6_reachesIn_9 : nv_daload qX6_reachesIn 9 5 11 := Or.inl ⟨by decide +kernel, rfl⟩
theorem dX6_reachesIn_11 : nv_daload qX6_reachesIn 11 3 12 := Or.inr ⟨3, rfl, by decide +kernel, rfl⟩
theorem dX6_reachesIn_12 : nv_dc qX6_reachesIn 12 (.invokestatic 277) 3 15 := ⟨by decide +kernel, rfl⟩
theorem dX6_reachesIn_15 : nv_dif qX6_reachesIn 15 .eq 30 18 := ⟨15, by decide +kernel, by decide, rfl⟩
theorem dX6_reachesIn_18 : nv_daload qX6_reachesIn 18 5 20 := Or.inl ⟨by decide +kernel, rfl⟩
theorem dX6_reachesIn_20 : nv_dc qX6_reachesIn 20 (.getfield 123) 3 23 := ⟨by decide +kernel, rfl⟩
theorem dX6_reachesIn_23 : nv_daload qX6_reachesIn 23 1 24 := Or.inr ⟨1, rfl, by decide +kernel, rfl⟩
theorem dX6_reachesIn_24 : nv_dk qX6_reachesIn 24 8 26 := Or.inr (Or.inl ⟨8, ⟨by decide +kernel, rfl⟩, by decide⟩)
theorem dX6_reachesIn_26 : nv_dc qX6_reachesIn 26 (.iaload) 1 27 := ⟨by decide +kernel, rfl⟩
theorem dX6_reachesIn_27 : nv_dic qX6_reachesIn 27 .le 32 30 := ⟨5, by decide +kernel, by decide, rfl⟩
theorem dX6_reachesIn_30 : nv_dk qX6_reachesIn 30 0 31 := Or.inl ⟨0, ⟨by decide +kernel, rfl⟩, by decide⟩
theorem dX6_reachesIn_31 : decode qX6_reachesIn.2.1 31 = .ok (.ireturn, 1) := by decide +kernel
theorem dX6_reachesIn_32 : nv_diload qX6_reachesIn 32 2 33 := Or.inr ⟨2, rfl, by decide +kernel, rfl⟩
theorem dX6_reachesIn_33 : nv_distore qX6_reachesIn 33 6 35 := Or.inl ⟨by decide +kernel, rfl⟩
theorem dX6_reachesIn_35 : nv_dk qX6_reachesIn 35 0 36 := Or.inl ⟨0, ⟨by decide +kernel, rfl⟩, by decide⟩
theorem dX6_reachesIn_36 : nv_distore qX6_reachesIn 36 7 38 := Or.inl ⟨by decide +kernel, rfl⟩
theorem dX6_reachesIn_38 : nv_diload qX6_reachesIn 38 7 40 := Or.inl ⟨by decide +kernel, rfl⟩
theorem dX6_reachesIn_40 : nv_dk qX6_reachesIn 40 12 42 := Or.inr (Or.inl ⟨12, ⟨by decide +kernel, rfl⟩, by decide⟩)
theorem dX6_reachesIn_42 : nv_dic qX6_reachesIn 42 .ge 102 45 := ⟨60, by decide +kernel, by decide, rfl⟩
theorem dX6_reachesIn_45 : nv_daload qX6_reachesIn 45 0 46 := Or.inr ⟨0, rfl, by decide +kernel, rfl⟩
theorem dX6_reachesIn_46 : nv_diload qX6_reachesIn 46 6 48 := Or.inl ⟨by decide +kernel, rfl⟩
theorem dX6_reachesIn_48 : nv_dc qX6_reachesIn 48 (.invokevirtual 114) 3 51 := ⟨by decide +kernel, rfl⟩
theorem dX6_reachesIn_51 : nv_dif qX6_reachesIn 51 .eq 102 54 := ⟨51, by decide +kernel, by decide, rfl⟩
theorem dX6_reachesIn_54 : nv_daload qX6_reachesIn 54 1 55 := Or.inr ⟨1, rfl, by decide +kernel, rfl⟩
theorem dX6_reachesIn_55 : nv_daload qX6_reachesIn 55 0 56 := Or.inr ⟨0, rfl, by decide +kernel, rfl⟩
theorem dX6_reachesIn_56 : nv_dc qX6_reachesIn 56 (.getfield 15) 3 59 := ⟨by decide +kernel, rfl⟩
theorem dX6_reachesIn_59 : nv_diload qX6_reachesIn 59 6 61 := Or.inl ⟨by decide +kernel, rfl⟩
theorem dX6_reachesIn_61 : nv_dc qX6_reachesIn 61 (.aaload) 1 62 := ⟨by decide +kernel, rfl⟩
theorem dX6_reachesIn_62 : nv_daload qX6_reachesIn 62 3 63 := Or.inr ⟨3, rfl, by decide +kernel, rfl⟩
theorem dX6_reachesIn_63 : nv_dc qX6_reachesIn 63 (.invokestatic 281) 3 66 := ⟨by decide +kernel, rfl⟩
theorem dX6_reachesIn_66 : nv_dif qX6_reachesIn 66 .eq 82 69 := ⟨16, by decide +kernel, by decide, rfl⟩
theorem dX6_reachesIn_69 : nv_daload qX6_reachesIn 69 0 70 := Or.inr ⟨0, rfl, by decide +kernel, rfl⟩
theorem dX6_reachesIn_70 : nv_daload qX6_reachesIn 70 1 71 := Or.inr ⟨1, rfl, by decide +kernel, rfl⟩
theorem dX6_reachesIn_71 : nv_diload qX6_reachesIn 71 6 73 := Or.inl ⟨by decide +kernel, rfl⟩
theorem dX6_reachesIn_73 : nv_daload qX6_reachesIn 73 3 74 := Or.inr ⟨3, rfl, by decide +kernel, rfl⟩
theorem dX6_reachesIn_74 : nv_diload qX6_reachesIn 74 4 76 := Or.inl ⟨by decide +kernel, rfl⟩
theorem dX6_reachesIn_76 : nv_dc qX6_reachesIn 76 (.invokevirtual 238) 3 79 := ⟨by decide +kernel, rfl⟩
theorem dX6_reachesIn_79 : nv_dif qX6_reachesIn 79 .eq 84 82 := ⟨5, by decide +kernel, by decide, rfl⟩
theorem dX6_reachesIn_82 : nv_dk qX6_reachesIn 82 0 83 := Or.inl ⟨0, ⟨by decide +kernel, rfl⟩, by decide⟩
theorem dX6_reachesIn_83 : decode qX6_reachesIn.2.1 83 = .ok (.ireturn, 1) := by decide +kernel
theorem dX6_reachesIn_84 : nv_daload qX6_reachesIn 84 0 85 := Or.inr ⟨0, rfl, by decide +kernel, rfl⟩
theorem dX6_reachesIn_85 : nv_dc qX6_reachesIn 85 (.getfield 15) 3 88 := ⟨by decide +kernel, rfl⟩
theorem dX6_reachesIn_88 : nv_diload qX6_reachesIn 88 6 90 := Or.inl ⟨by decide +kernel, rfl⟩
theorem dX6_reachesIn_90 : nv_dc qX6_reachesIn 90 (.aaload) 1 91 := ⟨by decide +kernel, rfl⟩
theorem dX6_reachesIn_91 : nv_dc qX6_reachesIn 91 (.getfield 120) 3 94 := ⟨by decide +kernel, rfl⟩
theorem dX6_reachesIn_94 : nv_distore qX6_reachesIn 94 6 96 := Or.inl ⟨by decide +kernel, rfl⟩
theorem dX6_reachesIn_96 : nv_dc qX6_reachesIn 96 (.iinc 7 1) 3 99 := ⟨by decide +kernel, rfl⟩
theorem dX6_reachesIn_99 : nv_dgo qX6_reachesIn 99 38 := ⟨(-61), by decide +kernel, by decide⟩
theorem dX6_reachesIn_102 : nv_dk qX6_reachesIn 102 1 103 := Or.inl ⟨1, ⟨by decide +kernel, rfl⟩, by decide⟩
theorem dX6_reachesIn_103 : decode qX6_reachesIn.2.1 103 = .ok (.ireturn, 1) := by decide +kernel
def fc_reachesIn_38 (h : nv_Hp) (k1 : Nat) (k3 : Nat) (x4 : Int32)  : Nat → Int32 → Int32 → Option (Bool)
  | 0, _, _ => none
  | n + 1, x6, x7 => (if 12 ≤ x7 then some true else (if (fc_isLeave h x6) = true then (if nv_inb x6 12 = true then (if (fc_hasRoomFor h k1 (13 + x6.toNatClampNeg) k3) = true then (Option.bind (fc_isEnded h k1 x6 k3 x4) fun q5 => (if q5 = true then some false else (nv_lt ((h (13 + x6.toNatClampNeg) 8)) fun v7 => ((fc_reachesIn_38 h k1 k3 x4 n) v7 (x7 + 1))))) else some false) else none) else some true))
set_option maxHeartbeats 2000000 in
theorem tc_reachesIn_38 (G : nv_G) (h : nv_Hp) (k1 : Nat) (hk1 : nv_A 9 k1) (k3 : Nat) (hk3 : nv_O 2 k3) (x4 : Int32)  : ∀ (n : Nat) (x6 : Int32) (x7 : Int32) (o2 o5 : Option Value) (r : Bool), fc_reachesIn_38 h k1 k3 x4 n x6 x7 = some r → nv_E G 2 qX6_reachesIn 38 [some (.ref 0), some (.ref k1), o2, some (.ref k3), some (.int x4), o5, some (.int x6), some (.int x7)] [] (nv_s h) (some (.int (nv_bi r)), nv_s h) := by
  intro n
  induction n with
  | zero =>
    intro x6 x7 o2 o5 r hf
    rw [fc_reachesIn_38] at hf
    cases hf
  | succ n ih =>
    intro x6 x7 o2 o5 r hf
    rw [fc_reachesIn_38] at hf
    refine nv_iL dX6_reachesIn_38 rfl ?_
    refine nv_k dX6_reachesIn_40 ?_
    refine nv_icge dX6_reachesIn_42 (fun c1 => ?_) (fun c1 => ?_)
    · replace hf := nv_ip c1 hf
      refine nv_k dX6_reachesIn_102 ?_
      obtain rfl := Option.some.inj hf
      exact nv_ireturnB (b := true) dX6_reachesIn_103 rfl
    · replace hf := nv_in c1 hf
      refine nv_aL dX6_reachesIn_45 rfl ?_
      refine nv_iL dX6_reachesIn_46 rfl ?_
      refine nv_cVi (tc_isLeave G h x6) dX6_reachesIn_48 lm_X6_114 y_qX6_isLeave ko_0 rfl rfl (by decide) rfl (Nat.le_of_ble_eq_true rfl) ?_
      refine nv_ifeqB dX6_reachesIn_51 (fun c2 => ?_) (fun c2 => ?_)
      · replace hf := nv_ip c2 hf
        refine nv_aL dX6_reachesIn_54 rfl ?_
        refine nv_aL dX6_reachesIn_55 rfl ?_
        refine nv_tR lf_X6_15 dX6_reachesIn_56 ko_0 rfl ?_
        refine nv_iL dX6_reachesIn_59 rfl ?_
        obtain ⟨g3, hf⟩ := nv_gd hf
        refine nv_aR dX6_reachesIn_61 kr_2 ⟨_, rfl⟩ g3 (nv_q1 _ _) ?_
        refine nv_aL dX6_reachesIn_62 rfl ?_
        refine nv_cSi (tc_hasRoomFor G h k1 hk1 (13 + x6.toNatClampNeg) (nv_o4 g3) k3 hk3) dX6_reachesIn_63 lm_X6_281 y_qX6_hasRoomFor rfl (by decide) rfl (Nat.le_of_ble_eq_true rfl) ?_
        refine nv_ifeqB dX6_reachesIn_66 (fun c4 => ?_) (fun c4 => ?_)
        · replace hf := nv_ip c4 hf
          refine nv_aL dX6_reachesIn_69 rfl ?_
          refine nv_aL dX6_reachesIn_70 rfl ?_
          refine nv_iL dX6_reachesIn_71 rfl ?_
          refine nv_aL dX6_reachesIn_73 rfl ?_
          refine nv_iL dX6_reachesIn_74 rfl ?_
          obtain ⟨q5, hq5, hf⟩ := nv_bd hf
          refine nv_cVi (tc_isEnded G h k1 hk1 x6 g3 k3 hk3 x4 hq5) dX6_reachesIn_76 lm_X6_238 y_qX6_isEnded ko_0 rfl rfl (by decide) rfl (Nat.le_of_ble_eq_true rfl) ?_
          refine nv_ifeqB dX6_reachesIn_79 (fun c6 => ?_) (fun c6 => ?_)
          · replace hf := nv_ip c6 hf
            refine nv_k dX6_reachesIn_82 ?_
            obtain rfl := Option.some.inj hf
            exact nv_ireturnB (b := false) dX6_reachesIn_83 rfl
          · replace hf := nv_in c6 hf
            refine nv_aL dX6_reachesIn_84 rfl ?_
            refine nv_tR lf_X6_15 dX6_reachesIn_85 ko_0 rfl ?_
            refine nv_iL dX6_reachesIn_88 rfl ?_
            refine nv_aR dX6_reachesIn_90 kr_2 ⟨_, rfl⟩ g3 (nv_q1 _ _) ?_
            refine nv_gI lf_X6_120 dX6_reachesIn_91 (nv_o4 g3) rfl ?_
            obtain ⟨v7, ev7, hf⟩ := nv_ltX hf
            rw [ev7]
            clear ev7
            refine nv_wk 5 rfl ?_
            refine nv_iS dX6_reachesIn_94 (by decide) rfl rfl ?_
            refine nv_inc dX6_reachesIn_96 rfl (v := 1) (by decide) (by decide) rfl rfl ?_
            refine nv_goto dX6_reachesIn_99 ?_
            exact ih _ _ _ _ _ hf
        · replace hf := nv_in c4 hf
          refine nv_k dX6_reachesIn_82 ?_
          obtain rfl := Option.some.inj hf
          exact nv_ireturnB (b := false) dX6_reachesIn_83 rfl
      · replace hf := nv_in c2 hf
        refine nv_k dX6_reachesIn_102 ?_
        obtain rfl := Option.some.inj hf
        exact nv_ireturnB (b := true) dX6_reachesIn_103 rfl
def fc_reachesIn (h : nv_Hp) (k1 : Nat) (x2 : Int32) (k3 : Nat) (x4 : Int32) : Option (Bool) := (if (fc_isAimedAt h k1 (13 + x2.toNatClampNeg) k3) = true then (if (h (13 + x2.toNatClampNeg) 9) ≤ (h k1 8) then (fc_reachesIn_38 h k1 k3 x4 nv_fu x2 0) else some false) else some false)
set_option maxHeartbeats 2000000 in
theorem tc_reachesIn (G : nv_G) (h : nv_Hp) (k1 : Nat) (hk1 : nv_A 9 k1) (x2 : Int32) (hx2 : nv_inb x2 12 = true) (k3 : Nat) (hk3 : nv_O 2 k3) (x4 : Int32) {r : Bool} (hf : (fc_reachesIn h k1 x2 k3 x4) = some r) : nv_Mt G 2 qX6_reachesIn [.ref 0, .ref k1, .int x2, .ref k3, .int x4] (nv_s h) (some (.int (nv_bi r)), nv_s h) := by
  refine nv_of (by decide +kernel) (fun ad => Nat.le_of_ble_eq_true rfl) (Nat.le_refl _) (Nat.le_of_ble_eq_true rfl) ?_
  show nv_E G 2 qX6_reachesIn 0 [some (.ref 0), some (.ref k1), some (.int x2), some (.ref k3), some (.int x4), none, none, none] [] (nv_s h) (some (.int (nv_bi r)), nv_s h)
  unfold fc_reachesIn at hf
  refine nv_aL dX6_reachesIn_0 rfl ?_
  refine nv_tR lf_X6_15 dX6_reachesIn_1 ko_0 rfl ?_
  refine nv_iL dX6_reachesIn_4 rfl ?_
  refine nv_aR dX6_reachesIn_5 kr_2 ⟨_, rfl⟩ hx2 (nv_q1 _ _) ?_
  refine nv_aS dX6_reachesIn_6 (by decide) rfl rfl ?_
  refine nv_aL dX6_reachesIn_8 rfl ?_
  refine nv_aL dX6_reachesIn_9 rfl ?_
  refine nv_aL dX6_reachesIn_11 rfl ?_
  refine nv_cSi (tc_isAimedAt G h k1 hk1 (13 + x2.toNatClampNeg) (nv_o4 hx2) k3 hk3) dX6_reachesIn_12 lm_X6_277 y_qX6_isAimedAt rfl (by decide) rfl (Nat.le_of_ble_eq_true rfl) ?_
  refine nv_ifeqB dX6_reachesIn_15 (fun c1 => ?_) (fun c1 => ?_)
  · replace hf := nv_ip c1 hf
    refine nv_aL dX6_reachesIn_18 rfl ?_
    refine nv_gI lf_X6_123 dX6_reachesIn_20 (nv_o4 hx2) rfl ?_
    refine nv_aL dX6_reachesIn_23 rfl ?_
    refine nv_k dX6_reachesIn_24 ?_
    refine nv_aI dX6_reachesIn_26 hk1 (by decide) (j := 8) (by decide) ?_
    refine nv_icle dX6_reachesIn_27 (fun c2 => ?_) (fun c2 => ?_)
    · replace hf := nv_ip c2 hf
      refine nv_iL dX6_reachesIn_32 rfl ?_
      refine nv_iS dX6_reachesIn_33 (by decide) rfl rfl ?_
      refine nv_k dX6_reachesIn_35 ?_
      refine nv_iS dX6_reachesIn_36 (by decide) rfl rfl ?_
      exact tc_reachesIn_38 G _ _ hk1 _ hk3 _ _ _ _ _ _ _ hf
    · replace hf := nv_in c2 hf
      refine nv_k dX6_reachesIn_30 ?_
      obtain rfl := Option.some.inj hf
      exact nv_ireturnB (b := false) dX6_reachesIn_31 rfl
  · replace hf := nv_in c1 hf
    refine nv_k dX6_reachesIn_30 ?_
    obtain rfl := Option.some.inj hf
    exact nv_ireturnB (b := false) dX6_reachesIn_31 rfl
/-! WhoseName.reaches -/
theorem dX6_reaches_0 : nv_diload qX6_reaches 0 1 1 := Or.inr ⟨1, rfl, by decide +kernel, rfl⟩
theorem dX6_reaches_1 : nv_dc qX6_reaches 1 (.invokestatic 217) 3 4 := ⟨by decide +kernel, rfl⟩
theorem dX6_reaches_4 : nv_dif qX6_reaches 4 .eq 31 7 := ⟨27, by decide +kernel, by decide, rfl⟩
theorem dX6_reaches_7 : nv_daload qX6_reaches 7 0 8 := Or.inr ⟨0, rfl, by decide +kernel, rfl⟩
theorem dX6_reaches_8 : nv_diload qX6_reaches 8 2 9 := Or.inr ⟨2, rfl, by decide +kernel, rfl⟩
theorem dX6_reaches_9 : nv_dc qX6_reaches 9 (.invokevirtual 114) 3 12 := ⟨by decide +kernel, rfl⟩
theorem dX6_reaches_12 : nv_dif qX6_reaches 12 .eq 31 15 := ⟨19, by decide +kernel, by decide, rfl⟩
theorem dX6_reaches_15 : nv_daload qX6_reaches 15 0 16 := Or.inr ⟨0, rfl, by decide +kernel, rfl⟩
theorem dX6_reaches_16 : nv_diload qX6_reaches 16 3 17 := Or.inr ⟨3, rfl, by decide +kernel, rfl⟩
theorem dX6_reaches_17 : nv_dc qX6_reaches 17 (.invokevirtual 201) 3 20 := ⟨by decide +kernel, rfl⟩
theorem dX6_reaches_20 : nv_dif qX6_reaches 20 .eq 31 23 := ⟨11, by decide +kernel, by decide, rfl⟩
theorem dX6_reaches_23 : nv_diload qX6_reaches 23 4 25 := Or.inl ⟨by decide +kernel, rfl⟩
theorem dX6_reaches_25 : nv_dc qX6_reaches 25 (.invokestatic 129) 3 28 := ⟨by decide +kernel, rfl⟩
theorem dX6_reaches_28 : nv_dif qX6_reaches 28 .ne 34 31 := ⟨6, by decide +kernel, by decide, rfl⟩
theorem dX6_reaches_31 : nv_dk qX6_reaches 31 (-2) 33 := Or.inr (Or.inl ⟨(-2), ⟨by decide +kernel, rfl⟩, by decide⟩)
theorem dX6_reaches_33 : decode qX6_reaches.2.1 33 = .ok (.ireturn, 1) := by decide +kernel
theorem dX6_reaches_34 : nv_daload qX6_reaches 34 0 35 := Or.inr ⟨0, rfl, by decide +kernel, rfl⟩
theorem dX6_reaches_35 : nv_dc qX6_reaches 35 (.getfield 39) 3 38 := ⟨by decide +kernel, rfl⟩
theorem dX6_reaches_38 : nv_diload qX6_reaches 38 1 39 := Or.inr ⟨1, rfl, by decide +kernel, rfl⟩
theorem dX6_reaches_39 : nv_dc qX6_reaches 39 (.aaload) 1 40 := ⟨by decide +kernel, rfl⟩
theorem dX6_reaches_40 : nv_dc qX6_reaches 40 (.getfield 231) 3 43 := ⟨by decide +kernel, rfl⟩
theorem dX6_reaches_43 : nv_dastore qX6_reaches 43 5 45 := Or.inl ⟨by decide +kernel, rfl⟩
theorem dX6_reaches_45 : nv_daload qX6_reaches 45 0 46 := Or.inr ⟨0, rfl, by decide +kernel, rfl⟩
theorem dX6_reaches_46 : nv_dc qX6_reaches 46 (.getfield 27) 3 49 := ⟨by decide +kernel, rfl⟩
theorem dX6_reaches_49 : nv_diload qX6_reaches 49 3 50 := Or.inr ⟨3, rfl, by decide +kernel, rfl⟩
theorem dX6_reaches_50 : nv_dc qX6_reaches 50 (.aaload) 1 51 := ⟨by decide +kernel, rfl⟩
theorem dX6_reaches_51 : nv_dastore qX6_reaches 51 6 53 := Or.inl ⟨by decide +kernel, rfl⟩
theorem dX6_reaches_53 : nv_diload qX6_reaches 53 4 55 := Or.inl ⟨by decide +kernel, rfl⟩
theorem dX6_reaches_55 : nv_dif qX6_reaches 55 .ne 71 58 := ⟨16, by decide +kernel, by decide, rfl⟩
theorem dX6_reaches_58 : nv_daload qX6_reaches 58 0 59 := Or.inr ⟨0, rfl, by decide +kernel, rfl⟩
theorem dX6_reaches_59 : nv_daload qX6_reaches 59 5 61 := Or.inl ⟨by decide +kernel, rfl⟩
theorem dX6_reaches_61 : nv_diload qX6_reaches 61 2 62 := Or.inr ⟨2, rfl, by decide +kernel, rfl⟩
theorem dX6_reaches_62 : nv_daload qX6_reaches 62 6 64 := Or.inl ⟨by decide +kernel, rfl⟩
theorem dX6_reaches_64 : nv_dk qX6_reaches 64 0 65 := Or.inl ⟨0, ⟨by decide +kernel, rfl⟩, by decide⟩
theorem dX6_reaches_65 : nv_dc qX6_reaches 65 (.invokevirtual 234) 3 68 := ⟨by decide +kernel, rfl⟩
theorem dX6_reaches_68 : nv_dgo qX6_reaches 68 81 := ⟨13, by decide +kernel, by decide⟩
theorem dX6_reaches_71 : nv_daload qX6_reaches 71 0 72 := Or.inr ⟨0, rfl, by decide +kernel, rfl⟩
theorem dX6_reaches_72 : nv_daload qX6_reaches 72 5 74 := Or.inl ⟨by decide +kernel, rfl⟩
theorem dX6_reaches_74 : nv_diload qX6_reaches 74 2 75 := Or.inr ⟨2, rfl, by decide +kernel, rfl⟩
theorem dX6_reaches_75 : nv_daload qX6_reaches 75 6 77 := Or.inl ⟨by decide +kernel, rfl⟩
theorem dX6_reaches_77 : nv_dk qX6_reaches 77 0 78 := Or.inl ⟨0, ⟨by decide +kernel, rfl⟩, by decide⟩
theorem dX6_reaches_78 : nv_dc qX6_reaches 78 (.invokevirtual 238) 3 81 := ⟨by decide +kernel, rfl⟩
theorem dX6_reaches_81 : nv_distore qX6_reaches 81 7 83 := Or.inl ⟨by decide +kernel, rfl⟩
theorem dX6_reaches_83 : nv_diload qX6_reaches 83 7 85 := Or.inl ⟨by decide +kernel, rfl⟩
theorem dX6_reaches_85 : nv_dif qX6_reaches 85 .eq 92 88 := ⟨7, by decide +kernel, by decide, rfl⟩
theorem dX6_reaches_88 : nv_dk qX6_reaches 88 1 89 := Or.inl ⟨1, ⟨by decide +kernel, rfl⟩, by decide⟩
theorem dX6_reaches_89 : nv_dgo qX6_reaches 89 93 := ⟨4, by decide +kernel, by decide⟩
theorem dX6_reaches_92 : nv_dk qX6_reaches 92 0 93 := Or.inl ⟨0, ⟨by decide +kernel, rfl⟩, by decide⟩
theorem dX6_reaches_93 : decode qX6_reaches.2.1 93 = .ok (.ireturn, 1) := by decide +kernel
def fc_reaches_81 (h : nv_Hp)  (s0 : Bool)  : Option (Int32) := (if s0 = true then some 1 else some 0)
set_option maxHeartbeats 2000000 in
theorem tc_reaches_81 (G : nv_G) (h : nv_Hp)  (s0 : Bool)  (o1 o2 o3 o4 o5 o6 o7 : Option Value) (r : Int32) (hf : fc_reaches_81 h s0 = some r) : nv_E G 3 qX6_reaches 81 [some (.ref 0), o1, o2, o3, o4, o5, o6, o7] [.int (nv_bi s0)] (nv_s h) (some (.int r), nv_s h) := by
  unfold fc_reaches_81 at hf
  refine nv_wk 6 rfl ?_
  refine nv_iS dX6_reaches_81 (by decide) rfl rfl ?_
  refine nv_iL dX6_reaches_83 rfl ?_
  refine nv_ifeqB dX6_reaches_85 (fun c1 => ?_) (fun c1 => ?_)
  · replace hf := nv_ip c1 hf
    refine nv_k dX6_reaches_88 ?_
    refine nv_goto dX6_reaches_89 ?_
    obtain rfl := Option.some.inj hf
    exact nv_ireturnI dX6_reaches_93 rfl
  · replace hf := nv_in c1 hf
    refine nv_k dX6_reaches_92 ?_
    obtain rfl := Option.some.inj hf
    exact nv_ireturnI dX6_reaches_93 rfl
def fc_reaches (h : nv_Hp) (x1 : Int32) (x2 : Int32) (x3 : Int32) (x4 : Int32) : Option (Int32) := (if (fc_isLaw x1) = true then (if (fc_isLeave h x2) = true then (if (fc_isBargain h x3) = true then (if (fc_isFlag x4) = true then (if nv_inb x1 2 = true then (if nv_inb x3 10 = true then (Option.bind ((if x4 = 0 then (if nv_inb x2 12 = true then (Option.bind (fc_reachesIn h ((59 + 3 * x1.toNatClampNeg) + 2) x2 (37 + x3.toNatClampNeg) 0) fun q8 => some (q8)) else none) else (if nv_inb x2 12 = true then (Option.bind (fc_isEnded h ((59 + 3 * x1.toNatClampNeg) + 2) x2 (37 + x3.toNatClampNeg) 0) fun q10 => some (q10)) else none)) : Option (Bool)) fun u11 => fc_reaches_81 h u11) else none) else none) else some (-2)) else some (-2)) else some (-2)) else some (-2))
set_option maxHeartbeats 2000000 in
theorem tc_reaches (G : nv_G) (h : nv_Hp) (x1 : Int32) (x2 : Int32) (x3 : Int32) (x4 : Int32) {r : Int32} (hf : (fc_reaches h x1 x2 x3 x4) = some r) : nv_Mt G 3 qX6_reaches [.ref 0, .int x1, .int x2, .int x3, .int x4] (nv_s h) (some (.int r), nv_s h) := by
  refine nv_of (by decide +kernel) (fun ad => Nat.le_of_ble_eq_true rfl) (Nat.le_refl _) (Nat.le_of_ble_eq_true rfl) ?_
  show nv_E G 3 qX6_reaches 0 [some (.ref 0), some (.int x1), some (.int x2), some (.int x3), some (.int x4), none, none, none] [] (nv_s h) (some (.int r), nv_s h)
  unfold fc_reaches at hf
  refine nv_iL dX6_reaches_0 rfl ?_
  refine nv_cSi (tc_isLaw G h x1) dX6_reaches_1 lm_X6_217 y_qX6_isLaw rfl (by decide) rfl (Nat.le_of_ble_eq_true rfl) ?_
  refine nv_ifeqB dX6_reaches_4 (fun c1 => ?_) (fun c1 => ?_)
  · replace hf := nv_ip c1 hf
    refine nv_aL dX6_reaches_7 rfl ?_
    refine nv_iL dX6_reaches_8 rfl ?_
    refine nv_cVi (tc_isLeave G h x2) dX6_reaches_9 lm_X6_114 y_qX6_isLeave ko_0 rfl rfl (by decide) rfl (Nat.le_of_ble_eq_true rfl) ?_
    refine nv_ifeqB dX6_reaches_12 (fun c2 => ?_) (fun c2 => ?_)
    · replace hf := nv_ip c2 hf
      refine nv_aL dX6_reaches_15 rfl ?_
      refine nv_iL dX6_reaches_16 rfl ?_
      refine nv_cVi (tc_isBargain G h x3) dX6_reaches_17 lm_X6_201 y_qX6_isBargain ko_0 rfl rfl (by decide) rfl (Nat.le_of_ble_eq_true rfl) ?_
      refine nv_ifeqB dX6_reaches_20 (fun c3 => ?_) (fun c3 => ?_)
      · replace hf := nv_ip c3 hf
        refine nv_iL dX6_reaches_23 rfl ?_
        refine nv_cSi (tc_isFlag G h x4) dX6_reaches_25 lm_X6_129 y_qX6_isFlag rfl (by decide) rfl (Nat.le_of_ble_eq_true rfl) ?_
        refine nv_ifneB dX6_reaches_28 (fun c4 => ?_) (fun c4 => ?_)
        · replace hf := nv_ip c4 hf
          refine nv_aL dX6_reaches_34 rfl ?_
          refine nv_tR lf_X6_39 dX6_reaches_35 ko_0 rfl ?_
          refine nv_iL dX6_reaches_38 rfl ?_
          obtain ⟨g5, hf⟩ := nv_gd hf
          refine nv_aR dX6_reaches_39 kr_6 ⟨_, rfl⟩ g5 rfl ?_
          refine nv_gR (t := ((59 + 3 * x1.toNatClampNeg) + 2)) lf_X6_231 dX6_reaches_40 (nv_o3 g5) rfl ?_
          refine nv_aS dX6_reaches_43 (by decide) rfl rfl ?_
          refine nv_aL dX6_reaches_45 rfl ?_
          refine nv_tR lf_X6_27 dX6_reaches_46 ko_0 rfl ?_
          refine nv_iL dX6_reaches_49 rfl ?_
          obtain ⟨g6, hf⟩ := nv_gd hf
          refine nv_aR dX6_reaches_50 kr_4 ⟨_, rfl⟩ g6 (nv_q1 _ _) ?_
          refine nv_aS dX6_reaches_51 (by decide) rfl rfl ?_
          refine nv_iL dX6_reaches_53 rfl ?_
          refine nv_ifne dX6_reaches_55 (fun c12 => ?_) (fun c12 => ?_)
          · try simp only [if_pos c12, Option.bind_some] at hf
            refine nv_aL dX6_reaches_58 rfl ?_
            refine nv_aL dX6_reaches_59 rfl ?_
            refine nv_iL dX6_reaches_61 rfl ?_
            refine nv_aL dX6_reaches_62 rfl ?_
            refine nv_k dX6_reaches_64 ?_
            have g13 : nv_inb x2 12 = true := by
              by_cases g13 : nv_inb x2 12 = true
              · exact g13
              · exfalso; simp [if_neg g13] at hf
            simp only [if_pos g13, Option.bind_some] at hf
            obtain ⟨q14, hq14⟩ : ∃ q, fc_reachesIn h ((59 + 3 * x1.toNatClampNeg) + 2) x2 (37 + x3.toNatClampNeg) 0 = some q := by
              cases hq14 : fc_reachesIn h ((59 + 3 * x1.toNatClampNeg) + 2) x2 (37 + x3.toNatClampNeg) 0 with
              | none => exfalso; simp [hq14] at hf
              | some q => exact ⟨q, rfl⟩
            simp only [hq14, Option.bind_some] at hf
            refine nv_cVi (tc_reachesIn G h ((59 + 3 * x1.toNatClampNeg) + 2) (nv_o3w (nv_o3 g5)) x2 g13 (37 + x3.toNatClampNeg) (nv_o2 g6) 0 hq14) dX6_reaches_65 lm_X6_234 y_qX6_reachesIn ko_0 rfl rfl (by decide) rfl (Nat.le_of_ble_eq_true rfl) ?_
            refine nv_goto dX6_reaches_68 ?_
            exact tc_reaches_81 G _ _ _ _ _ _ _ _ _ _ hf
          · try simp only [if_neg c12, Option.bind_some] at hf
            refine nv_aL dX6_reaches_71 rfl ?_
            refine nv_aL dX6_reaches_72 rfl ?_
            refine nv_iL dX6_reaches_74 rfl ?_
            refine nv_aL dX6_reaches_75 rfl ?_
            refine nv_k dX6_reaches_77 ?_
            have g15 : nv_inb x2 12 = true := by
              by_cases g15 : nv_inb x2 12 = true
              · exact g15
              · exfalso; simp [if_neg g15] at hf
            simp only [if_pos g15, Option.bind_some] at hf
            obtain ⟨q16, hq16⟩ : ∃ q, fc_isEnded h ((59 + 3 * x1.toNatClampNeg) + 2) x2 (37 + x3.toNatClampNeg) 0 = some q := by
              cases hq16 : fc_isEnded h ((59 + 3 * x1.toNatClampNeg) + 2) x2 (37 + x3.toNatClampNeg) 0 with
              | none => exfalso; simp [hq16] at hf
              | some q => exact ⟨q, rfl⟩
            simp only [hq16, Option.bind_some] at hf
            refine nv_cVi (tc_isEnded G h ((59 + 3 * x1.toNatClampNeg) + 2) (nv_o3w (nv_o3 g5)) x2 g15 (37 + x3.toNatClampNeg) (nv_o2 g6) 0 hq16) dX6_reaches_78 lm_X6_238 y_qX6_isEnded ko_0 rfl rfl (by decide) rfl (Nat.le_of_ble_eq_true rfl) ?_
            exact tc_reaches_81 G _ _ _ _ _ _ _ _ _ _ hf
        · replace hf := nv_in c4 hf
          refine nv_k dX6_reaches_31 ?_
          obtain rfl := Option.some.inj hf
          exact nv_ireturnI dX6_reaches_33 rfl
      · replace hf := nv_in c3 hf
        refine nv_k dX6_reaches_31 ?_
        obtain rfl := Option.some.inj hf
        exact nv_ireturnI dX6_reaches_33 rfl
    · replace hf := nv_in c2 hf
      refine nv_k dX6_reaches_31 ?_
      obtain rfl := Option.some.inj hf
      exact nv_ireturnI dX6_reaches_33 rfl
  · replace hf := nv_in c1 hf
    refine nv_k dX6_reaches_31 ?_
    obtain rfl := Option.some.inj hf
    exact nv_ireturnI dX6_reaches_33 rfl
