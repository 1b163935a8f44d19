/-! WhoseNameModel.firstLeave -/
theorem dX7_firstLeave_0 : nv_dk qX7_firstLeave 0 0 1 := Or.inl ⟨0, ⟨by decide +kernel, rfl⟩, by decide⟩
theorem dX7_firstLeave_1 : nv_distore qX7_firstLeave 1 2 2 := Or.inr ⟨2, rfl, by decide +kernel, rfl⟩
theorem dX7_firstLeave_2 : nv_diload qX7_firstLeave 2 2 3 := Or.inr ⟨2, rfl, by decide +kernel, rfl⟩
theorem dX7_firstLeave_3 : nv_daload qX7_firstLeave 3 0 4 := Or.inr ⟨0, rfl, by decide +kernel, rfl⟩
theorem dX7_firstLeave_4 : nv_dc qX7_firstLeave 4 (.getfield 165) 3 7 := ⟨by decide +kernel, rfl⟩
theorem dX7_firstLeave_7 : nv_dic qX7_firstLeave 7 .ge 27 10 := ⟨20, by decide +kernel, by decide, rfl⟩
theorem dX7_firstLeave_10 : nv_daload qX7_firstLeave 10 0 11 := Or.inr ⟨0, rfl, by decide +kernel, rfl⟩
theorem dX7_firstLeave_11 : nv_diload qX7_firstLeave 11 2 12 := Or.inr ⟨2, rfl, by decide +kernel, rfl⟩
theorem dX7_firstLeave_12 : nv_diload qX7_firstLeave 12 1 13 := Or.inr ⟨1, rfl, by decide +kernel, rfl⟩
theorem dX7_firstLeave_13 : nv_dc qX7_firstLeave 13 (.invokevirtual 256) 3 16 := ⟨by decide +kernel, rfl⟩
theorem dX7_firstLeave_16 : nv_dif qX7_firstLeave 16 .eq 21 19 := ⟨5, by decide +kernel, by decide, rfl⟩
theorem dX7_firstLeave_19 : nv_diload qX7_firstLeave 19 2 20 := Or.inr ⟨2, rfl, by decide +kernel, rfl⟩
theorem dX7_firstLeave_20 : decode qX7_firstLeave.2.1 20 = .ok (.ireturn, 1) := by decide +kernel
theorem dX7_firstLeave_21 : nv_dc qX7_firstLeave 21 (.iinc 2 1) 3 24 := ⟨by decide +kernel, rfl⟩
theorem dX7_firstLeave_24 : nv_dgo qX7_firstLeave 24 2 := ⟨(-22), by decide +kernel, by decide⟩
theorem dX7_firstLeave_27 : nv_dk qX7_firstLeave 27 (-1) 28 := Or.inl ⟨(-1), ⟨by decide +kernel, rfl⟩, by decide⟩
theorem dX7_firstLeave_28 : decode qX7_firstLeave.2.1 28 = .ok (.ireturn, 1) := by decide +kernel
def pm_firstLeave_2 (h : nv_Hp) (x1 : Int32)  : Nat → Int32 → Option (Int32)
  | 0, _ => none
  | n + 1, x2 => (if (h 73 6) ≤ x2 then some (-1) else (if nv_inb x2 13 = true then (Option.bind (pm_reachesNow h x2 x1) fun q3 => (if q3 = true then some x2 else ((pm_firstLeave_2 h x1 n) (x2 + 1)))) else none))
set_option maxHeartbeats 2000000 in
theorem tm_firstLeave_2 (G : nv_G) (h : nv_Hp) (x1 : Int32) (hx1 : nv_inb x1 10 = true)  : ∀ (n : Nat) (x2 : Int32) (r : Int32), pm_firstLeave_2 h x1 n x2 = some r → nv_E G 3 qX7_firstLeave 2 [some (.ref 73), some (.int x1), some (.int x2)] [] (nv_s h) (some (.int r), nv_s h) := by
  intro n
  induction n with
  | zero =>
    intro x2 r hf
    rw [pm_firstLeave_2] at hf
    cases hf
  | succ n ih =>
    intro x2 r hf
    rw [pm_firstLeave_2] at hf
    refine nv_iL dX7_firstLeave_2 rfl ?_
    refine nv_aL dX7_firstLeave_3 rfl ?_
    refine nv_tI lf_X7_165 dX7_firstLeave_4 ko_73 rfl ?_
    refine nv_icge dX7_firstLeave_7 (fun c1 => ?_) (fun c1 => ?_)
    · replace hf := nv_ip c1 hf
      refine nv_k dX7_firstLeave_27 ?_
      obtain rfl := Option.some.inj hf
      exact nv_ireturnI dX7_firstLeave_28 rfl
    · replace hf := nv_in c1 hf
      refine nv_aL dX7_firstLeave_10 rfl ?_
      refine nv_iL dX7_firstLeave_11 rfl ?_
      refine nv_iL dX7_firstLeave_12 rfl ?_
      obtain ⟨g2, hf⟩ := nv_gd hf
      obtain ⟨q3, hq3, hf⟩ := nv_bd hf
      refine nv_cVi (tm_reachesNow G h x2 g2 x1 hx1 hq3) dX7_firstLeave_13 lm_X7_256 y_qX7_reachesNow ko_73 rfl rfl (by decide) rfl (Nat.le_of_ble_eq_true rfl) ?_
      refine nv_ifeqB dX7_firstLeave_16 (fun c4 => ?_) (fun c4 => ?_)
      · replace hf := nv_ip c4 hf
        refine nv_iL dX7_firstLeave_19 rfl ?_
        obtain rfl := Option.some.inj hf
        exact nv_ireturnI dX7_firstLeave_20 rfl
      · replace hf := nv_in c4 hf
        refine nv_inc dX7_firstLeave_21 rfl (v := 1) (by decide) (by decide) rfl rfl ?_
        refine nv_goto dX7_firstLeave_24 ?_
        exact ih _ _ hf
def pm_firstLeave (h : nv_Hp) (x1 : Int32) : Option (Int32) := (pm_firstLeave_2 h x1 nv_fu 0)
set_option maxHeartbeats 2000000 in
theorem tm_firstLeave (G : nv_G) (h : nv_Hp) (x1 : Int32) (hx1 : nv_inb x1 10 = true) {r : Int32} (hf : (pm_firstLeave h x1) = some r) : nv_Mt G 3 qX7_firstLeave [.ref 73, .int x1] (nv_s h) (some (.int r), nv_s h) := by
  refine nv_of (by decide +kernel) (fun ad => Nat.le_of_ble_eq_true rfl) (Nat.le_refl _) (Nat.le_of_ble_eq_true rfl) ?_
  show nv_E G 3 qX7_firstLeave 0 [some (.ref 73), some (.int x1), none] [] (nv_s h) (some (.int r), nv_s h)
  unfold pm_firstLeave at hf
  refine nv_k dX7_firstLeave_0 ?_
  refine nv_iS dX7_firstLeave_1 (by decide) rfl rfl ?_
  exact tm_firstLeave_2 G _ _ hx1 _ _ _ hf
/-! WhoseNameModel.isWell -/
theorem dX7_isWell_0 : nv_dk qX7_isWell 0 0 1 := Or.inl ⟨0, ⟨by decide +kernel, rfl⟩, by decide⟩
theorem dX7_isWell_1 : nv_distore qX7_isWell 1 2 2 := Or.inr ⟨2, rfl, by decide +kernel, rfl⟩
theorem dX7_isWell_2 : nv_dk qX7_isWell 2 0 3 := Or.inl ⟨0, ⟨by decide +kernel, rfl⟩, by decide⟩
theorem dX7_isWell_3 : nv_distore qX7_isWell 3 3 4 := Or.inr ⟨3, rfl, by decide +kernel, rfl⟩
theorem dX7_isWell_4 : nv_diload qX7_isWell 4 3 5 := Or.inr ⟨3, rfl, by decide +kernel, rfl⟩
theorem dX7_isWell_5 : nv_daload qX7_isWell 5 0 6 := Or.inr ⟨0, rfl, by decide +kernel, rfl⟩
theorem dX7_isWell_6 : nv_dc qX7_isWell 6 (.getfield 207) 3 9 := ⟨by decide +kernel, rfl⟩
theorem dX7_isWell_9 : nv_dic qX7_isWell 9 .ge 238 12 := ⟨229, by decide +kernel, by decide, rfl⟩
theorem dX7_isWell_12 : nv_daload qX7_isWell 12 0 13 := Or.inr ⟨0, rfl, by decide +kernel, rfl⟩
theorem dX7_isWell_13 : nv_dc qX7_isWell 13 (.getfield 88) 3 16 := ⟨by decide +kernel, rfl⟩
theorem dX7_isWell_16 : nv_diload qX7_isWell 16 3 17 := Or.inr ⟨3, rfl, by decide +kernel, rfl⟩
theorem dX7_isWell_17 : nv_dc qX7_isWell 17 (.iaload) 1 18 := ⟨by decide +kernel, rfl⟩
theorem dX7_isWell_18 : nv_diload qX7_isWell 18 1 19 := Or.inr ⟨1, rfl, by decide +kernel, rfl⟩
theorem dX7_isWell_19 : nv_dic qX7_isWell 19 .ne 97 22 := ⟨78, by decide +kernel, by decide, rfl⟩
theorem dX7_isWell_22 : nv_daload qX7_isWell 22 0 23 := Or.inr ⟨0, rfl, by decide +kernel, rfl⟩
theorem dX7_isWell_23 : nv_dc qX7_isWell 23 (.getfield 91) 3 26 := ⟨by decide +kernel, rfl⟩
theorem dX7_isWell_26 : nv_diload qX7_isWell 26 3 27 := Or.inr ⟨3, rfl, by decide +kernel, rfl⟩
theorem dX7_isWell_27 : nv_dc qX7_isWell 27 (.iaload) 1 28 := ⟨by decide +kernel, rfl⟩
theorem dX7_isWell_28 : nv_daload qX7_isWell 28 0 29 := Or.inr ⟨0, rfl, by decide +kernel, rfl⟩
theorem dX7_isWell_29 : nv_dc qX7_isWell 29 (.getfield 73) 3 32 := ⟨by decide +kernel, rfl⟩
theorem dX7_isWell_32 : nv_diload qX7_isWell 32 1 33 := Or.inr ⟨1, rfl, by decide +kernel, rfl⟩
theorem dX7_isWell_33 : nv_dc qX7_isWell 33 (.iaload) 1 34 := ⟨by decide +kernel, rfl⟩
theorem dX7_isWell_34 : nv_dic qX7_isWell 34 .ne 97 37 := ⟨63, by decide +kernel, by decide, rfl⟩
theorem dX7_isWell_37 : nv_daload qX7_isWell 37 0 38 := Or.inr ⟨0, rfl, by decide +kernel, rfl⟩
theorem dX7_isWell_38 : nv_dc qX7_isWell 38 (.getfield 97) 3 41 := ⟨by decide +kernel, rfl⟩
theorem dX7_isWell_41 : nv_diload qX7_isWell 41 3 42 := Or.inr ⟨3, rfl, by decide +kernel, rfl⟩
theorem dX7_isWell_42 : nv_dc qX7_isWell 42 (.iaload) 1 43 := ⟨by decide +kernel, rfl⟩
theorem dX7_isWell_43 : nv_dk qX7_isWell 43 1 44 := Or.inl ⟨1, ⟨by decide +kernel, rfl⟩, by decide⟩
theorem dX7_isWell_44 : nv_dic qX7_isWell 44 .ne 97 47 := ⟨53, by decide +kernel, by decide, rfl⟩
theorem dX7_isWell_47 : nv_daload qX7_isWell 47 0 48 := Or.inr ⟨0, rfl, by decide +kernel, rfl⟩
theorem dX7_isWell_48 : nv_dc qX7_isWell 48 (.getfield 94) 3 51 := ⟨by decide +kernel, rfl⟩
theorem dX7_isWell_51 : nv_diload qX7_isWell 51 3 52 := Or.inr ⟨3, rfl, by decide +kernel, rfl⟩
theorem dX7_isWell_52 : nv_dc qX7_isWell 52 (.iaload) 1 53 := ⟨by decide +kernel, rfl⟩
theorem dX7_isWell_53 : nv_daload qX7_isWell 53 0 54 := Or.inr ⟨0, rfl, by decide +kernel, rfl⟩
theorem dX7_isWell_54 : nv_dc qX7_isWell 54 (.getfield 85) 3 57 := ⟨by decide +kernel, rfl⟩
theorem dX7_isWell_57 : nv_diload qX7_isWell 57 1 58 := Or.inr ⟨1, rfl, by decide +kernel, rfl⟩
theorem dX7_isWell_58 : nv_dc qX7_isWell 58 (.iaload) 1 59 := ⟨by decide +kernel, rfl⟩
theorem dX7_isWell_59 : nv_daload qX7_isWell 59 0 60 := Or.inr ⟨0, rfl, by decide +kernel, rfl⟩
theorem dX7_isWell_60 : nv_dc qX7_isWell 60 (.getfield 112) 3 63 := ⟨by decide +kernel, rfl⟩
theorem dX7_isWell_63 : nv_dk qX7_isWell 63 4 64 := Or.inl ⟨4, ⟨by decide +kernel, rfl⟩, by decide⟩
theorem dX7_isWell_64 : nv_dc qX7_isWell 64 (.iaload) 1 65 := ⟨by decide +kernel, rfl⟩
theorem dX7_isWell_65 : nv_dc qX7_isWell 65 (.iadd) 1 66 := ⟨by decide +kernel, rfl⟩
theorem dX7_isWell_66 : nv_dic qX7_isWell 66 .gt 97 69 := ⟨31, by decide +kernel, by decide, rfl⟩
theorem dX7_isWell_69 : nv_daload qX7_isWell 69 0 70 := Or.inr ⟨0, rfl, by decide +kernel, rfl⟩
theorem dX7_isWell_70 : nv_dc qX7_isWell 70 (.getfield 112) 3 73 := ⟨by decide +kernel, rfl⟩
theorem dX7_isWell_73 : nv_dk qX7_isWell 73 5 74 := Or.inl ⟨5, ⟨by decide +kernel, rfl⟩, by decide⟩
theorem dX7_isWell_74 : nv_dc qX7_isWell 74 (.iaload) 1 75 := ⟨by decide +kernel, rfl⟩
theorem dX7_isWell_75 : nv_dif qX7_isWell 75 .eq 93 78 := ⟨18, by decide +kernel, by decide, rfl⟩
theorem dX7_isWell_78 : nv_daload qX7_isWell 78 0 79 := Or.inr ⟨0, rfl, by decide +kernel, rfl⟩
theorem dX7_isWell_79 : nv_dc qX7_isWell 79 (.getfield 100) 3 82 := ⟨by decide +kernel, rfl⟩
theorem dX7_isWell_82 : nv_diload qX7_isWell 82 3 83 := Or.inr ⟨3, rfl, by decide +kernel, rfl⟩
theorem dX7_isWell_83 : nv_dc qX7_isWell 83 (.iaload) 1 84 := ⟨by decide +kernel, rfl⟩
theorem dX7_isWell_84 : nv_daload qX7_isWell 84 0 85 := Or.inr ⟨0, rfl, by decide +kernel, rfl⟩
theorem dX7_isWell_85 : nv_dc qX7_isWell 85 (.getfield 82) 3 88 := ⟨by decide +kernel, rfl⟩
theorem dX7_isWell_88 : nv_diload qX7_isWell 88 1 89 := Or.inr ⟨1, rfl, by decide +kernel, rfl⟩
theorem dX7_isWell_89 : nv_dc qX7_isWell 89 (.iaload) 1 90 := ⟨by decide +kernel, rfl⟩
theorem dX7_isWell_90 : nv_dic qX7_isWell 90 .lt 97 93 := ⟨7, by decide +kernel, by decide, rfl⟩
theorem dX7_isWell_93 : nv_dk qX7_isWell 93 1 94 := Or.inl ⟨1, ⟨by decide +kernel, rfl⟩, by decide⟩
theorem dX7_isWell_94 : nv_dgo qX7_isWell 94 98 := ⟨4, by decide +kernel, by decide⟩
theorem dX7_isWell_97 : nv_dk qX7_isWell 97 0 98 := Or.inl ⟨0, ⟨by decide +kernel, rfl⟩, by decide⟩
theorem dX7_isWell_98 : nv_distore qX7_isWell 98 4 100 := Or.inl ⟨by decide +kernel, rfl⟩
theorem dX7_isWell_100 : nv_dk qX7_isWell 100 0 101 := Or.inl ⟨0, ⟨by decide +kernel, rfl⟩, by decide⟩
theorem dX7_isWell_101 : nv_distore qX7_isWell 101 5 103 := Or.inl ⟨by decide +kernel, rfl⟩
theorem dX7_isWell_103 : nv_diload qX7_isWell 103 5 105 := Or.inl ⟨by decide +kernel, rfl⟩
theorem dX7_isWell_105 : nv_daload qX7_isWell 105 0 106 := Or.inr ⟨0, rfl, by decide +kernel, rfl⟩
theorem dX7_isWell_106 : nv_dc qX7_isWell 106 (.getfield 207) 3 109 := ⟨by decide +kernel, rfl⟩
theorem dX7_isWell_109 : nv_dic qX7_isWell 109 .ge 217 112 := ⟨108, by decide +kernel, by decide, rfl⟩
theorem dX7_isWell_112 : nv_diload qX7_isWell 112 4 114 := Or.inl ⟨by decide +kernel, rfl⟩
theorem dX7_isWell_114 : nv_dif qX7_isWell 114 .eq 217 117 := ⟨103, by decide +kernel, by decide, rfl⟩
theorem dX7_isWell_117 : nv_daload qX7_isWell 117 0 118 := Or.inr ⟨0, rfl, by decide +kernel, rfl⟩
theorem dX7_isWell_118 : nv_dc qX7_isWell 118 (.getfield 94) 3 121 := ⟨by decide +kernel, rfl⟩
theorem dX7_isWell_121 : nv_diload qX7_isWell 121 5 123 := Or.inl ⟨by decide +kernel, rfl⟩
theorem dX7_isWell_123 : nv_dc qX7_isWell 123 (.iaload) 1 124 := ⟨by decide +kernel, rfl⟩
theorem dX7_isWell_124 : nv_daload qX7_isWell 124 0 125 := Or.inr ⟨0, rfl, by decide +kernel, rfl⟩
theorem dX7_isWell_125 : nv_dc qX7_isWell 125 (.getfield 94) 3 128 := ⟨by decide +kernel, rfl⟩
theorem dX7_isWell_128 : nv_diload qX7_isWell 128 3 129 := Or.inr ⟨3, rfl, by decide +kernel, rfl⟩
theorem dX7_isWell_129 : nv_dc qX7_isWell 129 (.iaload) 1 130 := ⟨by decide +kernel, rfl⟩
theorem dX7_isWell_130 : nv_dic qX7_isWell 130 .lt 155 133 := ⟨25, by decide +kernel, by decide, rfl⟩
theorem dX7_isWell_133 : nv_daload qX7_isWell 133 0 134 := Or.inr ⟨0, rfl, by decide +kernel, rfl⟩
theorem dX7_isWell_134 : nv_dc qX7_isWell 134 (.getfield 94) 3 137 := ⟨by decide +kernel, rfl⟩
theorem dX7_isWell_137 : nv_diload qX7_isWell 137 5 139 := Or.inl ⟨by decide +kernel, rfl⟩
theorem dX7_isWell_139 : nv_dc qX7_isWell 139 (.iaload) 1 140 := ⟨by decide +kernel, rfl⟩
theorem dX7_isWell_140 : nv_daload qX7_isWell 140 0 141 := Or.inr ⟨0, rfl, by decide +kernel, rfl⟩
theorem dX7_isWell_141 : nv_dc qX7_isWell 141 (.getfield 94) 3 144 := ⟨by decide +kernel, rfl⟩
theorem dX7_isWell_144 : nv_diload qX7_isWell 144 3 145 := Or.inr ⟨3, rfl, by decide +kernel, rfl⟩
theorem dX7_isWell_145 : nv_dc qX7_isWell 145 (.iaload) 1 146 := ⟨by decide +kernel, rfl⟩
theorem dX7_isWell_146 : nv_dic qX7_isWell 146 .ne 159 149 := ⟨13, by decide +kernel, by decide, rfl⟩
theorem dX7_isWell_149 : nv_diload qX7_isWell 149 5 151 := Or.inl ⟨by decide +kernel, rfl⟩
theorem dX7_isWell_151 : nv_diload qX7_isWell 151 3 152 := Or.inr ⟨3, rfl, by decide +kernel, rfl⟩
theorem dX7_isWell_152 : nv_dic qX7_isWell 152 .ge 159 155 := ⟨7, by decide +kernel, by decide, rfl⟩
theorem dX7_isWell_155 : nv_dk qX7_isWell 155 1 156 := Or.inl ⟨1, ⟨by decide +kernel, rfl⟩, by decide⟩
theorem dX7_isWell_156 : nv_dgo qX7_isWell 156 160 := ⟨4, by decide +kernel, by decide⟩
theorem dX7_isWell_159 : nv_dk qX7_isWell 159 0 160 := Or.inl ⟨0, ⟨by decide +kernel, rfl⟩, by decide⟩
theorem dX7_isWell_160 : nv_distore qX7_isWell 160 6 162 := Or.inl ⟨by decide +kernel, rfl⟩
theorem dX7_isWell_162 : nv_daload qX7_isWell 162 0 163 := Or.inr ⟨0, rfl, by decide +kernel, rfl⟩
theorem dX7_isWell_163 : nv_dc qX7_isWell 163 (.getfield 88) 3 166 := ⟨by decide +kernel, rfl⟩
theorem dX7_isWell_166 : nv_diload qX7_isWell 166 5 168 := Or.inl ⟨by decide +kernel, rfl⟩
theorem dX7_isWell_168 : nv_dc qX7_isWell 168 (.iaload) 1 169 := ⟨by decide +kernel, rfl⟩
theorem dX7_isWell_169 : nv_diload qX7_isWell 169 1 170 := Or.inr ⟨1, rfl, by decide +kernel, rfl⟩
theorem dX7_isWell_170 : nv_dic qX7_isWell 170 .ne 204 173 := ⟨34, by decide +kernel, by decide, rfl⟩
theorem dX7_isWell_173 : nv_daload qX7_isWell 173 0 174 := Or.inr ⟨0, rfl, by decide +kernel, rfl⟩
theorem dX7_isWell_174 : nv_dc qX7_isWell 174 (.getfield 91) 3 177 := ⟨by decide +kernel, rfl⟩
theorem dX7_isWell_177 : nv_diload qX7_isWell 177 5 179 := Or.inl ⟨by decide +kernel, rfl⟩
theorem dX7_isWell_179 : nv_dc qX7_isWell 179 (.iaload) 1 180 := ⟨by decide +kernel, rfl⟩
theorem dX7_isWell_180 : nv_daload qX7_isWell 180 0 181 := Or.inr ⟨0, rfl, by decide +kernel, rfl⟩
theorem dX7_isWell_181 : nv_dc qX7_isWell 181 (.getfield 73) 3 184 := ⟨by decide +kernel, rfl⟩
theorem dX7_isWell_184 : nv_diload qX7_isWell 184 1 185 := Or.inr ⟨1, rfl, by decide +kernel, rfl⟩
theorem dX7_isWell_185 : nv_dc qX7_isWell 185 (.iaload) 1 186 := ⟨by decide +kernel, rfl⟩
theorem dX7_isWell_186 : nv_dic qX7_isWell 186 .ne 204 189 := ⟨18, by decide +kernel, by decide, rfl⟩
theorem dX7_isWell_189 : nv_daload qX7_isWell 189 0 190 := Or.inr ⟨0, rfl, by decide +kernel, rfl⟩
theorem dX7_isWell_190 : nv_dc qX7_isWell 190 (.getfield 97) 3 193 := ⟨by decide +kernel, rfl⟩
theorem dX7_isWell_193 : nv_diload qX7_isWell 193 5 195 := Or.inl ⟨by decide +kernel, rfl⟩
theorem dX7_isWell_195 : nv_dc qX7_isWell 195 (.iaload) 1 196 := ⟨by decide +kernel, rfl⟩
theorem dX7_isWell_196 : nv_dif qX7_isWell 196 .ne 204 199 := ⟨8, by decide +kernel, by decide, rfl⟩
theorem dX7_isWell_199 : nv_diload qX7_isWell 199 6 201 := Or.inl ⟨by decide +kernel, rfl⟩
theorem dX7_isWell_201 : nv_dif qX7_isWell 201 .ne 208 204 := ⟨7, by decide +kernel, by decide, rfl⟩
theorem dX7_isWell_204 : nv_dk qX7_isWell 204 1 205 := Or.inl ⟨1, ⟨by decide +kernel, rfl⟩, by decide⟩
theorem dX7_isWell_205 : nv_dgo qX7_isWell 205 209 := ⟨4, by decide +kernel, by decide⟩
theorem dX7_isWell_208 : nv_dk qX7_isWell 208 0 209 := Or.inl ⟨0, ⟨by decide +kernel, rfl⟩, by decide⟩
theorem dX7_isWell_209 : nv_distore qX7_isWell 209 4 211 := Or.inl ⟨by decide +kernel, rfl⟩
theorem dX7_isWell_211 : nv_dc qX7_isWell 211 (.iinc 5 1) 3 214 := ⟨by decide +kernel, rfl⟩
theorem dX7_isWell_214 : nv_dgo qX7_isWell 214 103 := ⟨(-111), by decide +kernel, by decide⟩
theorem dX7_isWell_217 : nv_diload qX7_isWell 217 2 218 := Or.inr ⟨2, rfl, by decide +kernel, rfl⟩
theorem dX7_isWell_218 : nv_dif qX7_isWell 218 .ne 226 221 := ⟨8, by decide +kernel, by decide, rfl⟩
theorem dX7_isWell_221 : nv_diload qX7_isWell 221 4 223 := Or.inl ⟨by decide +kernel, rfl⟩
theorem dX7_isWell_223 : nv_dif qX7_isWell 223 .eq 230 226 := ⟨7, by decide +kernel, by decide, rfl⟩
theorem dX7_isWell_226 : nv_dk qX7_isWell 226 1 227 := Or.inl ⟨1, ⟨by decide +kernel, rfl⟩, by decide⟩
theorem dX7_isWell_227 : nv_dgo qX7_isWell 227 231 := ⟨4, by decide +kernel, by decide⟩
theorem dX7_isWell_230 : nv_dk qX7_isWell 230 0 231 := Or.inl ⟨0, ⟨by decide +kernel, rfl⟩, by decide⟩
theorem dX7_isWell_231 : nv_distore qX7_isWell 231 2 232 := Or.inr ⟨2, rfl, by decide +kernel, rfl⟩
theorem dX7_isWell_232 : nv_dc qX7_isWell 232 (.iinc 3 1) 3 235 := ⟨by decide +kernel, rfl⟩
theorem dX7_isWell_235 : nv_dgo qX7_isWell 235 4 := ⟨(-231), by decide +kernel, by decide⟩
theorem dX7_isWell_238 : nv_diload qX7_isWell 238 2 239 := Or.inr ⟨2, rfl, by decide +kernel, rfl⟩
theorem dX7_isWell_239 : decode qX7_isWell.2.1 239 = .ok (.ireturn, 1) := by decide +kernel
def pm_isWell_217 (h : nv_Hp) (x1 : Int32) (x2 : Bool) (x3 : Int32) (x4 : Bool)  (rec4 : Bool → Int32 → Option (Bool)) : Option (Bool) := (rec4 (if x2 = true then true else (if x4 = true then true else false)) (x3 + 1))
set_option maxHeartbeats 2000000 in
theorem tm_isWell_217 (G : nv_G) (h : nv_Hp) (x1 : Int32) (hx1 : nv_inb x1 10 = true) (x2 : Bool) (x3 : Int32) (x4 : Bool)  (rec4 : Bool → Int32 → Option (Bool)) (hrec4 : ∀ (x2 : Bool) (x3 : Int32) (o4 o5 o6 : Option Value) (r : Bool), rec4 x2 x3 = some r → nv_E G 0 qX7_isWell 4 [some (.ref 73), some (.int x1), some (.int (nv_bi x2)), some (.int x3), o4, o5, o6] [] (nv_s h) (some (.int (nv_bi r)), nv_s h)) (o5 o6 : Option Value) (r : Bool) (hf : pm_isWell_217 h x1 x2 x3 x4 rec4 = some r) : nv_E G 0 qX7_isWell 217 [some (.ref 73), some (.int x1), some (.int (nv_bi x2)), some (.int x3), some (.int (nv_bi x4)), o5, o6] [] (nv_s h) (some (.int (nv_bi r)), nv_s h) := by
  unfold pm_isWell_217 at hf
  refine nv_iL dX7_isWell_217 rfl ?_
  refine nv_ifneB dX7_isWell_218 (fun c1 => ?_) (fun c1 => ?_)
  · try simp only [if_pos c1] at hf
    refine nv_k dX7_isWell_226 ?_
    refine nv_goto dX7_isWell_227 ?_
    refine nv_iS dX7_isWell_231 (by decide) rfl rfl ?_
    refine nv_inc dX7_isWell_232 rfl (v := 1) (by decide) (by decide) rfl rfl ?_
    refine nv_goto dX7_isWell_235 ?_
    exact hrec4 _ _ _ _ _ _ hf
  · try simp only [if_neg c1] at hf
    refine nv_iL dX7_isWell_221 rfl ?_
    refine nv_ifeqB dX7_isWell_223 (fun c2 => ?_) (fun c2 => ?_)
    · try simp only [if_pos c2] at hf
      refine nv_k dX7_isWell_226 ?_
      refine nv_goto dX7_isWell_227 ?_
      refine nv_iS dX7_isWell_231 (by decide) rfl rfl ?_
      refine nv_inc dX7_isWell_232 rfl (v := 1) (by decide) (by decide) rfl rfl ?_
      refine nv_goto dX7_isWell_235 ?_
      exact hrec4 _ _ _ _ _ _ hf
    · try simp only [if_neg c2] at hf
      refine nv_k dX7_isWell_230 ?_
      refine nv_iS dX7_isWell_231 (by decide) rfl rfl ?_
      refine nv_inc dX7_isWell_232 rfl (v := 1) (by decide) (by decide) rfl rfl ?_
      refine nv_goto dX7_isWell_235 ?_
      exact hrec4 _ _ _ _ _ _ hf
def pm_isWell_160 (h : nv_Hp) (x1 : Int32) (x2 : Bool) (x3 : Int32) (x5 : Int32) (s0 : Bool) (rec103 : Bool → Int32 → Option (Bool)) : Option (Bool) := (if nv_inb x5 12 = true then (rec103 (if (h 100 x5.toNatClampNeg) = x1 then (if (h 101 x5.toNatClampNeg) = (h 95 x1.toNatClampNeg) then (if (h 103 x5.toNatClampNeg) = 0 then (if s0 = true then false else true) else true) else true) else true) (x5 + 1)) else none)
set_option maxHeartbeats 2000000 in
theorem tm_isWell_160 (G : nv_G) (h : nv_Hp) (x1 : Int32) (hx1 : nv_inb x1 10 = true) (x2 : Bool) (x3 : Int32) (x5 : Int32) (s0 : Bool) (rec103 : Bool → Int32 → Option (Bool)) (hrec103 : ∀ (x4 : Bool) (x5 : Int32) (o6 : Option Value) (r : Bool), rec103 x4 x5 = some r → nv_E G 0 qX7_isWell 103 [some (.ref 73), some (.int x1), some (.int (nv_bi x2)), some (.int x3), some (.int (nv_bi x4)), some (.int x5), o6] [] (nv_s h) (some (.int (nv_bi r)), nv_s h)) (o4 o6 : Option Value) (r : Bool) (hf : pm_isWell_160 h x1 x2 x3 x5 s0 rec103 = some r) : nv_E G 0 qX7_isWell 160 [some (.ref 73), some (.int x1), some (.int (nv_bi x2)), some (.int x3), o4, some (.int x5), o6] [.int (nv_bi s0)] (nv_s h) (some (.int (nv_bi r)), nv_s h) := by
  unfold pm_isWell_160 at hf
  refine nv_iS dX7_isWell_160 (by decide) rfl rfl ?_
  refine nv_aL dX7_isWell_162 rfl ?_
  refine nv_tR lf_X7_88 dX7_isWell_163 ko_73 rfl ?_
  refine nv_iL dX7_isWell_166 rfl ?_
  obtain ⟨g1, hf⟩ := nv_gd hf
  refine nv_aI dX7_isWell_168 ka_100 g1 rfl ?_
  refine nv_iL dX7_isWell_169 rfl ?_
  refine nv_icne dX7_isWell_170 (fun c2 => ?_) (fun c2 => ?_)
  · try simp only [if_pos c2] at hf
    refine nv_aL dX7_isWell_173 rfl ?_
    refine nv_tR lf_X7_91 dX7_isWell_174 ko_73 rfl ?_
    refine nv_iL dX7_isWell_177 rfl ?_
    refine nv_aI dX7_isWell_179 ka_101 g1 rfl ?_
    refine nv_aL dX7_isWell_180 rfl ?_
    refine nv_tR lf_X7_73 dX7_isWell_181 ko_73 rfl ?_
    refine nv_iL dX7_isWell_184 rfl ?_
    refine nv_aI dX7_isWell_185 ka_95 hx1 rfl ?_
    refine nv_icne dX7_isWell_186 (fun c3 => ?_) (fun c3 => ?_)
    · try simp only [if_pos c3] at hf
      refine nv_aL dX7_isWell_189 rfl ?_
      refine nv_tR lf_X7_97 dX7_isWell_190 ko_73 rfl ?_
      refine nv_iL dX7_isWell_193 rfl ?_
      refine nv_aI dX7_isWell_195 ka_103 g1 rfl ?_
      refine nv_ifne dX7_isWell_196 (fun c4 => ?_) (fun c4 => ?_)
      · try simp only [if_pos c4] at hf
        refine nv_iL dX7_isWell_199 rfl ?_
        refine nv_ifneB dX7_isWell_201 (fun c5 => ?_) (fun c5 => ?_)
        · try simp only [if_pos c5] at hf
          refine nv_k dX7_isWell_208 ?_
          refine nv_iS dX7_isWell_209 (by decide) rfl rfl ?_
          refine nv_inc dX7_isWell_211 rfl (v := 1) (by decide) (by decide) rfl rfl ?_
          refine nv_goto dX7_isWell_214 ?_
          exact hrec103 _ _ _ _ hf
        · try simp only [if_neg c5] at hf
          refine nv_k dX7_isWell_204 ?_
          refine nv_goto dX7_isWell_205 ?_
          refine nv_iS dX7_isWell_209 (by decide) rfl rfl ?_
          refine nv_inc dX7_isWell_211 rfl (v := 1) (by decide) (by decide) rfl rfl ?_
          refine nv_goto dX7_isWell_214 ?_
          exact hrec103 _ _ _ _ hf
      · try simp only [if_neg c4] at hf
        refine nv_k dX7_isWell_204 ?_
        refine nv_goto dX7_isWell_205 ?_
        refine nv_iS dX7_isWell_209 (by decide) rfl rfl ?_
        refine nv_inc dX7_isWell_211 rfl (v := 1) (by decide) (by decide) rfl rfl ?_
        refine nv_goto dX7_isWell_214 ?_
        exact hrec103 _ _ _ _ hf
    · try simp only [if_neg c3] at hf
      refine nv_k dX7_isWell_204 ?_
      refine nv_goto dX7_isWell_205 ?_
      refine nv_iS dX7_isWell_209 (by decide) rfl rfl ?_
      refine nv_inc dX7_isWell_211 rfl (v := 1) (by decide) (by decide) rfl rfl ?_
      refine nv_goto dX7_isWell_214 ?_
      exact hrec103 _ _ _ _ hf
  · try simp only [if_neg c2] at hf
    refine nv_k dX7_isWell_204 ?_
    refine nv_goto dX7_isWell_205 ?_
    refine nv_iS dX7_isWell_209 (by decide) rfl rfl ?_
    refine nv_inc dX7_isWell_211 rfl (v := 1) (by decide) (by decide) rfl rfl ?_
    refine nv_goto dX7_isWell_214 ?_
    exact hrec103 _ _ _ _ hf
def pm_isWell_103 (h : nv_Hp) (x1 : Int32) (x2 : Bool) (x3 : Int32) (rec4 : Bool → Int32 → Option (Bool)) : Nat → Bool → Int32 → Option (Bool)
  | 0, _, _ => none
  | n + 1, x4, x5 => (if (h 73 30) ≤ x5 then (pm_isWell_217 h x1 x2 x3 x4 rec4) else (if x4 = true then (if nv_inb x5 12 = true then (if nv_inb x3 12 = true then (pm_isWell_160 h x1 x2 x3 x5 (if (h 102 x5.toNatClampNeg) < (h 102 x3.toNatClampNeg) then true else (if (h 102 x5.toNatClampNeg) = (h 102 x3.toNatClampNeg) then (if x3 ≤ x5 then false else true) else false)) (pm_isWell_103 h x1 x2 x3 rec4 n)) else none) else none) else (pm_isWell_217 h x1 x2 x3 x4 rec4)))
set_option maxHeartbeats 2000000 in
theorem tm_isWell_103 (G : nv_G) (h : nv_Hp) (x1 : Int32) (hx1 : nv_inb x1 10 = true) (x2 : Bool) (x3 : Int32) (rec4 : Bool → Int32 → Option (Bool)) (hrec4 : ∀ (x2 : Bool) (x3 : Int32) (o4 o5 o6 : Option Value) (r : Bool), rec4 x2 x3 = some r → nv_E G 0 qX7_isWell 4 [some (.ref 73), some (.int x1), some (.int (nv_bi x2)), some (.int x3), o4, o5, o6] [] (nv_s h) (some (.int (nv_bi r)), nv_s h)) : ∀ (n : Nat) (x4 : Bool) (x5 : Int32) (o6 : Option Value) (r : Bool), pm_isWell_103 h x1 x2 x3 rec4 n x4 x5 = some r → nv_E G 0 qX7_isWell 103 [some (.ref 73), some (.int x1), some (.int (nv_bi x2)), some (.int x3), some (.int (nv_bi x4)), some (.int x5), o6] [] (nv_s h) (some (.int (nv_bi r)), nv_s h) := by
  intro n
  induction n with
  | zero =>
    intro x4 x5 o6 r hf
    rw [pm_isWell_103] at hf
    cases hf
  | succ n ih =>
    intro x4 x5 o6 r hf
    rw [pm_isWell_103] at hf
    refine nv_iL dX7_isWell_103 rfl ?_
    refine nv_aL dX7_isWell_105 rfl ?_
    refine nv_tI lf_X7_207 dX7_isWell_106 ko_73 rfl ?_
    refine nv_icge dX7_isWell_109 (fun c1 => ?_) (fun c1 => ?_)
    · replace hf := nv_ip c1 hf
      exact tm_isWell_217 G _ _ hx1 _ _ _ _ hrec4 _ _ _ hf
    · replace hf := nv_in c1 hf
      refine nv_iL dX7_isWell_112 rfl ?_
      refine nv_ifeqB dX7_isWell_114 (fun c2 => ?_) (fun c2 => ?_)
      · replace hf := nv_ip c2 hf
        refine nv_aL dX7_isWell_117 rfl ?_
        refine nv_tR lf_X7_94 dX7_isWell_118 ko_73 rfl ?_
        refine nv_iL dX7_isWell_121 rfl ?_
        obtain ⟨g3, hf⟩ := nv_gd hf
        refine nv_aI dX7_isWell_123 ka_102 g3 rfl ?_
        refine nv_aL dX7_isWell_124 rfl ?_
        refine nv_tR lf_X7_94 dX7_isWell_125 ko_73 rfl ?_
        refine nv_iL dX7_isWell_128 rfl ?_
        obtain ⟨g4, hf⟩ := nv_gd hf
        refine nv_aI dX7_isWell_129 ka_102 g4 rfl ?_
        refine nv_iclt dX7_isWell_130 (fun c5 => ?_) (fun c5 => ?_)
        · try simp only [if_pos c5] at hf
          refine nv_k dX7_isWell_155 ?_
          refine nv_goto dX7_isWell_156 ?_
          exact tm_isWell_160 G _ _ hx1 _ _ _ _ _ ih _ _ _ hf
        · try simp only [if_neg c5] at hf
          refine nv_aL dX7_isWell_133 rfl ?_
          refine nv_tR lf_X7_94 dX7_isWell_134 ko_73 rfl ?_
          refine nv_iL dX7_isWell_137 rfl ?_
          refine nv_aI dX7_isWell_139 ka_102 g3 rfl ?_
          refine nv_aL dX7_isWell_140 rfl ?_
          refine nv_tR lf_X7_94 dX7_isWell_141 ko_73 rfl ?_
          refine nv_iL dX7_isWell_144 rfl ?_
          refine nv_aI dX7_isWell_145 ka_102 g4 rfl ?_
          refine nv_icne dX7_isWell_146 (fun c6 => ?_) (fun c6 => ?_)
          · try simp only [if_pos c6] at hf
            refine nv_iL dX7_isWell_149 rfl ?_
            refine nv_iL dX7_isWell_151 rfl ?_
            refine nv_icge dX7_isWell_152 (fun c7 => ?_) (fun c7 => ?_)
            · try simp only [if_pos c7] at hf
              refine nv_k dX7_isWell_159 ?_
              exact tm_isWell_160 G _ _ hx1 _ _ _ _ _ ih _ _ _ hf
            · try simp only [if_neg c7] at hf
              refine nv_k dX7_isWell_155 ?_
              refine nv_goto dX7_isWell_156 ?_
              exact tm_isWell_160 G _ _ hx1 _ _ _ _ _ ih _ _ _ hf
          · try simp only [if_neg c6] at hf
            refine nv_k dX7_isWell_159 ?_
            exact tm_isWell_160 G _ _ hx1 _ _ _ _ _ ih _ _ _ hf
      · replace hf := nv_in c2 hf
        exact tm_isWell_217 G _ _ hx1 _ _ _ _ hrec4 _ _ _ hf
def pm_isWell_4 (h : nv_Hp) (x1 : Int32)  : Nat → Bool → Int32 → Option (Bool)
  | 0, _, _ => none
  | n + 1, x2, x3 => (if (h 73 30) ≤ x3 then some x2 else (if nv_inb x3 12 = true then (pm_isWell_103 h x1 x2 x3 (pm_isWell_4 h x1 n) nv_fu (if (h 100 x3.toNatClampNeg) = x1 then (if (h 101 x3.toNatClampNeg) = (h 95 x1.toNatClampNeg) then (if (h 103 x3.toNatClampNeg) = 1 then (if ((h 99 x1.toNatClampNeg) + (h 108 4)) < (h 102 x3.toNatClampNeg) then false else (if (h 108 5) = 0 then true else (if (h 104 x3.toNatClampNeg) < (h 98 x1.toNatClampNeg) then false else true))) else false) else false) else false) 0) else none))
set_option maxHeartbeats 2000000 in
theorem tm_isWell_4 (G : nv_G) (h : nv_Hp) (x1 : Int32) (hx1 : nv_inb x1 10 = true)  : ∀ (n : Nat) (x2 : Bool) (x3 : Int32) (o4 o5 o6 : Option Value) (r : Bool), pm_isWell_4 h x1 n x2 x3 = some r → nv_E G 0 qX7_isWell 4 [some (.ref 73), some (.int x1), some (.int (nv_bi x2)), some (.int x3), o4, o5, o6] [] (nv_s h) (some (.int (nv_bi r)), nv_s h) := by
  intro n
  induction n with
  | zero =>
    intro x2 x3 o4 o5 o6 r hf
    rw [pm_isWell_4] at hf
    cases hf
  | succ n ih =>
    intro x2 x3 o4 o5 o6 r hf
    rw [pm_isWell_4] at hf
    refine nv_iL dX7_isWell_4 rfl ?_
    refine nv_aL dX7_isWell_5 rfl ?_
    refine nv_tI lf_X7_207 dX7_isWell_6 ko_73 rfl ?_
    refine nv_icge dX7_isWell_9 (fun c1 => ?_) (fun c1 => ?_)
    · replace hf := nv_ip c1 hf
      refine nv_iL dX7_isWell_238 rfl ?_
      obtain rfl := Option.some.inj hf
      exact nv_ireturnB (b := x2) dX7_isWell_239 rfl
    · replace hf := nv_in c1 hf
      refine nv_aL dX7_isWell_12 rfl ?_
      refine nv_tR lf_X7_88 dX7_isWell_13 ko_73 rfl ?_
      refine nv_iL dX7_isWell_16 rfl ?_
      obtain ⟨g2, hf⟩ := nv_gd hf
      refine nv_aI dX7_isWell_17 ka_100 g2 rfl ?_
      refine nv_iL dX7_isWell_18 rfl ?_
      refine nv_icne dX7_isWell_19 (fun c3 => ?_) (fun c3 => ?_)
      · try simp only [if_pos c3] at hf
        refine nv_aL dX7_isWell_22 rfl ?_
        refine nv_tR lf_X7_91 dX7_isWell_23 ko_73 rfl ?_
        refine nv_iL dX7_isWell_26 rfl ?_
        refine nv_aI dX7_isWell_27 ka_101 g2 rfl ?_
        refine nv_aL dX7_isWell_28 rfl ?_
        refine nv_tR lf_X7_73 dX7_isWell_29 ko_73 rfl ?_
        refine nv_iL dX7_isWell_32 rfl ?_
        refine nv_aI dX7_isWell_33 ka_95 hx1 rfl ?_
        refine nv_icne dX7_isWell_34 (fun c4 => ?_) (fun c4 => ?_)
        · try simp only [if_pos c4] at hf
          refine nv_aL dX7_isWell_37 rfl ?_
          refine nv_tR lf_X7_97 dX7_isWell_38 ko_73 rfl ?_
          refine nv_iL dX7_isWell_41 rfl ?_
          refine nv_aI dX7_isWell_42 ka_103 g2 rfl ?_
          refine nv_k dX7_isWell_43 ?_
          refine nv_icne dX7_isWell_44 (fun c5 => ?_) (fun c5 => ?_)
          · try simp only [if_pos c5] at hf
            refine nv_aL dX7_isWell_47 rfl ?_
            refine nv_tR lf_X7_94 dX7_isWell_48 ko_73 rfl ?_
            refine nv_iL dX7_isWell_51 rfl ?_
            refine nv_aI dX7_isWell_52 ka_102 g2 rfl ?_
            refine nv_aL dX7_isWell_53 rfl ?_
            refine nv_tR lf_X7_85 dX7_isWell_54 ko_73 rfl ?_
            refine nv_iL dX7_isWell_57 rfl ?_
            refine nv_aI dX7_isWell_58 ka_99 hx1 rfl ?_
            refine nv_aL dX7_isWell_59 rfl ?_
            refine nv_tR lf_X7_112 dX7_isWell_60 ko_73 rfl ?_
            refine nv_k dX7_isWell_63 ?_
            refine nv_aI dX7_isWell_64 ka_108 (by decide) (j := 4) (by decide) ?_
            refine nv_iadd dX7_isWell_65 ?_
            refine nv_icgt dX7_isWell_66 (fun c6 => ?_) (fun c6 => ?_)
            · try simp only [if_pos c6] at hf
              refine nv_k dX7_isWell_97 ?_
              refine nv_iS dX7_isWell_98 (by decide) rfl rfl ?_
              refine nv_k dX7_isWell_100 ?_
              refine nv_iS dX7_isWell_101 (by decide) rfl rfl ?_
              exact tm_isWell_103 G _ _ hx1 _ _ _ ih _ _ _ _ _ hf
            · try simp only [if_neg c6] at hf
              refine nv_aL dX7_isWell_69 rfl ?_
              refine nv_tR lf_X7_112 dX7_isWell_70 ko_73 rfl ?_
              refine nv_k dX7_isWell_73 ?_
              refine nv_aI dX7_isWell_74 ka_108 (by decide) (j := 5) (by decide) ?_
              refine nv_ifeq dX7_isWell_75 (fun c7 => ?_) (fun c7 => ?_)
              · try simp only [if_pos c7] at hf
                refine nv_k dX7_isWell_93 ?_
                refine nv_goto dX7_isWell_94 ?_
                refine nv_iS dX7_isWell_98 (by decide) rfl rfl ?_
                refine nv_k dX7_isWell_100 ?_
                refine nv_iS dX7_isWell_101 (by decide) rfl rfl ?_
                exact tm_isWell_103 G _ _ hx1 _ _ _ ih _ _ _ _ _ hf
              · try simp only [if_neg c7] at hf
                refine nv_aL dX7_isWell_78 rfl ?_
                refine nv_tR lf_X7_100 dX7_isWell_79 ko_73 rfl ?_
                refine nv_iL dX7_isWell_82 rfl ?_
                refine nv_aI dX7_isWell_83 ka_104 g2 rfl ?_
                refine nv_aL dX7_isWell_84 rfl ?_
                refine nv_tR lf_X7_82 dX7_isWell_85 ko_73 rfl ?_
                refine nv_iL dX7_isWell_88 rfl ?_
                refine nv_aI dX7_isWell_89 ka_98 hx1 rfl ?_
                refine nv_iclt dX7_isWell_90 (fun c8 => ?_) (fun c8 => ?_)
                · try simp only [if_pos c8] at hf
                  refine nv_k dX7_isWell_97 ?_
                  refine nv_iS dX7_isWell_98 (by decide) rfl rfl ?_
                  refine nv_k dX7_isWell_100 ?_
                  refine nv_iS dX7_isWell_101 (by decide) rfl rfl ?_
                  exact tm_isWell_103 G _ _ hx1 _ _ _ ih _ _ _ _ _ hf
                · try simp only [if_neg c8] at hf
                  refine nv_k dX7_isWell_93 ?_
                  refine nv_goto dX7_isWell_94 ?_
                  refine nv_iS dX7_isWell_98 (by decide) rfl rfl ?_
                  refine nv_k dX7_isWell_100 ?_
                  refine nv_iS dX7_isWell_101 (by decide) rfl rfl ?_
                  exact tm_isWell_103 G _ _ hx1 _ _ _ ih _ _ _ _ _ hf
          · try simp only [if_neg c5] at hf
            refine nv_k dX7_isWell_97 ?_
            refine nv_iS dX7_isWell_98 (by decide) rfl rfl ?_
            refine nv_k dX7_isWell_100 ?_
            refine nv_iS dX7_isWell_101 (by decide) rfl rfl ?_
            exact tm_isWell_103 G _ _ hx1 _ _ _ ih _ _ _ _ _ hf
        · try simp only [if_neg c4] at hf
          refine nv_k dX7_isWell_97 ?_
          refine nv_iS dX7_isWell_98 (by decide) rfl rfl ?_
          refine nv_k dX7_isWell_100 ?_
          refine nv_iS dX7_isWell_101 (by decide) rfl rfl ?_
          exact tm_isWell_103 G _ _ hx1 _ _ _ ih _ _ _ _ _ hf
      · try simp only [if_neg c3] at hf
        refine nv_k dX7_isWell_97 ?_
        refine nv_iS dX7_isWell_98 (by decide) rfl rfl ?_
        refine nv_k dX7_isWell_100 ?_
        refine nv_iS dX7_isWell_101 (by decide) rfl rfl ?_
        exact tm_isWell_103 G _ _ hx1 _ _ _ ih _ _ _ _ _ hf
def pm_isWell (h : nv_Hp) (x1 : Int32) : Option (Bool) := (pm_isWell_4 h x1 nv_fu false 0)
set_option maxHeartbeats 2000000 in
theorem tm_isWell (G : nv_G) (h : nv_Hp) (x1 : Int32) (hx1 : nv_inb x1 10 = true) {r : Bool} (hf : (pm_isWell h x1) = some r) : nv_Mt G 0 qX7_isWell [.ref 73, .int x1] (nv_s h) (some (.int (nv_bi r)), nv_s h) := by
  refine nv_of (by decide +kernel) (fun ad => Nat.le_of_ble_eq_true rfl) (Nat.le_refl _) (Nat.le_of_ble_eq_true rfl) ?_
  show nv_E G 0 qX7_isWell 0 [some (.ref 73), some (.int x1), none, none, none, none, none] [] (nv_s h) (some (.int (nv_bi r)), nv_s h)
  unfold pm_isWell at hf
  refine nv_k dX7_isWell_0 ?_
  refine nv_iS dX7_isWell_1 (by decide) rfl rfl ?_
  refine nv_k dX7_isWell_2 ?_
  refine nv_iS dX7_isWell_3 (by decide) rfl rfl ?_
  exact tm_isWell_4 G _ _ hx1 _ _ _ _ _ _ _ hf
/-! WhoseNameModel.boundNow -/
theorem dX7_boundNow_0 : nv_dk qX7_boundNow 0 1 1 := Or.inl ⟨1, ⟨by decide +kernel, rfl⟩, by decide⟩
theorem dX7_boundNow_1 : nv_daload qX7_boundNow 1 0 2 := Or.inr ⟨0, rfl, by decide +kernel, rfl⟩
theorem dX7_boundNow_2 : nv_dc qX7_boundNow 2 (.getfield 70) 3 5 := ⟨by decide +kernel, rfl⟩
theorem dX7_boundNow_5 : nv_diload qX7_boundNow 5 1 6 := Or.inr ⟨1, rfl, by decide +kernel, rfl⟩
theorem dX7_boundNow_6 : nv_dc qX7_boundNow 6 (.iaload) 1 7 := ⟨by decide +kernel, rfl⟩
theorem dX7_boundNow_7 : nv_dc qX7_boundNow 7 (.ishl) 1 8 := ⟨by decide +kernel, rfl⟩
theorem dX7_boundNow_8 : nv_distore qX7_boundNow 8 2 9 := Or.inr ⟨2, rfl, by decide +kernel, rfl⟩
theorem dX7_boundNow_9 : nv_daload qX7_boundNow 9 0 10 := Or.inr ⟨0, rfl, by decide +kernel, rfl⟩
theorem dX7_boundNow_10 : nv_dk qX7_boundNow 10 30 12 := Or.inr (Or.inl ⟨30, ⟨by decide +kernel, rfl⟩, by decide⟩)
theorem dX7_boundNow_12 : nv_dc qX7_boundNow 12 (.putfield 259) 3 15 := ⟨by decide +kernel, rfl⟩
theorem dX7_boundNow_15 : nv_daload qX7_boundNow 15 0 16 := Or.inr ⟨0, rfl, by decide +kernel, rfl⟩
theorem dX7_boundNow_16 : nv_dc qX7_boundNow 16 (.getfield 73) 3 19 := ⟨by decide +kernel, rfl⟩
theorem dX7_boundNow_19 : nv_diload qX7_boundNow 19 1 20 := Or.inr ⟨1, rfl, by decide +kernel, rfl⟩
theorem dX7_boundNow_20 : nv_dc qX7_boundNow 20 (.iaload) 1 21 := ⟨by decide +kernel, rfl⟩
theorem dX7_boundNow_21 : nv_daload qX7_boundNow 21 0 22 := Or.inr ⟨0, rfl, by decide +kernel, rfl⟩
theorem dX7_boundNow_22 : nv_dc qX7_boundNow 22 (.getfield 70) 3 25 := ⟨by decide +kernel, rfl⟩
theorem dX7_boundNow_25 : nv_diload qX7_boundNow 25 1 26 := Or.inr ⟨1, rfl, by decide +kernel, rfl⟩
theorem dX7_boundNow_26 : nv_dc qX7_boundNow 26 (.iaload) 1 27 := ⟨by decide +kernel, rfl⟩
theorem dX7_boundNow_27 : nv_dic qX7_boundNow 27 .ne 32 30 := ⟨5, by decide +kernel, by decide, rfl⟩
theorem dX7_boundNow_30 : nv_diload qX7_boundNow 30 2 31 := Or.inr ⟨2, rfl, by decide +kernel, rfl⟩
theorem dX7_boundNow_31 : decode qX7_boundNow.2.1 31 = .ok (.ireturn, 1) := by decide +kernel
theorem dX7_boundNow_32 : nv_daload qX7_boundNow 32 0 33 := Or.inr ⟨0, rfl, by decide +kernel, rfl⟩
theorem dX7_boundNow_33 : nv_diload qX7_boundNow 33 1 34 := Or.inr ⟨1, rfl, by decide +kernel, rfl⟩
theorem dX7_boundNow_34 : nv_dc qX7_boundNow 34 (.invokevirtual 262) 3 37 := ⟨by decide +kernel, rfl⟩
theorem dX7_boundNow_37 : nv_distore qX7_boundNow 37 3 38 := Or.inr ⟨3, rfl, by decide +kernel, rfl⟩
theorem dX7_boundNow_38 : nv_daload qX7_boundNow 38 0 39 := Or.inr ⟨0, rfl, by decide +kernel, rfl⟩
theorem dX7_boundNow_39 : nv_dc qX7_boundNow 39 (.getfield 73) 3 42 := ⟨by decide +kernel, rfl⟩
theorem dX7_boundNow_42 : nv_diload qX7_boundNow 42 1 43 := Or.inr ⟨1, rfl, by decide +kernel, rfl⟩
theorem dX7_boundNow_43 : nv_dc qX7_boundNow 43 (.iaload) 1 44 := ⟨by decide +kernel, rfl⟩
theorem dX7_boundNow_44 : nv_dk qX7_boundNow 44 (-1) 45 := Or.inl ⟨(-1), ⟨by decide +kernel, rfl⟩, by decide⟩
theorem dX7_boundNow_45 : nv_dic qX7_boundNow 45 .eq 96 48 := ⟨51, by decide +kernel, by decide, rfl⟩
theorem dX7_boundNow_48 : nv_daload qX7_boundNow 48 0 49 := Or.inr ⟨0, rfl, by decide +kernel, rfl⟩
theorem dX7_boundNow_49 : nv_diload qX7_boundNow 49 3 50 := Or.inr ⟨3, rfl, by decide +kernel, rfl⟩
theorem dX7_boundNow_50 : nv_dk qX7_boundNow 50 (-1) 51 := Or.inl ⟨(-1), ⟨by decide +kernel, rfl⟩, by decide⟩
theorem dX7_boundNow_51 : nv_dic qX7_boundNow 51 .eq 58 54 := ⟨7, by decide +kernel, by decide, rfl⟩
theorem dX7_boundNow_54 : nv_diload qX7_boundNow 54 3 55 := Or.inr ⟨3, rfl, by decide +kernel, rfl⟩
theorem dX7_boundNow_55 : nv_dgo qX7_boundNow 55 72 := ⟨17, by decide +kernel, by decide⟩
theorem dX7_boundNow_58 : nv_daload qX7_boundNow 58 0 59 := Or.inr ⟨0, rfl, by decide +kernel, rfl⟩
theorem dX7_boundNow_59 : nv_diload qX7_boundNow 59 1 60 := Or.inr ⟨1, rfl, by decide +kernel, rfl⟩
theorem dX7_boundNow_60 : nv_dc qX7_boundNow 60 (.invokevirtual 265) 3 63 := ⟨by decide +kernel, rfl⟩
theorem dX7_boundNow_63 : nv_dif qX7_boundNow 63 .eq 71 66 := ⟨8, by decide +kernel, by decide, rfl⟩
theorem dX7_boundNow_66 : nv_dk qX7_boundNow 66 20 68 := Or.inr (Or.inl ⟨20, ⟨by decide +kernel, rfl⟩, by decide⟩)
theorem dX7_boundNow_68 : nv_dgo qX7_boundNow 68 72 := ⟨4, by decide +kernel, by decide⟩
theorem dX7_boundNow_71 : nv_dk qX7_boundNow 71 (-1) 72 := Or.inl ⟨(-1), ⟨by decide +kernel, rfl⟩, by decide⟩
theorem dX7_boundNow_72 : nv_dc qX7_boundNow 72 (.putfield 259) 3 75 := ⟨by decide +kernel, rfl⟩
theorem dX7_boundNow_75 : nv_daload qX7_boundNow 75 0 76 := Or.inr ⟨0, rfl, by decide +kernel, rfl⟩
theorem dX7_boundNow_76 : nv_dc qX7_boundNow 76 (.getfield 259) 3 79 := ⟨by decide +kernel, rfl⟩
theorem dX7_boundNow_79 : nv_dk qX7_boundNow 79 (-1) 80 := Or.inl ⟨(-1), ⟨by decide +kernel, rfl⟩, by decide⟩
theorem dX7_boundNow_80 : nv_dic qX7_boundNow 80 .ne 87 83 := ⟨7, by decide +kernel, by decide, rfl⟩
theorem dX7_boundNow_83 : nv_dk qX7_boundNow 83 0 84 := Or.inl ⟨0, ⟨by decide +kernel, rfl⟩, by decide⟩
theorem dX7_boundNow_84 : nv_dgo qX7_boundNow 84 95 := ⟨11, by decide +kernel, by decide⟩
theorem dX7_boundNow_87 : nv_dk qX7_boundNow 87 1 88 := Or.inl ⟨1, ⟨by decide +kernel, rfl⟩, by decide⟩
theorem dX7_boundNow_88 : nv_daload qX7_boundNow 88 0 89 := Or.inr ⟨0, rfl, by decide +kernel, rfl⟩
theorem dX7_boundNow_89 : nv_dc qX7_boundNow 89 (.getfield 73) 3 92 := ⟨by decide +kernel, rfl⟩
theorem dX7_boundNow_92 : nv_diload qX7_boundNow 92 1 93 := Or.inr ⟨1, rfl, by decide +kernel, rfl⟩
theorem dX7_boundNow_93 : nv_dc qX7_boundNow 93 (.iaload) 1 94 := ⟨by decide +kernel, rfl⟩
theorem dX7_boundNow_94 : nv_dc qX7_boundNow 94 (.ishl) 1 95 := ⟨by decide +kernel, rfl⟩
theorem dX7_boundNow_95 : decode qX7_boundNow.2.1 95 = .ok (.ireturn, 1) := by decide +kernel
theorem dX7_boundNow_96 : nv_diload qX7_boundNow 96 3 97 := Or.inr ⟨3, rfl, by decide +kernel, rfl⟩
theorem dX7_boundNow_97 : nv_dk qX7_boundNow 97 (-1) 98 := Or.inl ⟨(-1), ⟨by decide +kernel, rfl⟩, by decide⟩
theorem dX7_boundNow_98 : nv_dic qX7_boundNow 98 .ne 103 101 := ⟨5, by decide +kernel, by decide, rfl⟩
theorem dX7_boundNow_101 : nv_diload qX7_boundNow 101 2 102 := Or.inr ⟨2, rfl, by decide +kernel, rfl⟩
theorem dX7_boundNow_102 : decode qX7_boundNow.2.1 102 = .ok (.ireturn, 1) := by decide +kernel
theorem dX7_boundNow_103 : nv_daload qX7_boundNow 103 0 104 := Or.inr ⟨0, rfl, by decide +kernel, rfl⟩
theorem dX7_boundNow_104 : nv_diload qX7_boundNow 104 3 105 := Or.inr ⟨3, rfl, by decide +kernel, rfl⟩
theorem dX7_boundNow_105 : nv_dc qX7_boundNow 105 (.putfield 259) 3 108 := ⟨by decide +kernel, rfl⟩
theorem dX7_boundNow_108 : nv_dk qX7_boundNow 108 1 109 := Or.inl ⟨1, ⟨by decide +kernel, rfl⟩, by decide⟩
theorem dX7_boundNow_109 : nv_daload qX7_boundNow 109 0 110 := Or.inr ⟨0, rfl, by decide +kernel, rfl⟩
theorem dX7_boundNow_110 : nv_dc qX7_boundNow 110 (.getfield 28) 3 113 := ⟨by decide +kernel, rfl⟩
theorem dX7_boundNow_113 : nv_diload qX7_boundNow 113 3 114 := Or.inr ⟨3, rfl, by decide +kernel, rfl⟩
theorem dX7_boundNow_114 : nv_dc qX7_boundNow 114 (.iaload) 1 115 := ⟨by decide +kernel, rfl⟩
theorem dX7_boundNow_115 : nv_dc qX7_boundNow 115 (.ishl) 1 116 := ⟨by decide +kernel, rfl⟩
theorem dX7_boundNow_116 : nv_distore qX7_boundNow 116 4 118 := Or.inl ⟨by decide +kernel, rfl⟩
theorem dX7_boundNow_118 : nv_daload qX7_boundNow 118 0 119 := Or.inr ⟨0, rfl, by decide +kernel, rfl⟩
theorem dX7_boundNow_119 : nv_dc qX7_boundNow 119 (.getfield 112) 3 122 := ⟨by decide +kernel, rfl⟩
theorem dX7_boundNow_122 : nv_dk qX7_boundNow 122 6 124 := Or.inr (Or.inl ⟨6, ⟨by decide +kernel, rfl⟩, by decide⟩)
theorem dX7_boundNow_124 : nv_dc qX7_boundNow 124 (.iaload) 1 125 := ⟨by decide +kernel, rfl⟩
theorem dX7_boundNow_125 : nv_dif qX7_boundNow 125 .ne 132 128 := ⟨7, by decide +kernel, by decide, rfl⟩
theorem dX7_boundNow_128 : nv_diload qX7_boundNow 128 2 129 := Or.inr ⟨2, rfl, by decide +kernel, rfl⟩
theorem dX7_boundNow_129 : nv_dgo qX7_boundNow 129 152 := ⟨23, by decide +kernel, by decide⟩
theorem dX7_boundNow_132 : nv_daload qX7_boundNow 132 0 133 := Or.inr ⟨0, rfl, by decide +kernel, rfl⟩
theorem dX7_boundNow_133 : nv_dc qX7_boundNow 133 (.getfield 112) 3 136 := ⟨by decide +kernel, rfl⟩
theorem dX7_boundNow_136 : nv_dk qX7_boundNow 136 6 138 := Or.inr (Or.inl ⟨6, ⟨by decide +kernel, rfl⟩, by decide⟩)
theorem dX7_boundNow_138 : nv_dc qX7_boundNow 138 (.iaload) 1 139 := ⟨by decide +kernel, rfl⟩
theorem dX7_boundNow_139 : nv_dk qX7_boundNow 139 1 140 := Or.inl ⟨1, ⟨by decide +kernel, rfl⟩, by decide⟩
theorem dX7_boundNow_140 : nv_dic qX7_boundNow 140 .ne 148 143 := ⟨8, by decide +kernel, by decide, rfl⟩
theorem dX7_boundNow_143 : nv_diload qX7_boundNow 143 4 145 := Or.inl ⟨by decide +kernel, rfl⟩
theorem dX7_boundNow_145 : nv_dgo qX7_boundNow 145 152 := ⟨7, by decide +kernel, by decide⟩
theorem dX7_boundNow_148 : nv_diload qX7_boundNow 148 2 149 := Or.inr ⟨2, rfl, by decide +kernel, rfl⟩
theorem dX7_boundNow_149 : nv_diload qX7_boundNow 149 4 151 := Or.inl ⟨by decide +kernel, rfl⟩
theorem dX7_boundNow_151 : nv_dc qX7_boundNow 151 (.ior) 1 152 := ⟨by decide +kernel, rfl⟩
theorem dX7_boundNow_152 : decode qX7_boundNow.2.1 152 = .ok (.ireturn, 1) := by decide +kernel
def pm_boundNow_72 (h : nv_Hp) (x1 : Int32) (s1 : Int32)  : Option (Int32 × nv_Hp) := (nv_lt (nv_up h 73 41 s1) fun h1 => (if (h1 73 41) = (-1) then some (0, h1) else some ((1 <<< ((h1 95 x1.toNatClampNeg) &&& 31)), h1)))
set_option maxHeartbeats 2000000 in
theorem tm_boundNow_72 (G : nv_G) (h : nv_Hp) (x1 : Int32) (hx1 : nv_inb x1 10 = true) (s1 : Int32)  (o2 o3 o4 : Option Value) (r : Int32 × nv_Hp) (hf : pm_boundNow_72 h x1 s1 = some r) : nv_E G 4 qX7_boundNow 72 [some (.ref 73), some (.int x1), o2, o3, o4] [.int s1, .ref 73] (nv_s h) (some (.int r.1), nv_s r.2) := by
  unfold pm_boundNow_72 at hf
  refine nv_tP lp_X7_259 dX7_boundNow_72 ko_73 rfl ?_
  obtain ⟨h1, eh1, hf⟩ := nv_ltX hf
  rw [eh1]
  clear eh1
  refine nv_aL dX7_boundNow_75 rfl ?_
  refine nv_tI lf_X7_259 dX7_boundNow_76 ko_73 rfl ?_
  refine nv_k dX7_boundNow_79 ?_
  refine nv_icne dX7_boundNow_80 (fun c2 => ?_) (fun c2 => ?_)
  · replace hf := nv_ip c2 hf
    refine nv_k dX7_boundNow_83 ?_
    refine nv_goto dX7_boundNow_84 ?_
    obtain rfl := Option.some.inj hf
    exact nv_ireturnI dX7_boundNow_95 rfl
  · replace hf := nv_in c2 hf
    refine nv_k dX7_boundNow_87 ?_
    refine nv_aL dX7_boundNow_88 rfl ?_
    refine nv_tR lf_X7_73 dX7_boundNow_89 ko_73 rfl ?_
    refine nv_iL dX7_boundNow_92 rfl ?_
    refine nv_aI dX7_boundNow_93 ka_95 hx1 rfl ?_
    refine nv_ishl dX7_boundNow_94 ?_
    obtain rfl := Option.some.inj hf
    exact nv_ireturnI dX7_boundNow_95 rfl
def pm_boundNow (h : nv_Hp) (x1 : Int32) : Option (Int32 × nv_Hp) := (nv_lt ((1 <<< ((h 94 x1.toNatClampNeg) &&& 31))) fun v1 => (nv_lt (nv_up h 73 41 30) fun h2 => (if (h2 95 x1.toNatClampNeg) = (h2 94 x1.toNatClampNeg) then some (v1, h2) else (Option.bind (pm_firstLeave h2 x1) fun q4 => (if (h2 95 x1.toNatClampNeg) = (-1) then (if q4 = (-1) then some (v1, h2) else (nv_lt (nv_up h2 73 41 q4) fun h7 => (if nv_inb q4 13 = true then (nv_lt ((1 <<< ((h7 80 q4.toNatClampNeg) &&& 31))) fun v9 => (if (h7 108 6) = 0 then some (v1, h7) else (if (h7 108 6) = 1 then some (v9, h7) else some ((v1 ||| v9), h7)))) else none))) else (Option.bind ((if q4 = (-1) then (Option.bind (pm_isWell h2 x1) fun q12 => (if q12 = true then some (20) else some ((-1)))) else some (q4)) : Option (Int32)) fun u13 => pm_boundNow_72 h2 x1 u13))))))
set_option maxHeartbeats 2000000 in
theorem tm_boundNow (G : nv_G) (h : nv_Hp) (x1 : Int32) (hx1 : nv_inb x1 10 = true) {r : Int32 × nv_Hp} (hf : (pm_boundNow h x1) = some r) : nv_Mt G 4 qX7_boundNow [.ref 73, .int x1] (nv_s h) (some (.int r.1), nv_s r.2) := by
  refine nv_of (by decide +kernel) (fun ad => Nat.le_of_ble_eq_true rfl) (Nat.le_refl _) (Nat.le_of_ble_eq_true rfl) ?_
  show nv_E G 4 qX7_boundNow 0 [some (.ref 73), some (.int x1), none, none, none] [] (nv_s h) (some (.int r.1), nv_s r.2)
  unfold pm_boundNow at hf
  refine nv_k dX7_boundNow_0 ?_
  refine nv_aL dX7_boundNow_1 rfl ?_
  refine nv_tR lf_X7_70 dX7_boundNow_2 ko_73 rfl ?_
  refine nv_iL dX7_boundNow_5 rfl ?_
  refine nv_aI dX7_boundNow_6 ka_94 hx1 rfl ?_
  refine nv_ishl dX7_boundNow_7 ?_
  obtain ⟨v1, ev1, hf⟩ := nv_ltX hf
  rw [ev1]
  clear ev1
  refine nv_iS dX7_boundNow_8 (by decide) rfl rfl ?_
  refine nv_aL dX7_boundNow_9 rfl ?_
  refine nv_k dX7_boundNow_10 ?_
  refine nv_tP lp_X7_259 dX7_boundNow_12 ko_73 rfl ?_
  obtain ⟨h2, eh2, hf⟩ := nv_ltX hf
  rw [eh2]
  clear eh2
  refine nv_aL dX7_boundNow_15 rfl ?_
  refine nv_tR lf_X7_73 dX7_boundNow_16 ko_73 rfl ?_
  refine nv_iL dX7_boundNow_19 rfl ?_
  refine nv_aI dX7_boundNow_20 ka_95 hx1 rfl ?_
  refine nv_aL dX7_boundNow_21 rfl ?_
  refine nv_tR lf_X7_70 dX7_boundNow_22 ko_73 rfl ?_
  refine nv_iL dX7_boundNow_25 rfl ?_
  refine nv_aI dX7_boundNow_26 ka_94 hx1 rfl ?_
  refine nv_icne dX7_boundNow_27 (fun c3 => ?_) (fun c3 => ?_)
  · replace hf := nv_ip c3 hf
    refine nv_iL dX7_boundNow_30 rfl ?_
    obtain rfl := Option.some.inj hf
    exact nv_ireturnI dX7_boundNow_31 rfl
  · replace hf := nv_in c3 hf
    refine nv_aL dX7_boundNow_32 rfl ?_
    refine nv_iL dX7_boundNow_33 rfl ?_
    obtain ⟨q4, hq4, hf⟩ := nv_bd hf
    refine nv_cVi (tm_firstLeave G h2 x1 hx1 hq4) dX7_boundNow_34 lm_X7_262 y_qX7_firstLeave ko_73 rfl rfl (by decide) rfl (Nat.le_of_ble_eq_true rfl) ?_
    refine nv_iS dX7_boundNow_37 (by decide) rfl rfl ?_
    refine nv_aL dX7_boundNow_38 rfl ?_
    refine nv_tR lf_X7_73 dX7_boundNow_39 ko_73 rfl ?_
    refine nv_iL dX7_boundNow_42 rfl ?_
    refine nv_aI dX7_boundNow_43 ka_95 hx1 rfl ?_
    refine nv_k dX7_boundNow_44 ?_
    refine nv_iceq dX7_boundNow_45 (fun c5 => ?_) (fun c5 => ?_)
    · replace hf := nv_ip c5 hf
      refine nv_iL dX7_boundNow_96 rfl ?_
      refine nv_k dX7_boundNow_97 ?_
      refine nv_icne dX7_boundNow_98 (fun c6 => ?_) (fun c6 => ?_)
      · replace hf := nv_ip c6 hf
        refine nv_iL dX7_boundNow_101 rfl ?_
        obtain rfl := Option.some.inj hf
        exact nv_ireturnI dX7_boundNow_102 rfl
      · replace hf := nv_in c6 hf
        refine nv_aL dX7_boundNow_103 rfl ?_
        refine nv_iL dX7_boundNow_104 rfl ?_
        refine nv_tP lp_X7_259 dX7_boundNow_105 ko_73 rfl ?_
        obtain ⟨h7, eh7, hf⟩ := nv_ltX hf
        rw [eh7]
        clear eh7
        refine nv_k dX7_boundNow_108 ?_
        refine nv_aL dX7_boundNow_109 rfl ?_
        refine nv_tR lf_X7_28 dX7_boundNow_110 ko_73 rfl ?_
        refine nv_iL dX7_boundNow_113 rfl ?_
        obtain ⟨g8, hf⟩ := nv_gd hf
        refine nv_aI dX7_boundNow_114 ka_80 g8 rfl ?_
        refine nv_ishl dX7_boundNow_115 ?_
        obtain ⟨v9, ev9, hf⟩ := nv_ltX hf
        rw [ev9]
        clear ev9
        refine nv_iS dX7_boundNow_116 (by decide) rfl rfl ?_
        refine nv_aL dX7_boundNow_118 rfl ?_
        refine nv_tR lf_X7_112 dX7_boundNow_119 ko_73 rfl ?_
        refine nv_k dX7_boundNow_122 ?_
        refine nv_aI dX7_boundNow_124 ka_108 (by decide) (j := 6) (by decide) ?_
        refine nv_ifne dX7_boundNow_125 (fun c10 => ?_) (fun c10 => ?_)
        · replace hf := nv_ip c10 hf
          refine nv_iL dX7_boundNow_128 rfl ?_
          refine nv_goto dX7_boundNow_129 ?_
          obtain rfl := Option.some.inj hf
          exact nv_ireturnI dX7_boundNow_152 rfl
        · replace hf := nv_in c10 hf
          refine nv_aL dX7_boundNow_132 rfl ?_
          refine nv_tR lf_X7_112 dX7_boundNow_133 ko_73 rfl ?_
          refine nv_k dX7_boundNow_136 ?_
          refine nv_aI dX7_boundNow_138 ka_108 (by decide) (j := 6) (by decide) ?_
          refine nv_k dX7_boundNow_139 ?_
          refine nv_icne dX7_boundNow_140 (fun c11 => ?_) (fun c11 => ?_)
          · replace hf := nv_ip c11 hf
            refine nv_iL dX7_boundNow_143 rfl ?_
            refine nv_goto dX7_boundNow_145 ?_
            obtain rfl := Option.some.inj hf
            exact nv_ireturnI dX7_boundNow_152 rfl
          · replace hf := nv_in c11 hf
            refine nv_iL dX7_boundNow_148 rfl ?_
            refine nv_iL dX7_boundNow_149 rfl ?_
            refine nv_ior dX7_boundNow_151 ?_
            obtain rfl := Option.some.inj hf
            exact nv_ireturnI dX7_boundNow_152 rfl
    · replace hf := nv_in c5 hf
      refine nv_aL dX7_boundNow_48 rfl ?_
      refine nv_iL dX7_boundNow_49 rfl ?_
      refine nv_k dX7_boundNow_50 ?_
      refine nv_iceq dX7_boundNow_51 (fun c14 => ?_) (fun c14 => ?_)
      · try simp only [if_pos c14, Option.bind_some] at hf
        refine nv_aL dX7_boundNow_58 rfl ?_
        refine nv_iL dX7_boundNow_59 rfl ?_
        obtain ⟨q15, hq15⟩ : ∃ q, pm_isWell h2 x1 = some q := by
          cases hq15 : pm_isWell h2 x1 with
          | none => exfalso; simp [hq15] at hf
          | some q => exact ⟨q, rfl⟩
        simp only [hq15, Option.bind_some] at hf
        refine nv_cVi (tm_isWell G h2 x1 hx1 hq15) dX7_boundNow_60 lm_X7_265 y_qX7_isWell ko_73 rfl rfl (by decide) rfl (Nat.le_of_ble_eq_true rfl) ?_
        refine nv_ifeqB dX7_boundNow_63 (fun c16 => ?_) (fun c16 => ?_)
        · try simp only [if_pos c16, Option.bind_some] at hf
          refine nv_k dX7_boundNow_66 ?_
          refine nv_goto dX7_boundNow_68 ?_
          exact tm_boundNow_72 G _ _ hx1 _ _ _ _ _ hf
        · try simp only [if_neg c16, Option.bind_some] at hf
          refine nv_k dX7_boundNow_71 ?_
          exact tm_boundNow_72 G _ _ hx1 _ _ _ _ _ hf
      · try simp only [if_neg c14, Option.bind_some] at hf
        refine nv_iL dX7_boundNow_54 rfl ?_
        refine nv_goto dX7_boundNow_55 ?_
        exact tm_boundNow_72 G _ _ hx1 _ _ _ _ _ hf
/-! WhoseNameModel.reaches -/
theorem dX7_reaches_0 : nv_diload qX7_reaches 0 1 1 := Or.inr ⟨1, rfl, by decide +kernel, rfl⟩
theorem dX7_reaches_1 : nv_dc qX7_reaches 1 (.invokestatic 171) 3 4 := ⟨by decide +kernel, rfl⟩
theorem dX7_reaches_4 : nv_dif qX7_reaches 4 .eq 31 7 := ⟨27, by decide +kernel, by decide, rfl⟩
theorem dX7_reaches_7 : nv_daload qX7_reaches 7 0 8 := Or.inr ⟨0, rfl, by decide +kernel, rfl⟩
theorem dX7_reaches_8 : nv_diload qX7_reaches 8 2 9 := Or.inr ⟨2, rfl, by decide +kernel, rfl⟩
theorem dX7_reaches_9 : nv_dc qX7_reaches 9 (.invokevirtual 168) 3 12 := ⟨by decide +kernel, rfl⟩
theorem dX7_reaches_12 : nv_dif qX7_reaches 12 .eq 31 15 := ⟨19, by decide +kernel, by decide, rfl⟩
theorem dX7_reaches_15 : nv_daload qX7_reaches 15 0 16 := Or.inr ⟨0, rfl, by decide +kernel, rfl⟩
theorem dX7_reaches_16 : nv_diload qX7_reaches 16 3 17 := Or.inr ⟨3, rfl, by decide +kernel, rfl⟩
theorem dX7_reaches_17 : nv_dc qX7_reaches 17 (.invokevirtual 204) 3 20 := ⟨by decide +kernel, rfl⟩
theorem dX7_reaches_20 : nv_dif qX7_reaches 20 .eq 31 23 := ⟨11, by decide +kernel, by decide, rfl⟩
theorem dX7_reaches_23 : nv_diload qX7_reaches 23 4 25 := Or.inl ⟨by decide +kernel, rfl⟩
theorem dX7_reaches_25 : nv_dc qX7_reaches 25 (.invokestatic 171) 3 28 := ⟨by decide +kernel, rfl⟩
theorem dX7_reaches_28 : nv_dif qX7_reaches 28 .ne 34 31 := ⟨6, by decide +kernel, by decide, rfl⟩
theorem dX7_reaches_31 : nv_dk qX7_reaches 31 (-2) 33 := Or.inr (Or.inl ⟨(-2), ⟨by decide +kernel, rfl⟩, by decide⟩)
theorem dX7_reaches_33 : decode qX7_reaches.2.1 33 = .ok (.ireturn, 1) := by decide +kernel
theorem dX7_reaches_34 : nv_daload qX7_reaches 34 0 35 := Or.inr ⟨0, rfl, by decide +kernel, rfl⟩
theorem dX7_reaches_35 : nv_diload qX7_reaches 35 1 36 := Or.inr ⟨1, rfl, by decide +kernel, rfl⟩
theorem dX7_reaches_36 : nv_dc qX7_reaches 36 (.invokevirtual 268) 3 39 := ⟨by decide +kernel, rfl⟩
theorem dX7_reaches_39 : nv_diload qX7_reaches 39 4 41 := Or.inl ⟨by decide +kernel, rfl⟩
theorem dX7_reaches_41 : nv_dif qX7_reaches 41 .ne 56 44 := ⟨15, by decide +kernel, by decide, rfl⟩
theorem dX7_reaches_44 : nv_daload qX7_reaches 44 0 45 := Or.inr ⟨0, rfl, by decide +kernel, rfl⟩
theorem dX7_reaches_45 : nv_diload qX7_reaches 45 2 46 := Or.inr ⟨2, rfl, by decide +kernel, rfl⟩
theorem dX7_reaches_46 : nv_diload qX7_reaches 46 3 47 := Or.inr ⟨3, rfl, by decide +kernel, rfl⟩
theorem dX7_reaches_47 : nv_dc qX7_reaches 47 (.invokevirtual 256) 3 50 := ⟨by decide +kernel, rfl⟩
theorem dX7_reaches_50 : nv_dif qX7_reaches 50 .eq 69 53 := ⟨19, by decide +kernel, by decide, rfl⟩
theorem dX7_reaches_53 : nv_dgo qX7_reaches 53 65 := ⟨12, by decide +kernel, by decide⟩
theorem dX7_reaches_56 : nv_daload qX7_reaches 56 0 57 := Or.inr ⟨0, rfl, by decide +kernel, rfl⟩
theorem dX7_reaches_57 : nv_diload qX7_reaches 57 2 58 := Or.inr ⟨2, rfl, by decide +kernel, rfl⟩
theorem dX7_reaches_58 : nv_diload qX7_reaches 58 3 59 := Or.inr ⟨3, rfl, by decide +kernel, rfl⟩
theorem dX7_reaches_59 : nv_dc qX7_reaches 59 (.invokevirtual 249) 3 62 := ⟨by decide +kernel, rfl⟩
theorem dX7_reaches_62 : nv_dif qX7_reaches 62 .eq 69 65 := ⟨7, by decide +kernel, by decide, rfl⟩
theorem dX7_reaches_65 : nv_dk qX7_reaches 65 1 66 := Or.inl ⟨1, ⟨by decide +kernel, rfl⟩, by decide⟩
theorem dX7_reaches_66 : nv_dgo qX7_reaches 66 70 := ⟨4, by decide +kernel, by decide⟩
theorem dX7_reaches_69 : nv_dk qX7_reaches 69 0 70 := Or.inl ⟨0, ⟨by decide +kernel, rfl⟩, by decide⟩
theorem dX7_reaches_70 : decode qX7_reaches.2.1 70 = .ok (.ireturn, 1) := by decide +kernel
def pm_reaches (h : nv_Hp) (x1 : Int32) (x2 : Int32) (x3 : Int32) (x4 : Int32) : Option (Int32 × nv_Hp) := (if (pm_isTwo x1) = true then (if (pm_isLeave h x2) = true then (if (pm_isBargain h x3) = true then (if (pm_isTwo x4) = true then (if nv_inb x1 2 = true then (Option.bind (pm_goes h x1) fun q6 => (if x4 = 0 then (if nv_inb x2 13 = true then (if nv_inb x3 10 = true then (Option.bind (pm_reachesNow q6 x2 x3) fun q10 => (if q10 = true then some (1, q6) else some (0, q6))) else none) else none) else (if nv_inb x2 13 = true then (if nv_inb x3 10 = true then (Option.bind (pm_isEnded q6 x2 x3) fun q14 => (if q14 = true then some (1, q6) else some (0, q6))) else none) else none))) else none) else some ((-2), h)) else some ((-2), h)) else some ((-2), h)) else some ((-2), h))
set_option maxHeartbeats 2000000 in
theorem tm_reaches (G : nv_G) (h : nv_Hp) (x1 : Int32) (x2 : Int32) (x3 : Int32) (x4 : Int32) {r : Int32 × nv_Hp} (hf : (pm_reaches h x1 x2 x3 x4) = some r) : nv_Mt G 4 qX7_reaches [.ref 73, .int x1, .int x2, .int x3, .int x4] (nv_s h) (some (.int r.1), nv_s r.2) := by
  refine nv_of (by decide +kernel) (fun ad => Nat.le_of_ble_eq_true rfl) (Nat.le_refl _) (Nat.le_of_ble_eq_true rfl) ?_
  show nv_E G 4 qX7_reaches 0 [some (.ref 73), some (.int x1), some (.int x2), some (.int x3), some (.int x4)] [] (nv_s h) (some (.int r.1), nv_s r.2)
  unfold pm_reaches at hf
  refine nv_iL dX7_reaches_0 rfl ?_
  refine nv_cSi (tm_isTwo G h x1) dX7_reaches_1 lm_X7_171 y_qX7_isTwo rfl (by decide) rfl (Nat.le_of_ble_eq_true rfl) ?_
  refine nv_ifeqB dX7_reaches_4 (fun c1 => ?_) (fun c1 => ?_)
  · replace hf := nv_ip c1 hf
    refine nv_aL dX7_reaches_7 rfl ?_
    refine nv_iL dX7_reaches_8 rfl ?_
    refine nv_cVi (tm_isLeave G h x2) dX7_reaches_9 lm_X7_168 y_qX7_isLeave ko_73 rfl rfl (by decide) rfl (Nat.le_of_ble_eq_true rfl) ?_
    refine nv_ifeqB dX7_reaches_12 (fun c2 => ?_) (fun c2 => ?_)
    · replace hf := nv_ip c2 hf
      refine nv_aL dX7_reaches_15 rfl ?_
      refine nv_iL dX7_reaches_16 rfl ?_
      refine nv_cVi (tm_isBargain G h x3) dX7_reaches_17 lm_X7_204 y_qX7_isBargain ko_73 rfl rfl (by decide) rfl (Nat.le_of_ble_eq_true rfl) ?_
      refine nv_ifeqB dX7_reaches_20 (fun c3 => ?_) (fun c3 => ?_)
      · replace hf := nv_ip c3 hf
        refine nv_iL dX7_reaches_23 rfl ?_
        refine nv_cSi (tm_isTwo G h x4) dX7_reaches_25 lm_X7_171 y_qX7_isTwo rfl (by decide) rfl (Nat.le_of_ble_eq_true rfl) ?_
        refine nv_ifneB dX7_reaches_28 (fun c4 => ?_) (fun c4 => ?_)
        · replace hf := nv_ip c4 hf
          refine nv_aL dX7_reaches_34 rfl ?_
          refine nv_iL dX7_reaches_35 rfl ?_
          obtain ⟨g5, hf⟩ := nv_gd hf
          obtain ⟨q6, hq6, hf⟩ := nv_bd hf
          refine nv_cVv (tm_goes G h x1 g5 hq6) dX7_reaches_36 lm_X7_268 y_qX7_goes ko_73 rfl rfl (by decide) rfl (Nat.le_of_ble_eq_true rfl) ?_
          refine nv_iL dX7_reaches_39 rfl ?_
          refine nv_ifne dX7_reaches_41 (fun c7 => ?_) (fun c7 => ?_)
          · replace hf := nv_ip c7 hf
            refine nv_aL dX7_reaches_44 rfl ?_
            refine nv_iL dX7_reaches_45 rfl ?_
            refine nv_iL dX7_reaches_46 rfl ?_
            obtain ⟨g8, hf⟩ := nv_gd hf
            obtain ⟨g9, hf⟩ := nv_gd hf
            obtain ⟨q10, hq10, hf⟩ := nv_bd hf
            refine nv_cVi (tm_reachesNow G q6 x2 g8 x3 g9 hq10) dX7_reaches_47 lm_X7_256 y_qX7_reachesNow ko_73 rfl rfl (by decide) rfl (Nat.le_of_ble_eq_true rfl) ?_
            refine nv_ifeqB dX7_reaches_50 (fun c11 => ?_) (fun c11 => ?_)
            · replace hf := nv_ip c11 hf
              refine nv_goto dX7_reaches_53 ?_
              refine nv_k dX7_reaches_65 ?_
              refine nv_goto dX7_reaches_66 ?_
              obtain rfl := Option.some.inj hf
              exact nv_ireturnI dX7_reaches_70 rfl
            · replace hf := nv_in c11 hf
              refine nv_k dX7_reaches_69 ?_
              obtain rfl := Option.some.inj hf
              exact nv_ireturnI dX7_reaches_70 rfl
          · replace hf := nv_in c7 hf
            refine nv_aL dX7_reaches_56 rfl ?_
            refine nv_iL dX7_reaches_57 rfl ?_
            refine nv_iL dX7_reaches_58 rfl ?_
            obtain ⟨g12, hf⟩ := nv_gd hf
            obtain ⟨g13, hf⟩ := nv_gd hf
            obtain ⟨q14, hq14, hf⟩ := nv_bd hf
            refine nv_cVi (tm_isEnded G q6 x2 g12 x3 g13 hq14) dX7_reaches_59 lm_X7_249 y_qX7_isEnded ko_73 rfl rfl (by decide) rfl (Nat.le_of_ble_eq_true rfl) ?_
            refine nv_ifeqB dX7_reaches_62 (fun c15 => ?_) (fun c15 => ?_)
            · replace hf := nv_ip c15 hf
              refine nv_k dX7_reaches_65 ?_
              refine nv_goto dX7_reaches_66 ?_
              obtain rfl := Option.some.inj hf
              exact nv_ireturnI dX7_reaches_70 rfl
            · replace hf := nv_in c15 hf
              refine nv_k dX7_reaches_69 ?_
              obtain rfl := Option.some.inj hf
              exact nv_ireturnI dX7_reaches_70 rfl
        · replace hf := nv_in c4 hf
          refine nv_k dX7_reaches_31 ?_
          obtain rfl := Option.some.inj hf
          exact nv_ireturnI dX7_reaches_33 rfl
      · replace hf := nv_in c3 hf
        refine nv_k dX7_reaches_31 ?_
        obtain rfl := Option.some.inj hf
        exact nv_ireturnI dX7_reaches_33 rfl
    · replace hf := nv_in c2 hf
      refine nv_k dX7_reaches_31 ?_
      obtain rfl := Option.some.inj hf
      exact nv_ireturnI dX7_reaches_33 rfl
  · replace hf := nv_in c1 hf
    refine nv_k dX7_reaches_31 ?_
    obtain rfl := Option.some.inj hf
    exact nv_ireturnI dX7_reaches_33 rfl
/-! WhoseNameModel.boundOf -/
theorem dX7_boundOf_0 : nv_daload qX7_boundOf 0 0 1 := Or.inr ⟨0, rfl, by decide +kernel, rfl⟩
theorem dX7_boundOf_1 : nv_diload qX7_boundOf 1 1 2 := Or.inr ⟨1, rfl, by decide +kernel, rfl⟩
theorem dX7_boundOf_2 : nv_dc qX7_boundOf 2 (.invokevirtual 268) 3 5 := ⟨by decide +kernel, rfl⟩
theorem dX7_boundOf_5 : nv_daload qX7_boundOf 5 0 6 := Or.inr ⟨0, rfl, by decide +kernel, rfl⟩
theorem dX7_boundOf_6 : nv_diload qX7_boundOf 6 2 7 := Or.inr ⟨2, rfl, by decide +kernel, rfl⟩
theorem dX7_boundOf_7 : nv_dc qX7_boundOf 7 (.invokevirtual 271) 3 10 := ⟨by decide +kernel, rfl⟩
theorem dX7_boundOf_10 : nv_distore qX7_boundOf 10 4 12 := Or.inl ⟨by decide +kernel, rfl⟩
theorem dX7_boundOf_12 : nv_diload qX7_boundOf 12 3 13 := Or.inr ⟨3, rfl, by decide +kernel, rfl⟩
theorem dX7_boundOf_13 : nv_dif qX7_boundOf 13 .ne 21 16 := ⟨8, by decide +kernel, by decide, rfl⟩
theorem dX7_boundOf_16 : nv_diload qX7_boundOf 16 4 18 := Or.inl ⟨by decide +kernel, rfl⟩
theorem dX7_boundOf_18 : nv_dgo qX7_boundOf 18 25 := ⟨7, by decide +kernel, by decide⟩
theorem dX7_boundOf_21 : nv_daload qX7_boundOf 21 0 22 := Or.inr ⟨0, rfl, by decide +kernel, rfl⟩
theorem dX7_boundOf_22 : nv_dc qX7_boundOf 22 (.getfield 259) 3 25 := ⟨by decide +kernel, rfl⟩
theorem dX7_boundOf_25 : decode qX7_boundOf.2.1 25 = .ok (.ireturn, 1) := by decide +kernel
def pm_boundOf (h : nv_Hp) (x1 : Int32) (x2 : Int32) (x3 : Int32) : Option (Int32 × nv_Hp) := (Option.bind (pm_goes h x1) fun q1 => (Option.bind (pm_boundNow q1 x2) fun q2 => (if x3 = 0 then some (q2.1, q2.2) else some ((q2.2 73 41), q2.2))))
set_option maxHeartbeats 2000000 in
theorem tm_boundOf (G : nv_G) (h : nv_Hp) (x1 : Int32) (hx1 : nv_inb x1 2 = true) (x2 : Int32) (hx2 : nv_inb x2 10 = true) (x3 : Int32) {r : Int32 × nv_Hp} (hf : (pm_boundOf h x1 x2 x3) = some r) : nv_Mt G 5 qX7_boundOf [.ref 73, .int x1, .int x2, .int x3] (nv_s h) (some (.int r.1), nv_s r.2) := by
  refine nv_of (by decide +kernel) (fun ad => Nat.le_of_ble_eq_true rfl) (Nat.le_refl _) (Nat.le_of_ble_eq_true rfl) ?_
  show nv_E G 5 qX7_boundOf 0 [some (.ref 73), some (.int x1), some (.int x2), some (.int x3), none] [] (nv_s h) (some (.int r.1), nv_s r.2)
  unfold pm_boundOf at hf
  refine nv_aL dX7_boundOf_0 rfl ?_
  refine nv_iL dX7_boundOf_1 rfl ?_
  obtain ⟨q1, hq1, hf⟩ := nv_bd hf
  refine nv_cVv (tm_goes G h x1 hx1 hq1) dX7_boundOf_2 lm_X7_268 y_qX7_goes ko_73 rfl rfl (by decide) rfl (Nat.le_of_ble_eq_true rfl) ?_
  refine nv_aL dX7_boundOf_5 rfl ?_
  refine nv_iL dX7_boundOf_6 rfl ?_
  obtain ⟨q2, hq2, hf⟩ := nv_bd hf
  refine nv_cVi (tm_boundNow G q1 x2 hx2 hq2) dX7_boundOf_7 lm_X7_271 y_qX7_boundNow ko_73 rfl rfl (by decide) rfl (Nat.le_of_ble_eq_true rfl) ?_
  refine nv_iS dX7_boundOf_10 (by decide) rfl rfl ?_
  refine nv_iL dX7_boundOf_12 rfl ?_
  refine nv_ifne dX7_boundOf_13 (fun c3 => ?_) (fun c3 => ?_)
  · replace hf := nv_ip c3 hf
    refine nv_iL dX7_boundOf_16 rfl ?_
    refine nv_goto dX7_boundOf_18 ?_
    obtain rfl := Option.some.inj hf
    exact nv_ireturnI dX7_boundOf_25 rfl
  · replace hf := nv_in c3 hf
    refine nv_aL dX7_boundOf_21 rfl ?_
    refine nv_tI lf_X7_259 dX7_boundOf_22 ko_73 rfl ?_
    obtain rfl := Option.some.inj hf
    exact nv_ireturnI dX7_boundOf_25 rfl
/-! WhoseNameModel.bound -/
theorem dX7_bound_0 : nv_diload qX7_bound 0 1 1 := Or.inr ⟨1, rfl, by decide +kernel, rfl⟩
theorem dX7_bound_1 : nv_dc qX7_bound 1 (.invokestatic 171) 3 4 := ⟨by decide +kernel, rfl⟩
theorem dX7_bound_4 : nv_dif qX7_bound 4 .eq 32 7 := ⟨28, by decide +kernel, by decide, rfl⟩
theorem dX7_bound_7 : nv_daload qX7_bound 7 0 8 := Or.inr ⟨0, rfl, by decide +kernel, rfl⟩
theorem dX7_bound_8 : nv_diload qX7_bound 8 2 9 := Or.inr ⟨2, rfl, by decide +kernel, rfl⟩
theorem dX7_bound_9 : nv_dc qX7_bound 9 (.invokevirtual 204) 3 12 := ⟨by decide +kernel, rfl⟩
theorem dX7_bound_12 : nv_dif qX7_bound 12 .eq 32 15 := ⟨20, by decide +kernel, by decide, rfl⟩
theorem dX7_bound_15 : nv_diload qX7_bound 15 3 16 := Or.inr ⟨3, rfl, by decide +kernel, rfl⟩
theorem dX7_bound_16 : nv_dc qX7_bound 16 (.invokestatic 171) 3 19 := ⟨by decide +kernel, rfl⟩
theorem dX7_bound_19 : nv_dif qX7_bound 19 .eq 32 22 := ⟨13, by decide +kernel, by decide, rfl⟩
theorem dX7_bound_22 : nv_daload qX7_bound 22 0 23 := Or.inr ⟨0, rfl, by decide +kernel, rfl⟩
theorem dX7_bound_23 : nv_diload qX7_bound 23 1 24 := Or.inr ⟨1, rfl, by decide +kernel, rfl⟩
theorem dX7_bound_24 : nv_diload qX7_bound 24 2 25 := Or.inr ⟨2, rfl, by decide +kernel, rfl⟩
theorem dX7_bound_25 : nv_diload qX7_bound 25 3 26 := Or.inr ⟨3, rfl, by decide +kernel, rfl⟩
theorem dX7_bound_26 : nv_dc qX7_bound 26 (.invokevirtual 274) 3 29 := ⟨by decide +kernel, rfl⟩
theorem dX7_bound_29 : nv_dgo qX7_bound 29 34 := ⟨5, by decide +kernel, by decide⟩
theorem dX7_bound_32 : nv_dk qX7_bound 32 (-2) 34 := Or.inr (Or.inl ⟨(-2), ⟨by decide +kernel, rfl⟩, by decide⟩)
theorem dX7_bound_34 : decode qX7_bound.2.1 34 = .ok (.ireturn, 1) := by decide +kernel
def pm_bound (h : nv_Hp) (x1 : Int32) (x2 : Int32) (x3 : Int32) : Option (Int32 × nv_Hp) := (if (pm_isTwo x1) = true then (if (pm_isBargain h x2) = true then (if (pm_isTwo x3) = true then (if nv_inb x1 2 = true then (if nv_inb x2 10 = true then (Option.bind (pm_boundOf h x1 x2 x3) fun q6 => some (q6.1, q6.2)) else none) else none) else some ((-2), h)) else some ((-2), h)) else some ((-2), h))
set_option maxHeartbeats 2000000 in
theorem tm_bound (G : nv_G) (h : nv_Hp) (x1 : Int32) (x2 : Int32) (x3 : Int32) {r : Int32 × nv_Hp} (hf : (pm_bound h x1 x2 x3) = some r) : nv_Mt G 6 qX7_bound [.ref 73, .int x1, .int x2, .int x3] (nv_s h) (some (.int r.1), nv_s r.2) := by
  refine nv_of (by decide +kernel) (fun ad => Nat.le_of_ble_eq_true rfl) (Nat.le_refl _) (Nat.le_of_ble_eq_true rfl) ?_
  show nv_E G 6 qX7_bound 0 [some (.ref 73), some (.int x1), some (.int x2), some (.int x3)] [] (nv_s h) (some (.int r.1), nv_s r.2)
  unfold pm_bound at hf
  refine nv_iL dX7_bound_0 rfl ?_
  refine nv_cSi (tm_isTwo G h x1) dX7_bound_1 lm_X7_171 y_qX7_isTwo rfl (by decide) rfl (Nat.le_of_ble_eq_true rfl) ?_
  refine nv_ifeqB dX7_bound_4 (fun c1 => ?_) (fun c1 => ?_)
  · replace hf := nv_ip c1 hf
    refine nv_aL dX7_bound_7 rfl ?_
    refine nv_iL dX7_bound_8 rfl ?_
    refine nv_cVi (tm_isBargain G h x2) dX7_bound_9 lm_X7_204 y_qX7_isBargain ko_73 rfl rfl (by decide) rfl (Nat.le_of_ble_eq_true rfl) ?_
    refine nv_ifeqB dX7_bound_12 (fun c2 => ?_) (fun c2 => ?_)
    · replace hf := nv_ip c2 hf
      refine nv_iL dX7_bound_15 rfl ?_
      refine nv_cSi (tm_isTwo G h x3) dX7_bound_16 lm_X7_171 y_qX7_isTwo rfl (by decide) rfl (Nat.le_of_ble_eq_true rfl) ?_
      refine nv_ifeqB dX7_bound_19 (fun c3 => ?_) (fun c3 => ?_)
      · replace hf := nv_ip c3 hf
        refine nv_aL dX7_bound_22 rfl ?_
        refine nv_iL dX7_bound_23 rfl ?_
        refine nv_iL dX7_bound_24 rfl ?_
        refine nv_iL dX7_bound_25 rfl ?_
        obtain ⟨g4, hf⟩ := nv_gd hf
        obtain ⟨g5, hf⟩ := nv_gd hf
        obtain ⟨q6, hq6, hf⟩ := nv_bd hf
        refine nv_cVi (tm_boundOf G h x1 g4 x2 g5 x3 hq6) dX7_bound_26 lm_X7_274 y_qX7_boundOf ko_73 rfl rfl (by decide) rfl (Nat.le_of_ble_eq_true rfl) ?_
        refine nv_goto dX7_bound_29 ?_
        obtain rfl := Option.some.inj hf
        exact nv_ireturnI dX7_bound_34 rfl
      · replace hf := nv_in c3 hf
        refine nv_k dX7_bound_32 ?_
        obtain rfl := Option.some.inj hf
        exact nv_ireturnI dX7_bound_34 rfl
    · replace hf := nv_in c2 hf
      refine nv_k dX7_bound_32 ?_
      obtain rfl := Option.some.inj hf
      exact nv_ireturnI dX7_bound_34 rfl
  · replace hf := nv_in c1 hf
    refine nv_k dX7_bound_32 ?_
    obtain rfl := Option.some.inj hf
    exact nv_ireturnI dX7_bound_34 rfl
/-! WhoseNameModel.till -/
theorem dX7_till_0 : nv_diload qX7_till 0 1 1 := Or.inr ⟨1, rfl, by decide +kernel, rfl⟩
theorem dX7_till_1 : nv_dc qX7_till 1 (.invokestatic 171) 3 4 := ⟨by decide +kernel, rfl⟩
theorem dX7_till_4 : nv_dif qX7_till 4 .eq 15 7 := ⟨11, by decide +kernel, by decide, rfl⟩
theorem dX7_till_7 : nv_daload qX7_till 7 0 8 := Or.inr ⟨0, rfl, by decide +kernel, rfl⟩
theorem dX7_till_8 : nv_diload qX7_till 8 2 9 := Or.inr ⟨2, rfl, by decide +kernel, rfl⟩
theorem dX7_till_9 : nv_dc qX7_till 9 (.invokevirtual 204) 3 12 := ⟨by decide +kernel, rfl⟩
theorem dX7_till_12 : nv_dif qX7_till 12 .ne 18 15 := ⟨6, by decide +kernel, by decide, rfl⟩
theorem dX7_till_15 : nv_dk qX7_till 15 (-2) 17 := Or.inr (Or.inl ⟨(-2), ⟨by decide +kernel, rfl⟩, by decide⟩)
theorem dX7_till_17 : decode qX7_till.2.1 17 = .ok (.ireturn, 1) := by decide +kernel
theorem dX7_till_18 : nv_daload qX7_till 18 0 19 := Or.inr ⟨0, rfl, by decide +kernel, rfl⟩
theorem dX7_till_19 : nv_dc qX7_till 19 (.getfield 73) 3 22 := ⟨by decide +kernel, rfl⟩
theorem dX7_till_22 : nv_diload qX7_till 22 2 23 := Or.inr ⟨2, rfl, by decide +kernel, rfl⟩
theorem dX7_till_23 : nv_dc qX7_till 23 (.iaload) 1 24 := ⟨by decide +kernel, rfl⟩
theorem dX7_till_24 : nv_dk qX7_till 24 (-1) 25 := Or.inl ⟨(-1), ⟨by decide +kernel, rfl⟩, by decide⟩
theorem dX7_till_25 : nv_dic qX7_till 25 .eq 43 28 := ⟨18, by decide +kernel, by decide, rfl⟩
theorem dX7_till_28 : nv_daload qX7_till 28 0 29 := Or.inr ⟨0, rfl, by decide +kernel, rfl⟩
theorem dX7_till_29 : nv_dc qX7_till 29 (.getfield 73) 3 32 := ⟨by decide +kernel, rfl⟩
theorem dX7_till_32 : nv_diload qX7_till 32 2 33 := Or.inr ⟨2, rfl, by decide +kernel, rfl⟩
theorem dX7_till_33 : nv_dc qX7_till 33 (.iaload) 1 34 := ⟨by decide +kernel, rfl⟩
theorem dX7_till_34 : nv_daload qX7_till 34 0 35 := Or.inr ⟨0, rfl, by decide +kernel, rfl⟩
theorem dX7_till_35 : nv_dc qX7_till 35 (.getfield 70) 3 38 := ⟨by decide +kernel, rfl⟩
theorem dX7_till_38 : nv_diload qX7_till 38 2 39 := Or.inr ⟨2, rfl, by decide +kernel, rfl⟩
theorem dX7_till_39 : nv_dc qX7_till 39 (.iaload) 1 40 := ⟨by decide +kernel, rfl⟩
theorem dX7_till_40 : nv_dic qX7_till 40 .ne 46 43 := ⟨6, by decide +kernel, by decide, rfl⟩
theorem dX7_till_43 : nv_dk qX7_till 43 (-3) 45 := Or.inr (Or.inl ⟨(-3), ⟨by decide +kernel, rfl⟩, by decide⟩)
theorem dX7_till_45 : decode qX7_till.2.1 45 = .ok (.ireturn, 1) := by decide +kernel
theorem dX7_till_46 : nv_daload qX7_till 46 0 47 := Or.inr ⟨0, rfl, by decide +kernel, rfl⟩
theorem dX7_till_47 : nv_dc qX7_till 47 (.getfield 85) 3 50 := ⟨by decide +kernel, rfl⟩
theorem dX7_till_50 : nv_diload qX7_till 50 2 51 := Or.inr ⟨2, rfl, by decide +kernel, rfl⟩
theorem dX7_till_51 : nv_dc qX7_till 51 (.iaload) 1 52 := ⟨by decide +kernel, rfl⟩
theorem dX7_till_52 : nv_daload qX7_till 52 0 53 := Or.inr ⟨0, rfl, by decide +kernel, rfl⟩
theorem dX7_till_53 : nv_diload qX7_till 53 1 54 := Or.inr ⟨1, rfl, by decide +kernel, rfl⟩
theorem dX7_till_54 : nv_dk qX7_till 54 4 55 := Or.inl ⟨4, ⟨by decide +kernel, rfl⟩, by decide⟩
theorem dX7_till_55 : nv_dc qX7_till 55 (.invokevirtual 243) 3 58 := ⟨by decide +kernel, rfl⟩
theorem dX7_till_58 : nv_dc qX7_till 58 (.iadd) 1 59 := ⟨by decide +kernel, rfl⟩
theorem dX7_till_59 : nv_distore qX7_till 59 3 60 := Or.inr ⟨3, rfl, by decide +kernel, rfl⟩
theorem dX7_till_60 : nv_diload qX7_till 60 3 61 := Or.inr ⟨3, rfl, by decide +kernel, rfl⟩
theorem dX7_till_61 : nv_dk qX7_till 61 99 63 := Or.inr (Or.inl ⟨99, ⟨by decide +kernel, rfl⟩, by decide⟩)
theorem dX7_till_63 : nv_dic qX7_till 63 .le 71 66 := ⟨8, by decide +kernel, by decide, rfl⟩
theorem dX7_till_66 : nv_dk qX7_till 66 99 68 := Or.inr (Or.inl ⟨99, ⟨by decide +kernel, rfl⟩, by decide⟩)
theorem dX7_till_68 : nv_dgo qX7_till 68 72 := ⟨4, by decide +kernel, by decide⟩
theorem dX7_till_71 : nv_diload qX7_till 71 3 72 := Or.inr ⟨3, rfl, by decide +kernel, rfl⟩
theorem dX7_till_72 : decode qX7_till.2.1 72 = .ok (.ireturn, 1) := by decide +kernel
def pm_till (h : nv_Hp) (x1 : Int32) (x2 : Int32) : Option (Int32 × nv_Hp) := (if (pm_isTwo x1) = true then (if (pm_isBargain h x2) = true then (if nv_inb x2 10 = true then (if (h 95 x2.toNatClampNeg) = (-1) then some ((-3), h) else (if (h 95 x2.toNatClampNeg) = (h 94 x2.toNatClampNeg) then some ((-3), h) else (if nv_inb x1 2 = true then (Option.bind (pm_lawOf h x1 4) fun q7 => (nv_lt (((h 99 x2.toNatClampNeg) + q7.1)) fun v8 => (if v8 ≤ 99 then some (v8, q7.2) else some (99, q7.2)))) else none))) else none) else some ((-2), h)) else some ((-2), h))
set_option maxHeartbeats 2000000 in
theorem tm_till (G : nv_G) (h : nv_Hp) (x1 : Int32) (x2 : Int32) {r : Int32 × nv_Hp} (hf : (pm_till h x1 x2) = some r) : nv_Mt G 4 qX7_till [.ref 73, .int x1, .int x2] (nv_s h) (some (.int r.1), nv_s r.2) := by
  refine nv_of (by decide +kernel) (fun ad => Nat.le_of_ble_eq_true rfl) (Nat.le_refl _) (Nat.le_of_ble_eq_true rfl) ?_
  show nv_E G 4 qX7_till 0 [some (.ref 73), some (.int x1), some (.int x2), none] [] (nv_s h) (some (.int r.1), nv_s r.2)
  unfold pm_till at hf
  refine nv_iL dX7_till_0 rfl ?_
  refine nv_cSi (tm_isTwo G h x1) dX7_till_1 lm_X7_171 y_qX7_isTwo rfl (by decide) rfl (Nat.le_of_ble_eq_true rfl) ?_
  refine nv_ifeqB dX7_till_4 (fun c1 => ?_) (fun c1 => ?_)
  · replace hf := nv_ip c1 hf
    refine nv_aL dX7_till_7 rfl ?_
    refine nv_iL dX7_till_8 rfl ?_
    refine nv_cVi (tm_isBargain G h x2) dX7_till_9 lm_X7_204 y_qX7_isBargain ko_73 rfl rfl (by decide) rfl (Nat.le_of_ble_eq_true rfl) ?_
    refine nv_ifneB dX7_till_12 (fun c2 => ?_) (fun c2 => ?_)
    · replace hf := nv_ip c2 hf
      refine nv_aL dX7_till_18 rfl ?_
      refine nv_tR lf_X7_73 dX7_till_19 ko_73 rfl ?_
      refine nv_iL dX7_till_22 rfl ?_
      obtain ⟨g3, hf⟩ := nv_gd hf
      refine nv_aI dX7_till_23 ka_95 g3 rfl ?_
      refine nv_k dX7_till_24 ?_
      refine nv_iceq dX7_till_25 (fun c4 => ?_) (fun c4 => ?_)
      · replace hf := nv_ip c4 hf
        refine nv_k dX7_till_43 ?_
        obtain rfl := Option.some.inj hf
        exact nv_ireturnI dX7_till_45 rfl
      · replace hf := nv_in c4 hf
        refine nv_aL dX7_till_28 rfl ?_
        refine nv_tR lf_X7_73 dX7_till_29 ko_73 rfl ?_
        refine nv_iL dX7_till_32 rfl ?_
        refine nv_aI dX7_till_33 ka_95 g3 rfl ?_
        refine nv_aL dX7_till_34 rfl ?_
        refine nv_tR lf_X7_70 dX7_till_35 ko_73 rfl ?_
        refine nv_iL dX7_till_38 rfl ?_
        refine nv_aI dX7_till_39 ka_94 g3 rfl ?_
        refine nv_icne dX7_till_40 (fun c5 => ?_) (fun c5 => ?_)
        · replace hf := nv_ip c5 hf
          refine nv_k dX7_till_43 ?_
          obtain rfl := Option.some.inj hf
          exact nv_ireturnI dX7_till_45 rfl
        · replace hf := nv_in c5 hf
          refine nv_aL dX7_till_46 rfl ?_
          refine nv_tR lf_X7_85 dX7_till_47 ko_73 rfl ?_
          refine nv_iL dX7_till_50 rfl ?_
          refine nv_aI dX7_till_51 ka_99 g3 rfl ?_
          refine nv_aL dX7_till_52 rfl ?_
          refine nv_iL dX7_till_53 rfl ?_
          refine nv_k dX7_till_54 ?_
          obtain ⟨g6, hf⟩ := nv_gd hf
          obtain ⟨q7, hq7, hf⟩ := nv_bd hf
          refine nv_cVi (tm_lawOf G h x1 g6 4 hq7) dX7_till_55 lm_X7_243 y_qX7_lawOf ko_73 rfl rfl (by decide) rfl (Nat.le_of_ble_eq_true rfl) ?_
          refine nv_iadd dX7_till_58 ?_
          obtain ⟨v8, ev8, hf⟩ := nv_ltX hf
          rw [ev8]
          clear ev8
          refine nv_iS dX7_till_59 (by decide) rfl rfl ?_
          refine nv_iL dX7_till_60 rfl ?_
          refine nv_k dX7_till_61 ?_
          refine nv_icle dX7_till_63 (fun c9 => ?_) (fun c9 => ?_)
          · replace hf := nv_ip c9 hf
            refine nv_iL dX7_till_71 rfl ?_
            obtain rfl := Option.some.inj hf
            exact nv_ireturnI dX7_till_72 rfl
          · replace hf := nv_in c9 hf
            refine nv_k dX7_till_66 ?_
            refine nv_goto dX7_till_68 ?_
            obtain rfl := Option.some.inj hf
            exact nv_ireturnI dX7_till_72 rfl
    · replace hf := nv_in c2 hf
      refine nv_k dX7_till_15 ?_
      obtain rfl := Option.some.inj hf
      exact nv_ireturnI dX7_till_17 rfl
  · replace hf := nv_in c1 hf
    refine nv_k dX7_till_15 ?_
    obtain rfl := Option.some.inj hf
    exact nv_ireturnI dX7_till_17 rfl
/-! WhoseNameModel.askNow -/
theorem dX7_askNow_0 : nv_daload qX7_askNow 0 0 1 := Or.inr ⟨0, rfl, by decide +kernel, rfl⟩
theorem dX7_askNow_1 : nv_diload qX7_askNow 1 1 2 := Or.inr ⟨1, rfl, by decide +kernel, rfl⟩
theorem dX7_askNow_2 : nv_dc qX7_askNow 2 (.invokevirtual 271) 3 5 := ⟨by decide +kernel, rfl⟩
theorem dX7_askNow_5 : nv_distore qX7_askNow 5 3 6 := Or.inr ⟨3, rfl, by decide +kernel, rfl⟩
theorem dX7_askNow_6 : nv_diload qX7_askNow 6 3 7 := Or.inr ⟨3, rfl, by decide +kernel, rfl⟩
theorem dX7_askNow_7 : nv_dif qX7_askNow 7 .ne 71 10 := ⟨64, by decide +kernel, by decide, rfl⟩
theorem dX7_askNow_10 : nv_diload qX7_askNow 10 2 11 := Or.inr ⟨2, rfl, by decide +kernel, rfl⟩
theorem dX7_askNow_11 : nv_daload qX7_askNow 11 0 12 := Or.inr ⟨0, rfl, by decide +kernel, rfl⟩
theorem dX7_askNow_12 : nv_dc qX7_askNow 12 (.getfield 70) 3 15 := ⟨by decide +kernel, rfl⟩
theorem dX7_askNow_15 : nv_diload qX7_askNow 15 1 16 := Or.inr ⟨1, rfl, by decide +kernel, rfl⟩
theorem dX7_askNow_16 : nv_dc qX7_askNow 16 (.iaload) 1 17 := ⟨by decide +kernel, rfl⟩
theorem dX7_askNow_17 : nv_dic qX7_askNow 17 .ne 71 20 := ⟨54, by decide +kernel, by decide, rfl⟩
theorem dX7_askNow_20 : nv_daload qX7_askNow 20 0 21 := Or.inr ⟨0, rfl, by decide +kernel, rfl⟩
theorem dX7_askNow_21 : nv_dc qX7_askNow 21 (.getfield 112) 3 24 := ⟨by decide +kernel, rfl⟩
theorem dX7_askNow_24 : nv_dk qX7_askNow 24 7 26 := Or.inr (Or.inl ⟨7, ⟨by decide +kernel, rfl⟩, by decide⟩)
theorem dX7_askNow_26 : nv_dc qX7_askNow 26 (.iaload) 1 27 := ⟨by decide +kernel, rfl⟩
theorem dX7_askNow_27 : nv_dif qX7_askNow 27 .ne 34 30 := ⟨7, by decide +kernel, by decide, rfl⟩
theorem dX7_askNow_30 : nv_dk qX7_askNow 30 0 31 := Or.inl ⟨0, ⟨by decide +kernel, rfl⟩, by decide⟩
theorem dX7_askNow_31 : nv_dgo qX7_askNow 31 70 := ⟨39, by decide +kernel, by decide⟩
theorem dX7_askNow_34 : nv_daload qX7_askNow 34 0 35 := Or.inr ⟨0, rfl, by decide +kernel, rfl⟩
theorem dX7_askNow_35 : nv_dc qX7_askNow 35 (.getfield 112) 3 38 := ⟨by decide +kernel, rfl⟩
theorem dX7_askNow_38 : nv_dk qX7_askNow 38 7 40 := Or.inr (Or.inl ⟨7, ⟨by decide +kernel, rfl⟩, by decide⟩)
theorem dX7_askNow_40 : nv_dc qX7_askNow 40 (.iaload) 1 41 := ⟨by decide +kernel, rfl⟩
theorem dX7_askNow_41 : nv_dk qX7_askNow 41 1 42 := Or.inl ⟨1, ⟨by decide +kernel, rfl⟩, by decide⟩
theorem dX7_askNow_42 : nv_dic qX7_askNow 42 .ne 54 45 := ⟨12, by decide +kernel, by decide, rfl⟩
theorem dX7_askNow_45 : nv_daload qX7_askNow 45 0 46 := Or.inr ⟨0, rfl, by decide +kernel, rfl⟩
theorem dX7_askNow_46 : nv_dc qX7_askNow 46 (.getfield 82) 3 49 := ⟨by decide +kernel, rfl⟩
theorem dX7_askNow_49 : nv_diload qX7_askNow 49 1 50 := Or.inr ⟨1, rfl, by decide +kernel, rfl⟩
theorem dX7_askNow_50 : nv_dc qX7_askNow 50 (.iaload) 1 51 := ⟨by decide +kernel, rfl⟩
theorem dX7_askNow_51 : nv_dgo qX7_askNow 51 70 := ⟨19, by decide +kernel, by decide⟩
theorem dX7_askNow_54 : nv_daload qX7_askNow 54 0 55 := Or.inr ⟨0, rfl, by decide +kernel, rfl⟩
theorem dX7_askNow_55 : nv_dc qX7_askNow 55 (.getfield 82) 3 58 := ⟨by decide +kernel, rfl⟩
theorem dX7_askNow_58 : nv_diload qX7_askNow 58 1 59 := Or.inr ⟨1, rfl, by decide +kernel, rfl⟩
theorem dX7_askNow_59 : nv_dc qX7_askNow 59 (.iaload) 1 60 := ⟨by decide +kernel, rfl⟩
theorem dX7_askNow_60 : nv_daload qX7_askNow 60 0 61 := Or.inr ⟨0, rfl, by decide +kernel, rfl⟩
theorem dX7_askNow_61 : nv_dc qX7_askNow 61 (.getfield 82) 3 64 := ⟨by decide +kernel, rfl⟩
theorem dX7_askNow_64 : nv_diload qX7_askNow 64 1 65 := Or.inr ⟨1, rfl, by decide +kernel, rfl⟩
theorem dX7_askNow_65 : nv_dc qX7_askNow 65 (.iaload) 1 66 := ⟨by decide +kernel, rfl⟩
theorem dX7_askNow_66 : nv_dk qX7_askNow 66 10 68 := Or.inr (Or.inl ⟨10, ⟨by decide +kernel, rfl⟩, by decide⟩)
theorem dX7_askNow_68 : nv_dc qX7_askNow 68 (.idiv) 1 69 := ⟨by decide +kernel, rfl⟩
theorem dX7_askNow_69 : nv_dc qX7_askNow 69 (.iadd) 1 70 := ⟨by decide +kernel, rfl⟩
theorem dX7_askNow_70 : decode qX7_askNow.2.1 70 = .ok (.ireturn, 1) := by decide +kernel
theorem dX7_askNow_71 : nv_diload qX7_askNow 71 3 72 := Or.inr ⟨3, rfl, by decide +kernel, rfl⟩
theorem dX7_askNow_72 : nv_diload qX7_askNow 72 2 73 := Or.inr ⟨2, rfl, by decide +kernel, rfl⟩
theorem dX7_askNow_73 : nv_dc qX7_askNow 73 (.ishr) 1 74 := ⟨by decide +kernel, rfl⟩
theorem dX7_askNow_74 : nv_dk qX7_askNow 74 1 75 := Or.inl ⟨1, ⟨by decide +kernel, rfl⟩, by decide⟩
theorem dX7_askNow_75 : nv_dc qX7_askNow 75 (.iand) 1 76 := ⟨by decide +kernel, rfl⟩
theorem dX7_askNow_76 : nv_dk qX7_askNow 76 1 77 := Or.inl ⟨1, ⟨by decide +kernel, rfl⟩, by decide⟩
theorem dX7_askNow_77 : nv_dic qX7_askNow 77 .ne 89 80 := ⟨12, by decide +kernel, by decide, rfl⟩
theorem dX7_askNow_80 : nv_daload qX7_askNow 80 0 81 := Or.inr ⟨0, rfl, by decide +kernel, rfl⟩
theorem dX7_askNow_81 : nv_dc qX7_askNow 81 (.getfield 82) 3 84 := ⟨by decide +kernel, rfl⟩
theorem dX7_askNow_84 : nv_diload qX7_askNow 84 1 85 := Or.inr ⟨1, rfl, by decide +kernel, rfl⟩
theorem dX7_askNow_85 : nv_dc qX7_askNow 85 (.iaload) 1 86 := ⟨by decide +kernel, rfl⟩
theorem dX7_askNow_86 : nv_dgo qX7_askNow 86 90 := ⟨4, by decide +kernel, by decide⟩
theorem dX7_askNow_89 : nv_dk qX7_askNow 89 0 90 := Or.inl ⟨0, ⟨by decide +kernel, rfl⟩, by decide⟩
theorem dX7_askNow_90 : decode qX7_askNow.2.1 90 = .ok (.ireturn, 1) := by decide +kernel
def pm_askNow_71 (h : nv_Hp) (x1 : Int32) (x2 : Int32) (x3 : Int32)   : Option (Int32 × nv_Hp) := (if ((x3 >>> (x2 &&& 31)) &&& 1) = 1 then some ((h 98 x1.toNatClampNeg), h) else some (0, h))
set_option maxHeartbeats 2000000 in
theorem tm_askNow_71 (G : nv_G) (h : nv_Hp) (x1 : Int32) (hx1 : nv_inb x1 10 = true) (x2 : Int32) (x3 : Int32)   (r : Int32 × nv_Hp) (hf : pm_askNow_71 h x1 x2 x3 = some r) : nv_E G 5 qX7_askNow 71 [some (.ref 73), some (.int x1), some (.int x2), some (.int x3)] [] (nv_s h) (some (.int r.1), nv_s r.2) := by
  unfold pm_askNow_71 at hf
  refine nv_iL dX7_askNow_71 rfl ?_
  refine nv_iL dX7_askNow_72 rfl ?_
  refine nv_ishr dX7_askNow_73 ?_
  refine nv_k dX7_askNow_74 ?_
  refine nv_iand dX7_askNow_75 ?_
  refine nv_k dX7_askNow_76 ?_
  refine nv_icne dX7_askNow_77 (fun c1 => ?_) (fun c1 => ?_)
  · replace hf := nv_ip c1 hf
    refine nv_aL dX7_askNow_80 rfl ?_
    refine nv_tR lf_X7_82 dX7_askNow_81 ko_73 rfl ?_
    refine nv_iL dX7_askNow_84 rfl ?_
    refine nv_aI dX7_askNow_85 ka_98 hx1 rfl ?_
    refine nv_goto dX7_askNow_86 ?_
    obtain rfl := Option.some.inj hf
    exact nv_ireturnI dX7_askNow_90 rfl
  · replace hf := nv_in c1 hf
    refine nv_k dX7_askNow_89 ?_
    obtain rfl := Option.some.inj hf
    exact nv_ireturnI dX7_askNow_90 rfl
def pm_askNow (h : nv_Hp) (x1 : Int32) (x2 : Int32) : Option (Int32 × nv_Hp) := (Option.bind (pm_boundNow h x1) fun q1 => (if q1.1 = 0 then (if x2 = (q1.2 94 x1.toNatClampNeg) then (if (q1.2 108 7) = 0 then some (0, q1.2) else (if (q1.2 108 7) = 1 then some ((q1.2 98 x1.toNatClampNeg), q1.2) else some (((q1.2 98 x1.toNatClampNeg) + ((q1.2 98 x1.toNatClampNeg) / 10)), q1.2))) else (pm_askNow_71 q1.2 x1 x2 q1.1)) else (pm_askNow_71 q1.2 x1 x2 q1.1)))
set_option maxHeartbeats 2000000 in
theorem tm_askNow (G : nv_G) (h : nv_Hp) (x1 : Int32) (hx1 : nv_inb x1 10 = true) (x2 : Int32) {r : Int32 × nv_Hp} (hf : (pm_askNow h x1 x2) = some r) : nv_Mt G 5 qX7_askNow [.ref 73, .int x1, .int x2] (nv_s h) (some (.int r.1), nv_s r.2) := by
  refine nv_of (by decide +kernel) (fun ad => Nat.le_of_ble_eq_true rfl) (Nat.le_refl _) (Nat.le_of_ble_eq_true rfl) ?_
  show nv_E G 5 qX7_askNow 0 [some (.ref 73), some (.int x1), some (.int x2), none] [] (nv_s h) (some (.int r.1), nv_s r.2)
  unfold pm_askNow at hf
  refine nv_aL dX7_askNow_0 rfl ?_
  refine nv_iL dX7_askNow_1 rfl ?_
  obtain ⟨q1, hq1, hf⟩ := nv_bd hf
  refine nv_cVi (tm_boundNow G h x1 hx1 hq1) dX7_askNow_2 lm_X7_271 y_qX7_boundNow ko_73 rfl rfl (by decide) rfl (Nat.le_of_ble_eq_true rfl) ?_
  refine nv_iS dX7_askNow_5 (by decide) rfl rfl ?_
  refine nv_iL dX7_askNow_6 rfl ?_
  refine nv_ifne dX7_askNow_7 (fun c2 => ?_) (fun c2 => ?_)
  · replace hf := nv_ip c2 hf
    refine nv_iL dX7_askNow_10 rfl ?_
    refine nv_aL dX7_askNow_11 rfl ?_
    refine nv_tR lf_X7_70 dX7_askNow_12 ko_73 rfl ?_
    refine nv_iL dX7_askNow_15 rfl ?_
    refine nv_aI dX7_askNow_16 ka_94 hx1 rfl ?_
    refine nv_icne dX7_askNow_17 (fun c3 => ?_) (fun c3 => ?_)
    · replace hf := nv_ip c3 hf
      refine nv_aL dX7_askNow_20 rfl ?_
      refine nv_tR lf_X7_112 dX7_askNow_21 ko_73 rfl ?_
      refine nv_k dX7_askNow_24 ?_
      refine nv_aI dX7_askNow_26 ka_108 (by decide) (j := 7) (by decide) ?_
      refine nv_ifne dX7_askNow_27 (fun c4 => ?_) (fun c4 => ?_)
      · replace hf := nv_ip c4 hf
        refine nv_k dX7_askNow_30 ?_
        refine nv_goto dX7_askNow_31 ?_
        obtain rfl := Option.some.inj hf
        exact nv_ireturnI dX7_askNow_70 rfl
      · replace hf := nv_in c4 hf
        refine nv_aL dX7_askNow_34 rfl ?_
        refine nv_tR lf_X7_112 dX7_askNow_35 ko_73 rfl ?_
        refine nv_k dX7_askNow_38 ?_
        refine nv_aI dX7_askNow_40 ka_108 (by decide) (j := 7) (by decide) ?_
        refine nv_k dX7_askNow_41 ?_
        refine nv_icne dX7_askNow_42 (fun c5 => ?_) (fun c5 => ?_)
        · replace hf := nv_ip c5 hf
          refine nv_aL dX7_askNow_45 rfl ?_
          refine nv_tR lf_X7_82 dX7_askNow_46 ko_73 rfl ?_
          refine nv_iL dX7_askNow_49 rfl ?_
          refine nv_aI dX7_askNow_50 ka_98 hx1 rfl ?_
          refine nv_goto dX7_askNow_51 ?_
          obtain rfl := Option.some.inj hf
          exact nv_ireturnI dX7_askNow_70 rfl
        · replace hf := nv_in c5 hf
          refine nv_aL dX7_askNow_54 rfl ?_
          refine nv_tR lf_X7_82 dX7_askNow_55 ko_73 rfl ?_
          refine nv_iL dX7_askNow_58 rfl ?_
          refine nv_aI dX7_askNow_59 ka_98 hx1 rfl ?_
          refine nv_aL dX7_askNow_60 rfl ?_
          refine nv_tR lf_X7_82 dX7_askNow_61 ko_73 rfl ?_
          refine nv_iL dX7_askNow_64 rfl ?_
          refine nv_aI dX7_askNow_65 ka_98 hx1 rfl ?_
          refine nv_k dX7_askNow_66 ?_
          refine nv_idiv dX7_askNow_68 (by decide) ?_
          refine nv_iadd dX7_askNow_69 ?_
          obtain rfl := Option.some.inj hf
          exact nv_ireturnI dX7_askNow_70 rfl
    · replace hf := nv_in c3 hf
      exact tm_askNow_71 G _ _ hx1 _ _ _ hf
  · replace hf := nv_in c2 hf
    exact tm_askNow_71 G _ _ hx1 _ _ _ hf
/-! WhoseNameModel.ask -/
theorem dX7_ask_0 : nv_diload qX7_ask 0 1 1 := Or.inr ⟨1, rfl, by decide +kernel, rfl⟩
theorem dX7_ask_1 : nv_dc qX7_ask 1 (.invokestatic 171) 3 4 := ⟨by decide +kernel, rfl⟩
theorem dX7_ask_4 : nv_dif qX7_ask 4 .eq 22 7 := ⟨18, by decide +kernel, by decide, rfl⟩
theorem dX7_ask_7 : nv_daload qX7_ask 7 0 8 := Or.inr ⟨0, rfl, by decide +kernel, rfl⟩
theorem dX7_ask_8 : nv_diload qX7_ask 8 2 9 := Or.inr ⟨2, rfl, by decide +kernel, rfl⟩
theorem dX7_ask_9 : nv_dc qX7_ask 9 (.invokevirtual 204) 3 12 := ⟨by decide +kernel, rfl⟩
theorem dX7_ask_12 : nv_dif qX7_ask 12 .eq 22 15 := ⟨10, by decide +kernel, by decide, rfl⟩
theorem dX7_ask_15 : nv_diload qX7_ask 15 3 16 := Or.inr ⟨3, rfl, by decide +kernel, rfl⟩
theorem dX7_ask_16 : nv_dc qX7_ask 16 (.invokestatic 160) 3 19 := ⟨by decide +kernel, rfl⟩
theorem dX7_ask_19 : nv_dif qX7_ask 19 .ne 25 22 := ⟨6, by decide +kernel, by decide, rfl⟩
theorem dX7_ask_22 : nv_dk qX7_ask 22 (-2) 24 := Or.inr (Or.inl ⟨(-2), ⟨by decide +kernel, rfl⟩, by decide⟩)
theorem dX7_ask_24 : decode qX7_ask.2.1 24 = .ok (.ireturn, 1) := by decide +kernel
theorem dX7_ask_25 : nv_daload qX7_ask 25 0 26 := Or.inr ⟨0, rfl, by decide +kernel, rfl⟩
theorem dX7_ask_26 : nv_diload qX7_ask 26 1 27 := Or.inr ⟨1, rfl, by decide +kernel, rfl⟩
theorem dX7_ask_27 : nv_dc qX7_ask 27 (.invokevirtual 268) 3 30 := ⟨by decide +kernel, rfl⟩
theorem dX7_ask_30 : nv_daload qX7_ask 30 0 31 := Or.inr ⟨0, rfl, by decide +kernel, rfl⟩
theorem dX7_ask_31 : nv_diload qX7_ask 31 2 32 := Or.inr ⟨2, rfl, by decide +kernel, rfl⟩
theorem dX7_ask_32 : nv_diload qX7_ask 32 3 33 := Or.inr ⟨3, rfl, by decide +kernel, rfl⟩
theorem dX7_ask_33 : nv_dc qX7_ask 33 (.invokevirtual 277) 3 36 := ⟨by decide +kernel, rfl⟩
theorem dX7_ask_36 : decode qX7_ask.2.1 36 = .ok (.ireturn, 1) := by decide +kernel
def pm_ask (h : nv_Hp) (x1 : Int32) (x2 : Int32) (x3 : Int32) : Option (Int32 × nv_Hp) := (if (pm_isTwo x1) = true then (if (pm_isBargain h x2) = true then (if (pm_isPerson x3) = true then (if nv_inb x1 2 = true then (Option.bind (pm_goes h x1) fun q5 => (if nv_inb x2 10 = true then (Option.bind (pm_askNow q5 x2 x3) fun q7 => some (q7.1, q7.2)) else none)) else none) else some ((-2), h)) else some ((-2), h)) else some ((-2), h))
set_option maxHeartbeats 2000000 in
theorem tm_ask (G : nv_G) (h : nv_Hp) (x1 : Int32) (x2 : Int32) (x3 : Int32) {r : Int32 × nv_Hp} (hf : (pm_ask h x1 x2 x3) = some r) : nv_Mt G 6 qX7_ask [.ref 73, .int x1, .int x2, .int x3] (nv_s h) (some (.int r.1), nv_s r.2) := by
  refine nv_of (by decide +kernel) (fun ad => Nat.le_of_ble_eq_true rfl) (Nat.le_refl _) (Nat.le_of_ble_eq_true rfl) ?_
  show nv_E G 6 qX7_ask 0 [some (.ref 73), some (.int x1), some (.int x2), some (.int x3)] [] (nv_s h) (some (.int r.1), nv_s r.2)
  unfold pm_ask at hf
  refine nv_iL dX7_ask_0 rfl ?_
  refine nv_cSi (tm_isTwo G h x1) dX7_ask_1 lm_X7_171 y_qX7_isTwo rfl (by decide) rfl (Nat.le_of_ble_eq_true rfl) ?_
  refine nv_ifeqB dX7_ask_4 (fun c1 => ?_) (fun c1 => ?_)
  · replace hf := nv_ip c1 hf
    refine nv_aL dX7_ask_7 rfl ?_
    refine nv_iL dX7_ask_8 rfl ?_
    refine nv_cVi (tm_isBargain G h x2) dX7_ask_9 lm_X7_204 y_qX7_isBargain ko_73 rfl rfl (by decide) rfl (Nat.le_of_ble_eq_true rfl) ?_
    refine nv_ifeqB dX7_ask_12 (fun c2 => ?_) (fun c2 => ?_)
    · replace hf := nv_ip c2 hf
      refine nv_iL dX7_ask_15 rfl ?_
      refine nv_cSi (tm_isPerson G h x3) dX7_ask_16 lm_X7_160 y_qX7_isPerson rfl (by decide) rfl (Nat.le_of_ble_eq_true rfl) ?_
      refine nv_ifneB dX7_ask_19 (fun c3 => ?_) (fun c3 => ?_)
      · replace hf := nv_ip c3 hf
        refine nv_aL dX7_ask_25 rfl ?_
        refine nv_iL dX7_ask_26 rfl ?_
        obtain ⟨g4, hf⟩ := nv_gd hf
        obtain ⟨q5, hq5, hf⟩ := nv_bd hf
        refine nv_cVv (tm_goes G h x1 g4 hq5) dX7_ask_27 lm_X7_268 y_qX7_goes ko_73 rfl rfl (by decide) rfl (Nat.le_of_ble_eq_true rfl) ?_
        refine nv_aL dX7_ask_30 rfl ?_
        refine nv_iL dX7_ask_31 rfl ?_
        refine nv_iL dX7_ask_32 rfl ?_
        obtain ⟨g6, hf⟩ := nv_gd hf
        obtain ⟨q7, hq7, hf⟩ := nv_bd hf
        refine nv_cVi (tm_askNow G q5 x2 g6 x3 hq7) dX7_ask_33 lm_X7_277 y_qX7_askNow ko_73 rfl rfl (by decide) rfl (Nat.le_of_ble_eq_true rfl) ?_
        obtain rfl := Option.some.inj hf
        exact nv_ireturnI dX7_ask_36 rfl
      · replace hf := nv_in c3 hf
        refine nv_k dX7_ask_22 ?_
        obtain rfl := Option.some.inj hf
        exact nv_ireturnI dX7_ask_24 rfl
    · replace hf := nv_in c2 hf
      refine nv_k dX7_ask_22 ?_
      obtain rfl := Option.some.inj hf
      exact nv_ireturnI dX7_ask_24 rfl
  · replace hf := nv_in c1 hf
    refine nv_k dX7_ask_22 ?_
    obtain rfl := Option.some.inj hf
    exact nv_ireturnI dX7_ask_24 rfl
/-! WhoseNameModel.owesNow -/
theorem dX7_owesNow_0 : nv_daload qX7_owesNow 0 0 1 := Or.inr ⟨0, rfl, by decide +kernel, rfl⟩
theorem dX7_owesNow_1 : nv_diload qX7_owesNow 1 1 2 := Or.inr ⟨1, rfl, by decide +kernel, rfl⟩
theorem dX7_owesNow_2 : nv_dc qX7_owesNow 2 (.invokevirtual 271) 3 5 := ⟨by decide +kernel, rfl⟩
theorem dX7_owesNow_5 : nv_dk qX7_owesNow 5 1 6 := Or.inl ⟨1, ⟨by decide +kernel, rfl⟩, by decide⟩
theorem dX7_owesNow_6 : nv_daload qX7_owesNow 6 0 7 := Or.inr ⟨0, rfl, by decide +kernel, rfl⟩
theorem dX7_owesNow_7 : nv_dc qX7_owesNow 7 (.getfield 70) 3 10 := ⟨by decide +kernel, rfl⟩
theorem dX7_owesNow_10 : nv_diload qX7_owesNow 10 1 11 := Or.inr ⟨1, rfl, by decide +kernel, rfl⟩
theorem dX7_owesNow_11 : nv_dc qX7_owesNow 11 (.iaload) 1 12 := ⟨by decide +kernel, rfl⟩
theorem dX7_owesNow_12 : nv_dc qX7_owesNow 12 (.ishl) 1 13 := ⟨by decide +kernel, rfl⟩
theorem dX7_owesNow_13 : nv_dk qX7_owesNow 13 (-1) 14 := Or.inl ⟨(-1), ⟨by decide +kernel, rfl⟩, by decide⟩
theorem dX7_owesNow_14 : nv_dc qX7_owesNow 14 (.ixor) 1 15 := ⟨by decide +kernel, rfl⟩
theorem dX7_owesNow_15 : nv_dc qX7_owesNow 15 (.iand) 1 16 := ⟨by decide +kernel, rfl⟩
theorem dX7_owesNow_16 : nv_distore qX7_owesNow 16 2 17 := Or.inr ⟨2, rfl, by decide +kernel, rfl⟩
theorem dX7_owesNow_17 : nv_diload qX7_owesNow 17 2 18 := Or.inr ⟨2, rfl, by decide +kernel, rfl⟩
theorem dX7_owesNow_18 : nv_dif qX7_owesNow 18 .eq 30 21 := ⟨12, by decide +kernel, by decide, rfl⟩
theorem dX7_owesNow_21 : nv_daload qX7_owesNow 21 0 22 := Or.inr ⟨0, rfl, by decide +kernel, rfl⟩
theorem dX7_owesNow_22 : nv_dc qX7_owesNow 22 (.getfield 259) 3 25 := ⟨by decide +kernel, rfl⟩
theorem dX7_owesNow_25 : nv_dk qX7_owesNow 25 20 27 := Or.inr (Or.inl ⟨20, ⟨by decide +kernel, rfl⟩, by decide⟩)
theorem dX7_owesNow_27 : nv_dic qX7_owesNow 27 .ne 32 30 := ⟨5, by decide +kernel, by decide, rfl⟩
theorem dX7_owesNow_30 : nv_dk qX7_owesNow 30 0 31 := Or.inl ⟨0, ⟨by decide +kernel, rfl⟩, by decide⟩
theorem dX7_owesNow_31 : decode qX7_owesNow.2.1 31 = .ok (.ireturn, 1) := by decide +kernel
theorem dX7_owesNow_32 : nv_daload qX7_owesNow 32 0 33 := Or.inr ⟨0, rfl, by decide +kernel, rfl⟩
theorem dX7_owesNow_33 : nv_dc qX7_owesNow 33 (.getfield 25) 3 36 := ⟨by decide +kernel, rfl⟩
theorem dX7_owesNow_36 : nv_daload qX7_owesNow 36 0 37 := Or.inr ⟨0, rfl, by decide +kernel, rfl⟩
theorem dX7_owesNow_37 : nv_dc qX7_owesNow 37 (.getfield 259) 3 40 := ⟨by decide +kernel, rfl⟩
theorem dX7_owesNow_40 : nv_dc qX7_owesNow 40 (.iaload) 1 41 := ⟨by decide +kernel, rfl⟩
theorem dX7_owesNow_41 : nv_dk qX7_owesNow 41 2 42 := Or.inl ⟨2, ⟨by decide +kernel, rfl⟩, by decide⟩
theorem dX7_owesNow_42 : nv_dic qX7_owesNow 42 .ne 52 45 := ⟨10, by decide +kernel, by decide, rfl⟩
theorem dX7_owesNow_45 : nv_daload qX7_owesNow 45 0 46 := Or.inr ⟨0, rfl, by decide +kernel, rfl⟩
theorem dX7_owesNow_46 : nv_dc qX7_owesNow 46 (.getfield 82) 3 49 := ⟨by decide +kernel, rfl⟩
theorem dX7_owesNow_49 : nv_diload qX7_owesNow 49 1 50 := Or.inr ⟨1, rfl, by decide +kernel, rfl⟩
theorem dX7_owesNow_50 : nv_dc qX7_owesNow 50 (.iaload) 1 51 := ⟨by decide +kernel, rfl⟩
theorem dX7_owesNow_51 : decode qX7_owesNow.2.1 51 = .ok (.ireturn, 1) := by decide +kernel
theorem dX7_owesNow_52 : nv_daload qX7_owesNow 52 0 53 := Or.inr ⟨0, rfl, by decide +kernel, rfl⟩
theorem dX7_owesNow_53 : nv_dc qX7_owesNow 53 (.getfield 82) 3 56 := ⟨by decide +kernel, rfl⟩
theorem dX7_owesNow_56 : nv_diload qX7_owesNow 56 1 57 := Or.inr ⟨1, rfl, by decide +kernel, rfl⟩
theorem dX7_owesNow_57 : nv_dc qX7_owesNow 57 (.iaload) 1 58 := ⟨by decide +kernel, rfl⟩
theorem dX7_owesNow_58 : nv_daload qX7_owesNow 58 0 59 := Or.inr ⟨0, rfl, by decide +kernel, rfl⟩
theorem dX7_owesNow_59 : nv_daload qX7_owesNow 59 0 60 := Or.inr ⟨0, rfl, by decide +kernel, rfl⟩
theorem dX7_owesNow_60 : nv_dc qX7_owesNow 60 (.getfield 259) 3 63 := ⟨by decide +kernel, rfl⟩
theorem dX7_owesNow_63 : nv_dc qX7_owesNow 63 (.invokevirtual 246) 3 66 := ⟨by decide +kernel, rfl⟩
theorem dX7_owesNow_66 : nv_dc qX7_owesNow 66 (.isub) 1 67 := ⟨by decide +kernel, rfl⟩
theorem dX7_owesNow_67 : nv_distore qX7_owesNow 67 3 68 := Or.inr ⟨3, rfl, by decide +kernel, rfl⟩
theorem dX7_owesNow_68 : nv_diload qX7_owesNow 68 3 69 := Or.inr ⟨3, rfl, by decide +kernel, rfl⟩
theorem dX7_owesNow_69 : nv_dif qX7_owesNow 69 .ge 76 72 := ⟨7, by decide +kernel, by decide, rfl⟩
theorem dX7_owesNow_72 : nv_dk qX7_owesNow 72 0 73 := Or.inl ⟨0, ⟨by decide +kernel, rfl⟩, by decide⟩
theorem dX7_owesNow_73 : nv_dgo qX7_owesNow 73 77 := ⟨4, by decide +kernel, by decide⟩
theorem dX7_owesNow_76 : nv_diload qX7_owesNow 76 3 77 := Or.inr ⟨3, rfl, by decide +kernel, rfl⟩
theorem dX7_owesNow_77 : decode qX7_owesNow.2.1 77 = .ok (.ireturn, 1) := by decide +kernel
def pm_owesNow (h : nv_Hp) (x1 : Int32) : Option (Int32 × nv_Hp) := (Option.bind (pm_boundNow h x1) fun q1 => (nv_lt ((q1.1 &&& ((1 <<< ((q1.2 94 x1.toNatClampNeg) &&& 31)) ^^^ (-1)))) fun v2 => (if v2 = 0 then some (0, q1.2) else (if (q1.2 73 41) = 20 then some (0, q1.2) else (if nv_inb (q1.2 73 41) 13 = true then (if (q1.2 79 (q1.2 73 41).toNatClampNeg) = 2 then some ((q1.2 98 x1.toNatClampNeg), q1.2) else (nv_lt (((q1.2 98 x1.toNatClampNeg) - (pm_limitOf q1.2 (q1.2 73 41)))) fun v7 => (if 0 ≤ v7 then some (v7, q1.2) else some (0, q1.2)))) else none)))))
set_option maxHeartbeats 2000000 in
theorem tm_owesNow (G : nv_G) (h : nv_Hp) (x1 : Int32) (hx1 : nv_inb x1 10 = true) {r : Int32 × nv_Hp} (hf : (pm_owesNow h x1) = some r) : nv_Mt G 5 qX7_owesNow [.ref 73, .int x1] (nv_s h) (some (.int r.1), nv_s r.2) := by
  refine nv_of (by decide +kernel) (fun ad => Nat.le_of_ble_eq_true rfl) (Nat.le_refl _) (Nat.le_of_ble_eq_true rfl) ?_
  show nv_E G 5 qX7_owesNow 0 [some (.ref 73), some (.int x1), none, none] [] (nv_s h) (some (.int r.1), nv_s r.2)
  unfold pm_owesNow at hf
  refine nv_aL dX7_owesNow_0 rfl ?_
  refine nv_iL dX7_owesNow_1 rfl ?_
  obtain ⟨q1, hq1, hf⟩ := nv_bd hf
  refine nv_cVi (tm_boundNow G h x1 hx1 hq1) dX7_owesNow_2 lm_X7_271 y_qX7_boundNow ko_73 rfl rfl (by decide) rfl (Nat.le_of_ble_eq_true rfl) ?_
  refine nv_k dX7_owesNow_5 ?_
  refine nv_aL dX7_owesNow_6 rfl ?_
  refine nv_tR lf_X7_70 dX7_owesNow_7 ko_73 rfl ?_
  refine nv_iL dX7_owesNow_10 rfl ?_
  refine nv_aI dX7_owesNow_11 ka_94 hx1 rfl ?_
  refine nv_ishl dX7_owesNow_12 ?_
  refine nv_k dX7_owesNow_13 ?_
  refine nv_ixor dX7_owesNow_14 ?_
  refine nv_iand dX7_owesNow_15 ?_
  obtain ⟨v2, ev2, hf⟩ := nv_ltX hf
  rw [ev2]
  clear ev2
  refine nv_iS dX7_owesNow_16 (by decide) rfl rfl ?_
  refine nv_iL dX7_owesNow_17 rfl ?_
  refine nv_ifeq dX7_owesNow_18 (fun c3 => ?_) (fun c3 => ?_)
  · replace hf := nv_ip c3 hf
    refine nv_k dX7_owesNow_30 ?_
    obtain rfl := Option.some.inj hf
    exact nv_ireturnI dX7_owesNow_31 rfl
  · replace hf := nv_in c3 hf
    refine nv_aL dX7_owesNow_21 rfl ?_
    refine nv_tI lf_X7_259 dX7_owesNow_22 ko_73 rfl ?_
    refine nv_k dX7_owesNow_25 ?_
    refine nv_icne dX7_owesNow_27 (fun c4 => ?_) (fun c4 => ?_)
    · replace hf := nv_ip c4 hf
      refine nv_k dX7_owesNow_30 ?_
      obtain rfl := Option.some.inj hf
      exact nv_ireturnI dX7_owesNow_31 rfl
    · replace hf := nv_in c4 hf
      refine nv_aL dX7_owesNow_32 rfl ?_
      refine nv_tR lf_X7_25 dX7_owesNow_33 ko_73 rfl ?_
      refine nv_aL dX7_owesNow_36 rfl ?_
      refine nv_tI lf_X7_259 dX7_owesNow_37 ko_73 rfl ?_
      obtain ⟨g5, hf⟩ := nv_gd hf
      refine nv_aI dX7_owesNow_40 ka_79 g5 rfl ?_
      refine nv_k dX7_owesNow_41 ?_
      refine nv_icne dX7_owesNow_42 (fun c6 => ?_) (fun c6 => ?_)
      · replace hf := nv_ip c6 hf
        refine nv_aL dX7_owesNow_45 rfl ?_
        refine nv_tR lf_X7_82 dX7_owesNow_46 ko_73 rfl ?_
        refine nv_iL dX7_owesNow_49 rfl ?_
        refine nv_aI dX7_owesNow_50 ka_98 hx1 rfl ?_
        obtain rfl := Option.some.inj hf
        exact nv_ireturnI dX7_owesNow_51 rfl
      · replace hf := nv_in c6 hf
        refine nv_aL dX7_owesNow_52 rfl ?_
        refine nv_tR lf_X7_82 dX7_owesNow_53 ko_73 rfl ?_
        refine nv_iL dX7_owesNow_56 rfl ?_
        refine nv_aI dX7_owesNow_57 ka_98 hx1 rfl ?_
        refine nv_aL dX7_owesNow_58 rfl ?_
        refine nv_aL dX7_owesNow_59 rfl ?_
        refine nv_tI lf_X7_259 dX7_owesNow_60 ko_73 rfl ?_
        refine nv_cVi (tm_limitOf G q1.2 (q1.2 73 41) g5) dX7_owesNow_63 lm_X7_246 y_qX7_limitOf ko_73 rfl rfl (by decide) rfl (Nat.le_of_ble_eq_true rfl) ?_
        refine nv_isub dX7_owesNow_66 ?_
        obtain ⟨v7, ev7, hf⟩ := nv_ltX hf
        rw [ev7]
        clear ev7
        refine nv_iS dX7_owesNow_67 (by decide) rfl rfl ?_
        refine nv_iL dX7_owesNow_68 rfl ?_
        refine nv_ifge dX7_owesNow_69 (fun c8 => ?_) (fun c8 => ?_)
        · replace hf := nv_ip c8 hf
          refine nv_iL dX7_owesNow_76 rfl ?_
          obtain rfl := Option.some.inj hf
          exact nv_ireturnI dX7_owesNow_77 rfl
        · replace hf := nv_in c8 hf
          refine nv_k dX7_owesNow_72 ?_
          refine nv_goto dX7_owesNow_73 ?_
          obtain rfl := Option.some.inj hf
          exact nv_ireturnI dX7_owesNow_77 rfl
/-! WhoseNameModel.owesOf -/
theorem dX7_owesOf_0 : nv_daload qX7_owesOf 0 0 1 := Or.inr ⟨0, rfl, by decide +kernel, rfl⟩
theorem dX7_owesOf_1 : nv_diload qX7_owesOf 1 1 2 := Or.inr ⟨1, rfl, by decide +kernel, rfl⟩
theorem dX7_owesOf_2 : nv_dc qX7_owesOf 2 (.invokevirtual 268) 3 5 := ⟨by decide +kernel, rfl⟩
theorem dX7_owesOf_5 : nv_daload qX7_owesOf 5 0 6 := Or.inr ⟨0, rfl, by decide +kernel, rfl⟩
theorem dX7_owesOf_6 : nv_diload qX7_owesOf 6 2 7 := Or.inr ⟨2, rfl, by decide +kernel, rfl⟩
theorem dX7_owesOf_7 : nv_dc qX7_owesOf 7 (.invokevirtual 280) 3 10 := ⟨by decide +kernel, rfl⟩
theorem dX7_owesOf_10 : decode qX7_owesOf.2.1 10 = .ok (.ireturn, 1) := by decide +kernel
def pm_owesOf (h : nv_Hp) (x1 : Int32) (x2 : Int32) : Option (Int32 × nv_Hp) := (Option.bind (pm_goes h x1) fun q1 => (Option.bind (pm_owesNow q1 x2) fun q2 => some (q2.1, q2.2)))
set_option maxHeartbeats 2000000 in
theorem tm_owesOf (G : nv_G) (h : nv_Hp) (x1 : Int32) (hx1 : nv_inb x1 2 = true) (x2 : Int32) (hx2 : nv_inb x2 10 = true) {r : Int32 × nv_Hp} (hf : (pm_owesOf h x1 x2) = some r) : nv_Mt G 6 qX7_owesOf [.ref 73, .int x1, .int x2] (nv_s h) (some (.int r.1), nv_s r.2) := by
  refine nv_of (by decide +kernel) (fun ad => Nat.le_of_ble_eq_true rfl) (Nat.le_refl _) (Nat.le_of_ble_eq_true rfl) ?_
  show nv_E G 6 qX7_owesOf 0 [some (.ref 73), some (.int x1), some (.int x2)] [] (nv_s h) (some (.int r.1), nv_s r.2)
  unfold pm_owesOf at hf
  refine nv_aL dX7_owesOf_0 rfl ?_
  refine nv_iL dX7_owesOf_1 rfl ?_
  obtain ⟨q1, hq1, hf⟩ := nv_bd hf
  refine nv_cVv (tm_goes G h x1 hx1 hq1) dX7_owesOf_2 lm_X7_268 y_qX7_goes ko_73 rfl rfl (by decide) rfl (Nat.le_of_ble_eq_true rfl) ?_
  refine nv_aL dX7_owesOf_5 rfl ?_
  refine nv_iL dX7_owesOf_6 rfl ?_
  obtain ⟨q2, hq2, hf⟩ := nv_bd hf
  refine nv_cVi (tm_owesNow G q1 x2 hx2 hq2) dX7_owesOf_7 lm_X7_280 y_qX7_owesNow ko_73 rfl rfl (by decide) rfl (Nat.le_of_ble_eq_true rfl) ?_
  obtain rfl := Option.some.inj hf
  exact nv_ireturnI dX7_owesOf_10 rfl
/-! WhoseNameModel.owes -/
theorem dX7_owes_0 : nv_diload qX7_owes 0 1 1 := Or.inr ⟨1, rfl, by decide +kernel, rfl⟩
theorem dX7_owes_1 : nv_dc qX7_owes 1 (.invokestatic 171) 3 4 := ⟨by decide +kernel, rfl⟩
theorem dX7_owes_4 : nv_dif qX7_owes 4 .eq 24 7 := ⟨20, by decide +kernel, by decide, rfl⟩
theorem dX7_owes_7 : nv_daload qX7_owes 7 0 8 := Or.inr ⟨0, rfl, by decide +kernel, rfl⟩
theorem dX7_owes_8 : nv_diload qX7_owes 8 2 9 := Or.inr ⟨2, rfl, by decide +kernel, rfl⟩
theorem dX7_owes_9 : nv_dc qX7_owes 9 (.invokevirtual 204) 3 12 := ⟨by decide +kernel, rfl⟩
theorem dX7_owes_12 : nv_dif qX7_owes 12 .eq 24 15 := ⟨12, by decide +kernel, by decide, rfl⟩
theorem dX7_owes_15 : nv_daload qX7_owes 15 0 16 := Or.inr ⟨0, rfl, by decide +kernel, rfl⟩
theorem dX7_owes_16 : nv_diload qX7_owes 16 1 17 := Or.inr ⟨1, rfl, by decide +kernel, rfl⟩
theorem dX7_owes_17 : nv_diload qX7_owes 17 2 18 := Or.inr ⟨2, rfl, by decide +kernel, rfl⟩
theorem dX7_owes_18 : nv_dc qX7_owes 18 (.invokevirtual 283) 3 21 := ⟨by decide +kernel, rfl⟩
theorem dX7_owes_21 : nv_dgo qX7_owes 21 26 := ⟨5, by decide +kernel, by decide⟩
theorem dX7_owes_24 : nv_dk qX7_owes 24 (-2) 26 := Or.inr (Or.inl ⟨(-2), ⟨by decide +kernel, rfl⟩, by decide⟩)
theorem dX7_owes_26 : decode qX7_owes.2.1 26 = .ok (.ireturn, 1) := by decide +kernel
def pm_owes (h : nv_Hp) (x1 : Int32) (x2 : Int32) : Option (Int32 × nv_Hp) := (if (pm_isTwo x1) = true then (if (pm_isBargain h x2) = true then (if nv_inb x1 2 = true then (if nv_inb x2 10 = true then (Option.bind (pm_owesOf h x1 x2) fun q5 => some (q5.1, q5.2)) else none) else none) else some ((-2), h)) else some ((-2), h))
set_option maxHeartbeats 2000000 in
theorem tm_owes (G : nv_G) (h : nv_Hp) (x1 : Int32) (x2 : Int32) {r : Int32 × nv_Hp} (hf : (pm_owes h x1 x2) = some r) : nv_Mt G 7 qX7_owes [.ref 73, .int x1, .int x2] (nv_s h) (some (.int r.1), nv_s r.2) := by
  refine nv_of (by decide +kernel) (fun ad => Nat.le_of_ble_eq_true rfl) (Nat.le_refl _) (Nat.le_of_ble_eq_true rfl) ?_
  show nv_E G 7 qX7_owes 0 [some (.ref 73), some (.int x1), some (.int x2)] [] (nv_s h) (some (.int r.1), nv_s r.2)
  unfold pm_owes at hf
  refine nv_iL dX7_owes_0 rfl ?_
  refine nv_cSi (tm_isTwo G h x1) dX7_owes_1 lm_X7_171 y_qX7_isTwo rfl (by decide) rfl (Nat.le_of_ble_eq_true rfl) ?_
  refine nv_ifeqB dX7_owes_4 (fun c1 => ?_) (fun c1 => ?_)
  · replace hf := nv_ip c1 hf
    refine nv_aL dX7_owes_7 rfl ?_
    refine nv_iL dX7_owes_8 rfl ?_
    refine nv_cVi (tm_isBargain G h x2) dX7_owes_9 lm_X7_204 y_qX7_isBargain ko_73 rfl rfl (by decide) rfl (Nat.le_of_ble_eq_true rfl) ?_
    refine nv_ifeqB dX7_owes_12 (fun c2 => ?_) (fun c2 => ?_)
    · replace hf := nv_ip c2 hf
      refine nv_aL dX7_owes_15 rfl ?_
      refine nv_iL dX7_owes_16 rfl ?_
      refine nv_iL dX7_owes_17 rfl ?_
      obtain ⟨g3, hf⟩ := nv_gd hf
      obtain ⟨g4, hf⟩ := nv_gd hf
      obtain ⟨q5, hq5, hf⟩ := nv_bd hf
      refine nv_cVi (tm_owesOf G h x1 g3 x2 g4 hq5) dX7_owes_18 lm_X7_283 y_qX7_owesOf ko_73 rfl rfl (by decide) rfl (Nat.le_of_ble_eq_true rfl) ?_
      refine nv_goto dX7_owes_21 ?_
      obtain rfl := Option.some.inj hf
      exact nv_ireturnI dX7_owes_26 rfl
    · replace hf := nv_in c2 hf
      refine nv_k dX7_owes_24 ?_
      obtain rfl := Option.some.inj hf
      exact nv_ireturnI dX7_owes_26 rfl
  · replace hf := nv_in c1 hf
    refine nv_k dX7_owes_24 ?_
    obtain rfl := Option.some.inj hf
    exact nv_ireturnI dX7_owes_26 rfl
/-! WhoseNameModel.pays -/
theorem dX7_pays_0 : nv_daload qX7_pays 0 0 1 := Or.inr ⟨0, rfl, by decide +kernel, rfl⟩
theorem dX7_pays_1 : nv_diload qX7_pays 1 1 2 := Or.inr ⟨1, rfl, by decide +kernel, rfl⟩
theorem dX7_pays_2 : nv_diload qX7_pays 2 2 3 := Or.inr ⟨2, rfl, by decide +kernel, rfl⟩
theorem dX7_pays_3 : nv_dc qX7_pays 3 (.invokevirtual 277) 3 6 := ⟨by decide +kernel, rfl⟩
theorem dX7_pays_6 : nv_distore qX7_pays 6 4 8 := Or.inl ⟨by decide +kernel, rfl⟩
theorem dX7_pays_8 : nv_diload qX7_pays 8 4 10 := Or.inl ⟨by decide +kernel, rfl⟩
theorem dX7_pays_10 : nv_dif qX7_pays 10 .ne 17 13 := ⟨7, by decide +kernel, by decide, rfl⟩
theorem dX7_pays_13 : nv_dk qX7_pays 13 0 14 := Or.inl ⟨0, ⟨by decide +kernel, rfl⟩, by decide⟩
theorem dX7_pays_14 : nv_dgo qX7_pays 14 37 := ⟨23, by decide +kernel, by decide⟩
theorem dX7_pays_17 : nv_diload qX7_pays 17 3 18 := Or.inr ⟨3, rfl, by decide +kernel, rfl⟩
theorem dX7_pays_18 : nv_daload qX7_pays 18 0 19 := Or.inr ⟨0, rfl, by decide +kernel, rfl⟩
theorem dX7_pays_19 : nv_dc qX7_pays 19 (.getfield 115) 3 22 := ⟨by decide +kernel, rfl⟩
theorem dX7_pays_22 : nv_diload qX7_pays 22 2 23 := Or.inr ⟨2, rfl, by decide +kernel, rfl⟩
theorem dX7_pays_23 : nv_dc qX7_pays 23 (.iaload) 1 24 := ⟨by decide +kernel, rfl⟩
theorem dX7_pays_24 : nv_dic qX7_pays 24 .ge 31 27 := ⟨7, by decide +kernel, by decide, rfl⟩
theorem dX7_pays_27 : nv_diload qX7_pays 27 3 28 := Or.inr ⟨3, rfl, by decide +kernel, rfl⟩
theorem dX7_pays_28 : nv_dgo qX7_pays 28 37 := ⟨9, by decide +kernel, by decide⟩
theorem dX7_pays_31 : nv_daload qX7_pays 31 0 32 := Or.inr ⟨0, rfl, by decide +kernel, rfl⟩
theorem dX7_pays_32 : nv_dc qX7_pays 32 (.getfield 115) 3 35 := ⟨by decide +kernel, rfl⟩
theorem dX7_pays_35 : nv_diload qX7_pays 35 2 36 := Or.inr ⟨2, rfl, by decide +kernel, rfl⟩
theorem dX7_pays_36 : nv_dc qX7_pays 36 (.iaload) 1 37 := ⟨by decide +kernel, rfl⟩
theorem dX7_pays_37 : nv_distore qX7_pays 37 5 39 := Or.inl ⟨by decide +kernel, rfl⟩
theorem dX7_pays_39 : nv_daload qX7_pays 39 0 40 := Or.inr ⟨0, rfl, by decide +kernel, rfl⟩
theorem dX7_pays_40 : nv_dc qX7_pays 40 (.getfield 115) 3 43 := ⟨by decide +kernel, rfl⟩
theorem dX7_pays_43 : nv_diload qX7_pays 43 2 44 := Or.inr ⟨2, rfl, by decide +kernel, rfl⟩
theorem dX7_pays_44 : nv_dc qX7_pays 44 (.dup2) 1 45 := ⟨by decide +kernel, rfl⟩
theorem dX7_pays_45 : nv_dc qX7_pays 45 (.iaload) 1 46 := ⟨by decide +kernel, rfl⟩
theorem dX7_pays_46 : nv_diload qX7_pays 46 5 48 := Or.inl ⟨by decide +kernel, rfl⟩
theorem dX7_pays_48 : nv_dc qX7_pays 48 (.isub) 1 49 := ⟨by decide +kernel, rfl⟩
theorem dX7_pays_49 : nv_dc qX7_pays 49 (.iastore) 1 50 := ⟨by decide +kernel, rfl⟩
theorem dX7_pays_50 : nv_daload qX7_pays 50 0 51 := Or.inr ⟨0, rfl, by decide +kernel, rfl⟩
theorem dX7_pays_51 : nv_dc qX7_pays 51 (.getfield 115) 3 54 := ⟨by decide +kernel, rfl⟩
theorem dX7_pays_54 : nv_daload qX7_pays 54 0 55 := Or.inr ⟨0, rfl, by decide +kernel, rfl⟩
theorem dX7_pays_55 : nv_dc qX7_pays 55 (.getfield 76) 3 58 := ⟨by decide +kernel, rfl⟩
theorem dX7_pays_58 : nv_diload qX7_pays 58 1 59 := Or.inr ⟨1, rfl, by decide +kernel, rfl⟩
theorem dX7_pays_59 : nv_dc qX7_pays 59 (.iaload) 1 60 := ⟨by decide +kernel, rfl⟩
theorem dX7_pays_60 : nv_dc qX7_pays 60 (.dup2) 1 61 := ⟨by decide +kernel, rfl⟩
theorem dX7_pays_61 : nv_dc qX7_pays 61 (.iaload) 1 62 := ⟨by decide +kernel, rfl⟩
theorem dX7_pays_62 : nv_diload qX7_pays 62 5 64 := Or.inl ⟨by decide +kernel, rfl⟩
theorem dX7_pays_64 : nv_dc qX7_pays 64 (.iadd) 1 65 := ⟨by decide +kernel, rfl⟩
theorem dX7_pays_65 : nv_dc qX7_pays 65 (.iastore) 1 66 := ⟨by decide +kernel, rfl⟩
theorem dX7_pays_66 : nv_diload qX7_pays 66 5 68 := Or.inl ⟨by decide +kernel, rfl⟩
theorem dX7_pays_68 : decode qX7_pays.2.1 68 = .ok (.ireturn, 1) := by decide +kernel
def pm_pays_37 (h : nv_Hp) (x1 : Int32) (x2 : Int32) (s0 : Int32)  : Option (Int32 × nv_Hp) := (nv_lt (nv_up h 109 x2.toNatClampNeg ((h 109 x2.toNatClampNeg) - s0)) fun h1 => (if nv_inb (h1 96 x1.toNatClampNeg) 8 = true then (nv_lt (nv_up h1 109 (h1 96 x1.toNatClampNeg).toNatClampNeg ((h1 109 (h1 96 x1.toNatClampNeg).toNatClampNeg) + s0)) fun h3 => some (s0, h3)) else none))
set_option maxHeartbeats 2000000 in
theorem tm_pays_37 (G : nv_G) (h : nv_Hp) (x1 : Int32) (hx1 : nv_inb x1 10 = true) (x2 : Int32) (hx2 : nv_inb x2 8 = true) (s0 : Int32)  (o3 o4 o5 : Option Value) (r : Int32 × nv_Hp) (hf : pm_pays_37 h x1 x2 s0 = some r) : nv_E G 6 qX7_pays 37 [some (.ref 73), some (.int x1), some (.int x2), o3, o4, o5] [.int s0] (nv_s h) (some (.int r.1), nv_s r.2) := by
  unfold pm_pays_37 at hf
  refine nv_wk 4 rfl ?_
  refine nv_iS dX7_pays_37 (by decide) rfl rfl ?_
  refine nv_aL dX7_pays_39 rfl ?_
  refine nv_tR lf_X7_115 dX7_pays_40 ko_73 rfl ?_
  refine nv_iL dX7_pays_43 rfl ?_
  refine nv_dup2 dX7_pays_44 rfl rfl ?_
  refine nv_aI dX7_pays_45 ka_109 hx2 rfl ?_
  refine nv_iL dX7_pays_46 rfl ?_
  refine nv_isub dX7_pays_48 ?_
  refine nv_aP dX7_pays_49 ka_109 hx2 rfl ?_
  obtain ⟨h1, eh1, hf⟩ := nv_ltX hf
  rw [eh1]
  clear eh1
  refine nv_aL dX7_pays_50 rfl ?_
  refine nv_tR lf_X7_115 dX7_pays_51 ko_73 rfl ?_
  refine nv_aL dX7_pays_54 rfl ?_
  refine nv_tR lf_X7_76 dX7_pays_55 ko_73 rfl ?_
  refine nv_iL dX7_pays_58 rfl ?_
  refine nv_aI dX7_pays_59 ka_96 hx1 rfl ?_
  refine nv_dup2 dX7_pays_60 rfl rfl ?_
  obtain ⟨g2, hf⟩ := nv_gd hf
  refine nv_aI dX7_pays_61 ka_109 g2 rfl ?_
  refine nv_iL dX7_pays_62 rfl ?_
  refine nv_iadd dX7_pays_64 ?_
  refine nv_aP dX7_pays_65 ka_109 g2 rfl ?_
  obtain ⟨h3, eh3, hf⟩ := nv_ltX hf
  rw [eh3]
  clear eh3
  refine nv_iL dX7_pays_66 rfl ?_
  obtain rfl := Option.some.inj hf
  exact nv_ireturnI dX7_pays_68 rfl
def pm_pays (h : nv_Hp) (x1 : Int32) (x2 : Int32) (x3 : Int32) : Option (Int32 × nv_Hp) := (Option.bind (pm_askNow h x1 x2) fun q1 => (pm_pays_37 q1.2 x1 x2 (if q1.1 = 0 then 0 else (if (q1.2 109 x2.toNatClampNeg) ≤ x3 then (q1.2 109 x2.toNatClampNeg) else x3))))
set_option maxHeartbeats 2000000 in
theorem tm_pays (G : nv_G) (h : nv_Hp) (x1 : Int32) (hx1 : nv_inb x1 10 = true) (x2 : Int32) (hx2 : nv_inb x2 8 = true) (x3 : Int32) {r : Int32 × nv_Hp} (hf : (pm_pays h x1 x2 x3) = some r) : nv_Mt G 6 qX7_pays [.ref 73, .int x1, .int x2, .int x3] (nv_s h) (some (.int r.1), nv_s r.2) := by
  refine nv_of (by decide +kernel) (fun ad => Nat.le_of_ble_eq_true rfl) (Nat.le_refl _) (Nat.le_of_ble_eq_true rfl) ?_
  show nv_E G 6 qX7_pays 0 [some (.ref 73), some (.int x1), some (.int x2), some (.int x3), none, none] [] (nv_s h) (some (.int r.1), nv_s r.2)
  unfold pm_pays at hf
  refine nv_aL dX7_pays_0 rfl ?_
  refine nv_iL dX7_pays_1 rfl ?_
  refine nv_iL dX7_pays_2 rfl ?_
  obtain ⟨q1, hq1, hf⟩ := nv_bd hf
  refine nv_cVi (tm_askNow G h x1 hx1 x2 hq1) dX7_pays_3 lm_X7_277 y_qX7_askNow ko_73 rfl rfl (by decide) rfl (Nat.le_of_ble_eq_true rfl) ?_
  refine nv_iS dX7_pays_6 (by decide) rfl rfl ?_
  refine nv_iL dX7_pays_8 rfl ?_
  refine nv_ifne dX7_pays_10 (fun c2 => ?_) (fun c2 => ?_)
  · try simp only [if_pos c2] at hf
    refine nv_k dX7_pays_13 ?_
    refine nv_goto dX7_pays_14 ?_
    exact tm_pays_37 G _ _ hx1 _ hx2 _ _ _ _ _ hf
  · try simp only [if_neg c2] at hf
    refine nv_iL dX7_pays_17 rfl ?_
    refine nv_aL dX7_pays_18 rfl ?_
    refine nv_tR lf_X7_115 dX7_pays_19 ko_73 rfl ?_
    refine nv_iL dX7_pays_22 rfl ?_
    refine nv_aI dX7_pays_23 ka_109 hx2 rfl ?_
    refine nv_icge dX7_pays_24 (fun c3 => ?_) (fun c3 => ?_)
    · try simp only [if_pos c3] at hf
      refine nv_aL dX7_pays_31 rfl ?_
      refine nv_tR lf_X7_115 dX7_pays_32 ko_73 rfl ?_
      refine nv_iL dX7_pays_35 rfl ?_
      refine nv_aI dX7_pays_36 ka_109 hx2 rfl ?_
      exact tm_pays_37 G _ _ hx1 _ hx2 _ _ _ _ _ hf
    · try simp only [if_neg c3] at hf
      refine nv_iL dX7_pays_27 rfl ?_
      refine nv_goto dX7_pays_28 ?_
      exact tm_pays_37 G _ _ hx1 _ hx2 _ _ _ _ _ hf
/-! WhoseNameModel.settles -/
theorem dX7_settles_0 : nv_daload qX7_settles 0 0 1 := Or.inr ⟨0, rfl, by decide +kernel, rfl⟩
theorem dX7_settles_1 : nv_dc qX7_settles 1 (.getfield 70) 3 4 := ⟨by decide +kernel, rfl⟩
theorem dX7_settles_4 : nv_diload qX7_settles 4 1 5 := Or.inr ⟨1, rfl, by decide +kernel, rfl⟩
theorem dX7_settles_5 : nv_dc qX7_settles 5 (.iaload) 1 6 := ⟨by decide +kernel, rfl⟩
theorem dX7_settles_6 : nv_distore qX7_settles 6 2 7 := Or.inr ⟨2, rfl, by decide +kernel, rfl⟩
theorem dX7_settles_7 : nv_daload qX7_settles 7 0 8 := Or.inr ⟨0, rfl, by decide +kernel, rfl⟩
theorem dX7_settles_8 : nv_diload qX7_settles 8 1 9 := Or.inr ⟨1, rfl, by decide +kernel, rfl⟩
theorem dX7_settles_9 : nv_dc qX7_settles 9 (.invokevirtual 271) 3 12 := ⟨by decide +kernel, rfl⟩
theorem dX7_settles_12 : nv_dk qX7_settles 12 1 13 := Or.inl ⟨1, ⟨by decide +kernel, rfl⟩, by decide⟩
theorem dX7_settles_13 : nv_diload qX7_settles 13 2 14 := Or.inr ⟨2, rfl, by decide +kernel, rfl⟩
theorem dX7_settles_14 : nv_dc qX7_settles 14 (.ishl) 1 15 := ⟨by decide +kernel, rfl⟩
theorem dX7_settles_15 : nv_dk qX7_settles 15 (-1) 16 := Or.inl ⟨(-1), ⟨by decide +kernel, rfl⟩, by decide⟩
theorem dX7_settles_16 : nv_dc qX7_settles 16 (.ixor) 1 17 := ⟨by decide +kernel, rfl⟩
theorem dX7_settles_17 : nv_dc qX7_settles 17 (.iand) 1 18 := ⟨by decide +kernel, rfl⟩
theorem dX7_settles_18 : nv_distore qX7_settles 18 3 19 := Or.inr ⟨3, rfl, by decide +kernel, rfl⟩
theorem dX7_settles_19 : nv_dk qX7_settles 19 0 20 := Or.inl ⟨0, ⟨by decide +kernel, rfl⟩, by decide⟩
theorem dX7_settles_20 : nv_distore qX7_settles 20 4 22 := Or.inl ⟨by decide +kernel, rfl⟩
theorem dX7_settles_22 : nv_dk qX7_settles 22 0 23 := Or.inl ⟨0, ⟨by decide +kernel, rfl⟩, by decide⟩
theorem dX7_settles_23 : nv_distore qX7_settles 23 5 25 := Or.inl ⟨by decide +kernel, rfl⟩
theorem dX7_settles_25 : nv_diload qX7_settles 25 5 27 := Or.inl ⟨by decide +kernel, rfl⟩
theorem dX7_settles_27 : nv_dk qX7_settles 27 8 29 := Or.inr (Or.inl ⟨8, ⟨by decide +kernel, rfl⟩, by decide⟩)
theorem dX7_settles_29 : nv_dic qX7_settles 29 .ge 63 32 := ⟨34, by decide +kernel, by decide, rfl⟩
theorem dX7_settles_32 : nv_daload qX7_settles 32 0 33 := Or.inr ⟨0, rfl, by decide +kernel, rfl⟩
theorem dX7_settles_33 : nv_diload qX7_settles 33 1 34 := Or.inr ⟨1, rfl, by decide +kernel, rfl⟩
theorem dX7_settles_34 : nv_diload qX7_settles 34 5 36 := Or.inl ⟨by decide +kernel, rfl⟩
theorem dX7_settles_36 : nv_dc qX7_settles 36 (.invokevirtual 277) 3 39 := ⟨by decide +kernel, rfl⟩
theorem dX7_settles_39 : nv_distore qX7_settles 39 6 41 := Or.inl ⟨by decide +kernel, rfl⟩
theorem dX7_settles_41 : nv_diload qX7_settles 41 6 43 := Or.inl ⟨by decide +kernel, rfl⟩
theorem dX7_settles_43 : nv_diload qX7_settles 43 4 45 := Or.inl ⟨by decide +kernel, rfl⟩
theorem dX7_settles_45 : nv_dic qX7_settles 45 .le 53 48 := ⟨8, by decide +kernel, by decide, rfl⟩
theorem dX7_settles_48 : nv_diload qX7_settles 48 6 50 := Or.inl ⟨by decide +kernel, rfl⟩
theorem dX7_settles_50 : nv_dgo qX7_settles 50 55 := ⟨5, by decide +kernel, by decide⟩
theorem dX7_settles_53 : nv_diload qX7_settles 53 4 55 := Or.inl ⟨by decide +kernel, rfl⟩
theorem dX7_settles_55 : nv_distore qX7_settles 55 4 57 := Or.inl ⟨by decide +kernel, rfl⟩
theorem dX7_settles_57 : nv_dc qX7_settles 57 (.iinc 5 1) 3 60 := ⟨by decide +kernel, rfl⟩
theorem dX7_settles_60 : nv_dgo qX7_settles 60 25 := ⟨(-35), by decide +kernel, by decide⟩
theorem dX7_settles_63 : nv_diload qX7_settles 63 4 65 := Or.inl ⟨by decide +kernel, rfl⟩
theorem dX7_settles_65 : nv_distore qX7_settles 65 5 67 := Or.inl ⟨by decide +kernel, rfl⟩
theorem dX7_settles_67 : nv_dk qX7_settles 67 0 68 := Or.inl ⟨0, ⟨by decide +kernel, rfl⟩, by decide⟩
theorem dX7_settles_68 : nv_distore qX7_settles 68 6 70 := Or.inl ⟨by decide +kernel, rfl⟩
theorem dX7_settles_70 : nv_dk qX7_settles 70 (-1) 71 := Or.inl ⟨(-1), ⟨by decide +kernel, rfl⟩, by decide⟩
theorem dX7_settles_71 : nv_distore qX7_settles 71 7 73 := Or.inl ⟨by decide +kernel, rfl⟩
theorem dX7_settles_73 : nv_dk qX7_settles 73 7 75 := Or.inr (Or.inl ⟨7, ⟨by decide +kernel, rfl⟩, by decide⟩)
theorem dX7_settles_75 : nv_distore qX7_settles 75 8 77 := Or.inl ⟨by decide +kernel, rfl⟩
theorem dX7_settles_77 : nv_diload qX7_settles 77 8 79 := Or.inl ⟨by decide +kernel, rfl⟩
theorem dX7_settles_79 : nv_dif qX7_settles 79 .lt 107 82 := ⟨28, by decide +kernel, by decide, rfl⟩
theorem dX7_settles_82 : nv_diload qX7_settles 82 3 83 := Or.inr ⟨3, rfl, by decide +kernel, rfl⟩
theorem dX7_settles_83 : nv_diload qX7_settles 83 8 85 := Or.inl ⟨by decide +kernel, rfl⟩
theorem dX7_settles_85 : nv_dc qX7_settles 85 (.ishr) 1 86 := ⟨by decide +kernel, rfl⟩
theorem dX7_settles_86 : nv_dk qX7_settles 86 1 87 := Or.inl ⟨1, ⟨by decide +kernel, rfl⟩, by decide⟩
theorem dX7_settles_87 : nv_dc qX7_settles 87 (.iand) 1 88 := ⟨by decide +kernel, rfl⟩
theorem dX7_settles_88 : nv_dk qX7_settles 88 1 89 := Or.inl ⟨1, ⟨by decide +kernel, rfl⟩, by decide⟩
theorem dX7_settles_89 : nv_dic qX7_settles 89 .ne 97 92 := ⟨8, by decide +kernel, by decide, rfl⟩
theorem dX7_settles_92 : nv_diload qX7_settles 92 8 94 := Or.inl ⟨by decide +kernel, rfl⟩
theorem dX7_settles_94 : nv_dgo qX7_settles 94 99 := ⟨5, by decide +kernel, by decide⟩
theorem dX7_settles_97 : nv_diload qX7_settles 97 7 99 := Or.inl ⟨by decide +kernel, rfl⟩
theorem dX7_settles_99 : nv_distore qX7_settles 99 7 101 := Or.inl ⟨by decide +kernel, rfl⟩
theorem dX7_settles_101 : nv_dc qX7_settles 101 (.iinc 8 (-1)) 3 104 := ⟨by decide +kernel, rfl⟩
theorem dX7_settles_104 : nv_dgo qX7_settles 104 77 := ⟨(-27), by decide +kernel, by decide⟩
theorem dX7_settles_107 : nv_dk qX7_settles 107 0 108 := Or.inl ⟨0, ⟨by decide +kernel, rfl⟩, by decide⟩
theorem dX7_settles_108 : nv_distore qX7_settles 108 8 110 := Or.inl ⟨by decide +kernel, rfl⟩
theorem dX7_settles_110 : nv_diload qX7_settles 110 8 112 := Or.inl ⟨by decide +kernel, rfl⟩
theorem dX7_settles_112 : nv_dk qX7_settles 112 8 114 := Or.inr (Or.inl ⟨8, ⟨by decide +kernel, rfl⟩, by decide⟩)
theorem dX7_settles_114 : nv_dic qX7_settles 114 .ge 154 117 := ⟨40, by decide +kernel, by decide, rfl⟩
theorem dX7_settles_117 : nv_diload qX7_settles 117 8 119 := Or.inl ⟨by decide +kernel, rfl⟩
theorem dX7_settles_119 : nv_diload qX7_settles 119 2 120 := Or.inr ⟨2, rfl, by decide +kernel, rfl⟩
theorem dX7_settles_120 : nv_dic qX7_settles 120 .eq 148 123 := ⟨28, by decide +kernel, by decide, rfl⟩
theorem dX7_settles_123 : nv_daload qX7_settles 123 0 124 := Or.inr ⟨0, rfl, by decide +kernel, rfl⟩
theorem dX7_settles_124 : nv_diload qX7_settles 124 1 125 := Or.inr ⟨1, rfl, by decide +kernel, rfl⟩
theorem dX7_settles_125 : nv_diload qX7_settles 125 8 127 := Or.inl ⟨by decide +kernel, rfl⟩
theorem dX7_settles_127 : nv_diload qX7_settles 127 5 129 := Or.inl ⟨by decide +kernel, rfl⟩
theorem dX7_settles_129 : nv_dc qX7_settles 129 (.invokevirtual 286) 3 132 := ⟨by decide +kernel, rfl⟩
theorem dX7_settles_132 : nv_distore qX7_settles 132 9 134 := Or.inl ⟨by decide +kernel, rfl⟩
theorem dX7_settles_134 : nv_diload qX7_settles 134 5 136 := Or.inl ⟨by decide +kernel, rfl⟩
theorem dX7_settles_136 : nv_diload qX7_settles 136 9 138 := Or.inl ⟨by decide +kernel, rfl⟩
theorem dX7_settles_138 : nv_dc qX7_settles 138 (.isub) 1 139 := ⟨by decide +kernel, rfl⟩
theorem dX7_settles_139 : nv_distore qX7_settles 139 5 141 := Or.inl ⟨by decide +kernel, rfl⟩
theorem dX7_settles_141 : nv_diload qX7_settles 141 6 143 := Or.inl ⟨by decide +kernel, rfl⟩
theorem dX7_settles_143 : nv_diload qX7_settles 143 9 145 := Or.inl ⟨by decide +kernel, rfl⟩
theorem dX7_settles_145 : nv_dc qX7_settles 145 (.iadd) 1 146 := ⟨by decide +kernel, rfl⟩
theorem dX7_settles_146 : nv_distore qX7_settles 146 6 148 := Or.inl ⟨by decide +kernel, rfl⟩
theorem dX7_settles_148 : nv_dc qX7_settles 148 (.iinc 8 1) 3 151 := ⟨by decide +kernel, rfl⟩
theorem dX7_settles_151 : nv_dgo qX7_settles 151 110 := ⟨(-41), by decide +kernel, by decide⟩
theorem dX7_settles_154 : nv_diload qX7_settles 154 5 156 := Or.inl ⟨by decide +kernel, rfl⟩
theorem dX7_settles_156 : nv_daload qX7_settles 156 0 157 := Or.inr ⟨0, rfl, by decide +kernel, rfl⟩
theorem dX7_settles_157 : nv_diload qX7_settles 157 1 158 := Or.inr ⟨1, rfl, by decide +kernel, rfl⟩
theorem dX7_settles_158 : nv_diload qX7_settles 158 2 159 := Or.inr ⟨2, rfl, by decide +kernel, rfl⟩
theorem dX7_settles_159 : nv_diload qX7_settles 159 5 161 := Or.inl ⟨by decide +kernel, rfl⟩
theorem dX7_settles_161 : nv_dc qX7_settles 161 (.invokevirtual 286) 3 164 := ⟨by decide +kernel, rfl⟩
theorem dX7_settles_164 : nv_dc qX7_settles 164 (.isub) 1 165 := ⟨by decide +kernel, rfl⟩
theorem dX7_settles_165 : nv_distore qX7_settles 165 5 167 := Or.inl ⟨by decide +kernel, rfl⟩
theorem dX7_settles_167 : nv_daload qX7_settles 167 0 168 := Or.inr ⟨0, rfl, by decide +kernel, rfl⟩
theorem dX7_settles_168 : nv_dc qX7_settles 168 (.getfield 118) 3 171 := ⟨by decide +kernel, rfl⟩
theorem dX7_settles_171 : nv_diload qX7_settles 171 1 172 := Or.inr ⟨1, rfl, by decide +kernel, rfl⟩
theorem dX7_settles_172 : nv_diload qX7_settles 172 5 174 := Or.inl ⟨by decide +kernel, rfl⟩
theorem dX7_settles_174 : nv_dc qX7_settles 174 (.iastore) 1 175 := ⟨by decide +kernel, rfl⟩
theorem dX7_settles_175 : nv_daload qX7_settles 175 0 176 := Or.inr ⟨0, rfl, by decide +kernel, rfl⟩
theorem dX7_settles_176 : nv_diload qX7_settles 176 1 177 := Or.inr ⟨1, rfl, by decide +kernel, rfl⟩
theorem dX7_settles_177 : nv_dc qX7_settles 177 (.invokevirtual 280) 3 180 := ⟨by decide +kernel, rfl⟩
theorem dX7_settles_180 : nv_distore qX7_settles 180 8 182 := Or.inl ⟨by decide +kernel, rfl⟩
theorem dX7_settles_182 : nv_diload qX7_settles 182 8 184 := Or.inl ⟨by decide +kernel, rfl⟩
theorem dX7_settles_184 : nv_diload qX7_settles 184 6 186 := Or.inl ⟨by decide +kernel, rfl⟩
theorem dX7_settles_186 : nv_dic qX7_settles 186 .le 194 189 := ⟨8, by decide +kernel, by decide, rfl⟩
theorem dX7_settles_189 : nv_diload qX7_settles 189 6 191 := Or.inl ⟨by decide +kernel, rfl⟩
theorem dX7_settles_191 : nv_dgo qX7_settles 191 196 := ⟨5, by decide +kernel, by decide⟩
theorem dX7_settles_194 : nv_diload qX7_settles 194 8 196 := Or.inl ⟨by decide +kernel, rfl⟩
theorem dX7_settles_196 : nv_distore qX7_settles 196 8 198 := Or.inl ⟨by decide +kernel, rfl⟩
theorem dX7_settles_198 : nv_diload qX7_settles 198 8 200 := Or.inl ⟨by decide +kernel, rfl⟩
theorem dX7_settles_200 : nv_daload qX7_settles 200 0 201 := Or.inr ⟨0, rfl, by decide +kernel, rfl⟩
theorem dX7_settles_201 : nv_dc qX7_settles 201 (.getfield 115) 3 204 := ⟨by decide +kernel, rfl⟩
theorem dX7_settles_204 : nv_diload qX7_settles 204 2 205 := Or.inr ⟨2, rfl, by decide +kernel, rfl⟩
theorem dX7_settles_205 : nv_dc qX7_settles 205 (.iaload) 1 206 := ⟨by decide +kernel, rfl⟩
theorem dX7_settles_206 : nv_dic qX7_settles 206 .le 218 209 := ⟨12, by decide +kernel, by decide, rfl⟩
theorem dX7_settles_209 : nv_daload qX7_settles 209 0 210 := Or.inr ⟨0, rfl, by decide +kernel, rfl⟩
theorem dX7_settles_210 : nv_dc qX7_settles 210 (.getfield 115) 3 213 := ⟨by decide +kernel, rfl⟩
theorem dX7_settles_213 : nv_diload qX7_settles 213 2 214 := Or.inr ⟨2, rfl, by decide +kernel, rfl⟩
theorem dX7_settles_214 : nv_dc qX7_settles 214 (.iaload) 1 215 := ⟨by decide +kernel, rfl⟩
theorem dX7_settles_215 : nv_dgo qX7_settles 215 220 := ⟨5, by decide +kernel, by decide⟩
theorem dX7_settles_218 : nv_diload qX7_settles 218 8 220 := Or.inl ⟨by decide +kernel, rfl⟩
theorem dX7_settles_220 : nv_distore qX7_settles 220 8 222 := Or.inl ⟨by decide +kernel, rfl⟩
theorem dX7_settles_222 : nv_diload qX7_settles 222 7 224 := Or.inl ⟨by decide +kernel, rfl⟩
theorem dX7_settles_224 : nv_dk qX7_settles 224 (-1) 225 := Or.inl ⟨(-1), ⟨by decide +kernel, rfl⟩, by decide⟩
theorem dX7_settles_225 : nv_dic qX7_settles 225 .eq 251 228 := ⟨26, by decide +kernel, by decide, rfl⟩
theorem dX7_settles_228 : nv_daload qX7_settles 228 0 229 := Or.inr ⟨0, rfl, by decide +kernel, rfl⟩
theorem dX7_settles_229 : nv_dc qX7_settles 229 (.getfield 115) 3 232 := ⟨by decide +kernel, rfl⟩
theorem dX7_settles_232 : nv_diload qX7_settles 232 2 233 := Or.inr ⟨2, rfl, by decide +kernel, rfl⟩
theorem dX7_settles_233 : nv_dc qX7_settles 233 (.dup2) 1 234 := ⟨by decide +kernel, rfl⟩
theorem dX7_settles_234 : nv_dc qX7_settles 234 (.iaload) 1 235 := ⟨by decide +kernel, rfl⟩
theorem dX7_settles_235 : nv_diload qX7_settles 235 8 237 := Or.inl ⟨by decide +kernel, rfl⟩
theorem dX7_settles_237 : nv_dc qX7_settles 237 (.isub) 1 238 := ⟨by decide +kernel, rfl⟩
theorem dX7_settles_238 : nv_dc qX7_settles 238 (.iastore) 1 239 := ⟨by decide +kernel, rfl⟩
theorem dX7_settles_239 : nv_daload qX7_settles 239 0 240 := Or.inr ⟨0, rfl, by decide +kernel, rfl⟩
theorem dX7_settles_240 : nv_dc qX7_settles 240 (.getfield 115) 3 243 := ⟨by decide +kernel, rfl⟩
theorem dX7_settles_243 : nv_diload qX7_settles 243 7 245 := Or.inl ⟨by decide +kernel, rfl⟩
theorem dX7_settles_245 : nv_dc qX7_settles 245 (.dup2) 1 246 := ⟨by decide +kernel, rfl⟩
theorem dX7_settles_246 : nv_dc qX7_settles 246 (.iaload) 1 247 := ⟨by decide +kernel, rfl⟩
theorem dX7_settles_247 : nv_diload qX7_settles 247 8 249 := Or.inl ⟨by decide +kernel, rfl⟩
theorem dX7_settles_249 : nv_dc qX7_settles 249 (.iadd) 1 250 := ⟨by decide +kernel, rfl⟩
theorem dX7_settles_250 : nv_dc qX7_settles 250 (.iastore) 1 251 := ⟨by decide +kernel, rfl⟩
theorem dX7_settles_251 : decode qX7_settles.2.1 251 = .ok (.return_, 1) := by decide +kernel
def pm_settles_220 (h : nv_Hp) (x2 : Int32) (x7 : Int32) (s0 : Int32)  : Option (nv_Hp) := (if x7 = (-1) then some h else (if nv_inb x2 8 = true then (nv_lt (nv_up h 109 x2.toNatClampNeg ((h 109 x2.toNatClampNeg) - s0)) fun h3 => (if nv_inb x7 8 = true then (nv_lt (nv_up h3 109 x7.toNatClampNeg ((h3 109 x7.toNatClampNeg) + s0)) fun h5 => some h5) else none)) else none))
set_option maxHeartbeats 2000000 in
theorem tm_settles_220 (G : nv_G) (h : nv_Hp) (x2 : Int32) (x7 : Int32) (s0 : Int32)  (o1 o3 o4 o5 o6 o8 o9 : Option Value) (r : nv_Hp) (hf : pm_settles_220 h x2 x7 s0 = some r) : nv_E G 7 qX7_settles 220 [some (.ref 73), o1, some (.int x2), o3, o4, o5, o6, some (.int x7), o8, o9] [.int s0] (nv_s h) (none, nv_s r) := by
  unfold pm_settles_220 at hf
  refine nv_iS dX7_settles_220 (by decide) rfl rfl ?_
  refine nv_iL dX7_settles_222 rfl ?_
  refine nv_k dX7_settles_224 ?_
  refine nv_iceq dX7_settles_225 (fun c1 => ?_) (fun c1 => ?_)
  · replace hf := nv_ip c1 hf
    obtain rfl := Option.some.inj hf
    exact nv_return dX7_settles_251 rfl
  · replace hf := nv_in c1 hf
    refine nv_aL dX7_settles_228 rfl ?_
    refine nv_tR lf_X7_115 dX7_settles_229 ko_73 rfl ?_
    refine nv_iL dX7_settles_232 rfl ?_
    refine nv_dup2 dX7_settles_233 rfl rfl ?_
    obtain ⟨g2, hf⟩ := nv_gd hf
    refine nv_aI dX7_settles_234 ka_109 g2 rfl ?_
    refine nv_iL dX7_settles_235 rfl ?_
    refine nv_isub dX7_settles_237 ?_
    refine nv_aP dX7_settles_238 ka_109 g2 rfl ?_
    obtain ⟨h3, eh3, hf⟩ := nv_ltX hf
    rw [eh3]
    clear eh3
    refine nv_aL dX7_settles_239 rfl ?_
    refine nv_tR lf_X7_115 dX7_settles_240 ko_73 rfl ?_
    refine nv_iL dX7_settles_243 rfl ?_
    refine nv_dup2 dX7_settles_245 rfl rfl ?_
    obtain ⟨g4, hf⟩ := nv_gd hf
    refine nv_aI dX7_settles_246 ka_109 g4 rfl ?_
    refine nv_iL dX7_settles_247 rfl ?_
    refine nv_iadd dX7_settles_249 ?_
    refine nv_aP dX7_settles_250 ka_109 g4 rfl ?_
    obtain ⟨h5, eh5, hf⟩ := nv_ltX hf
    rw [eh5]
    clear eh5
    obtain rfl := Option.some.inj hf
    exact nv_return dX7_settles_251 rfl
def pm_settles_196 (h : nv_Hp) (x2 : Int32) (x7 : Int32) (s0 : Int32)  : Option (nv_Hp) := (if nv_inb x2 8 = true then (pm_settles_220 h x2 x7 (if s0 ≤ (h 109 x2.toNatClampNeg) then s0 else (h 109 x2.toNatClampNeg))) else none)
set_option maxHeartbeats 2000000 in
theorem tm_settles_196 (G : nv_G) (h : nv_Hp) (x2 : Int32) (x7 : Int32) (s0 : Int32)  (o1 o3 o4 o5 o6 o8 o9 : Option Value) (r : nv_Hp) (hf : pm_settles_196 h x2 x7 s0 = some r) : nv_E G 7 qX7_settles 196 [some (.ref 73), o1, some (.int x2), o3, o4, o5, o6, some (.int x7), o8, o9] [.int s0] (nv_s h) (none, nv_s r) := by
  unfold pm_settles_196 at hf
  refine nv_iS dX7_settles_196 (by decide) rfl rfl ?_
  refine nv_iL dX7_settles_198 rfl ?_
  refine nv_aL dX7_settles_200 rfl ?_
  refine nv_tR lf_X7_115 dX7_settles_201 ko_73 rfl ?_
  refine nv_iL dX7_settles_204 rfl ?_
  obtain ⟨g1, hf⟩ := nv_gd hf
  refine nv_aI dX7_settles_205 ka_109 g1 rfl ?_
  refine nv_icle dX7_settles_206 (fun c2 => ?_) (fun c2 => ?_)
  · try simp only [if_pos c2] at hf
    refine nv_iL dX7_settles_218 rfl ?_
    exact tm_settles_220 G _ _ _ _ _ _ _ _ _ _ _ _ hf
  · try simp only [if_neg c2] at hf
    refine nv_aL dX7_settles_209 rfl ?_
    refine nv_tR lf_X7_115 dX7_settles_210 ko_73 rfl ?_
    refine nv_iL dX7_settles_213 rfl ?_
    refine nv_aI dX7_settles_214 ka_109 g1 rfl ?_
    refine nv_goto dX7_settles_215 ?_
    exact tm_settles_220 G _ _ _ _ _ _ _ _ _ _ _ _ hf
def pm_settles_110  (x1 : Int32) (x2 : Int32) (x7 : Int32)  : Nat → Int32 → Int32 → Int32 → nv_Hp → Option (nv_Hp)
  | 0, _, _, _, _ => none
  | n + 1, x5, x6, x8, h => (if 8 ≤ x8 then (if nv_inb x2 8 = true then (Option.bind (pm_pays h x1 x2 x5) fun q3 => (nv_lt ((x5 - q3.1)) fun v4 => (nv_lt (nv_up q3.2 110 x1.toNatClampNeg v4) fun h5 => (Option.bind (pm_owesNow h5 x1) fun q6 => (pm_settles_196 q6.2 x2 x7 (if q6.1 ≤ x6 then q6.1 else x6)))))) else none) else (Option.bind ((if x8 = x2 then some (x5, x6, h) else (if nv_inb x8 8 = true then (Option.bind (pm_pays h x1 x8 x5) fun q9 => some ((x5 - q9.1), (x6 + q9.1), q9.2)) else none)) : Option (Int32 × Int32 × nv_Hp)) fun u10 => (pm_settles_110 x1 x2 x7 n) u10.1 u10.2.1 (x8 + 1) u10.2.2))
set_option maxHeartbeats 2000000 in
theorem tm_settles_110 (G : nv_G)  (x1 : Int32) (hx1 : nv_inb x1 10 = true) (x2 : Int32) (x7 : Int32)  : ∀ (n : Nat) (x5 : Int32) (x6 : Int32) (x8 : Int32) (h : nv_Hp) (o3 o4 o9 : Option Value) (r : nv_Hp), pm_settles_110 x1 x2 x7 n x5 x6 x8 h = some r → nv_E G 7 qX7_settles 110 [some (.ref 73), some (.int x1), some (.int x2), o3, o4, some (.int x5), some (.int x6), some (.int x7), some (.int x8), o9] [] (nv_s h) (none, nv_s r) := by
  intro n
  induction n with
  | zero =>
    intro x5 x6 x8 h o3 o4 o9 r hf
    rw [pm_settles_110] at hf
    cases hf
  | succ n ih =>
    intro x5 x6 x8 h o3 o4 o9 r hf
    rw [pm_settles_110] at hf
    refine nv_iL dX7_settles_110 rfl ?_
    refine nv_k dX7_settles_112 ?_
    refine nv_icge dX7_settles_114 (fun c1 => ?_) (fun c1 => ?_)
    · replace hf := nv_ip c1 hf
      refine nv_iL dX7_settles_154 rfl ?_
      refine nv_aL dX7_settles_156 rfl ?_
      refine nv_iL dX7_settles_157 rfl ?_
      refine nv_iL dX7_settles_158 rfl ?_
      refine nv_iL dX7_settles_159 rfl ?_
      obtain ⟨g2, hf⟩ := nv_gd hf
      obtain ⟨q3, hq3, hf⟩ := nv_bd hf
      refine nv_cVi (tm_pays G h x1 hx1 x2 g2 x5 hq3) dX7_settles_161 lm_X7_286 y_qX7_pays ko_73 rfl rfl (by decide) rfl (Nat.le_of_ble_eq_true rfl) ?_
      refine nv_isub dX7_settles_164 ?_
      obtain ⟨v4, ev4, hf⟩ := nv_ltX hf
      rw [ev4]
      clear ev4
      refine nv_wk 4 rfl ?_
      refine nv_iS dX7_settles_165 (by decide) rfl rfl ?_
      refine nv_aL dX7_settles_167 rfl ?_
      refine nv_tR lf_X7_118 dX7_settles_168 ko_73 rfl ?_
      refine nv_iL dX7_settles_171 rfl ?_
      refine nv_iL dX7_settles_172 rfl ?_
      refine nv_aP dX7_settles_174 ka_110 hx1 rfl ?_
      obtain ⟨h5, eh5, hf⟩ := nv_ltX hf
      rw [eh5]
      clear eh5
      refine nv_aL dX7_settles_175 rfl ?_
      refine nv_iL dX7_settles_176 rfl ?_
      obtain ⟨q6, hq6, hf⟩ := nv_bd hf
      refine nv_cVi (tm_owesNow G h5 x1 hx1 hq6) dX7_settles_177 lm_X7_280 y_qX7_owesNow ko_73 rfl rfl (by decide) rfl (Nat.le_of_ble_eq_true rfl) ?_
      refine nv_iS dX7_settles_180 (by decide) rfl rfl ?_
      refine nv_iL dX7_settles_182 rfl ?_
      refine nv_iL dX7_settles_184 rfl ?_
      refine nv_icle dX7_settles_186 (fun c7 => ?_) (fun c7 => ?_)
      · try simp only [if_pos c7] at hf
        refine nv_iL dX7_settles_194 rfl ?_
        exact tm_settles_196 G _ _ _ _ _ _ _ _ _ _ _ _ hf
      · try simp only [if_neg c7] at hf
        refine nv_iL dX7_settles_189 rfl ?_
        refine nv_goto dX7_settles_191 ?_
        exact tm_settles_196 G _ _ _ _ _ _ _ _ _ _ _ _ hf
    · replace hf := nv_in c1 hf
      refine nv_iL dX7_settles_117 rfl ?_
      refine nv_iL dX7_settles_119 rfl ?_
      refine nv_iceq dX7_settles_120 (fun c11 => ?_) (fun c11 => ?_)
      · try simp only [if_pos c11, Option.bind_some] at hf
        refine nv_inc dX7_settles_148 rfl (v := 1) (by decide) (by decide) rfl rfl ?_
        refine nv_goto dX7_settles_151 ?_
        exact ih _ _ _ _ _ _ _ _ hf
      · try simp only [if_neg c11, Option.bind_some] at hf
        refine nv_aL dX7_settles_123 rfl ?_
        refine nv_iL dX7_settles_124 rfl ?_
        refine nv_iL dX7_settles_125 rfl ?_
        refine nv_iL dX7_settles_127 rfl ?_
        have g12 : nv_inb x8 8 = true := by
          by_cases g12 : nv_inb x8 8 = true
          · exact g12
          · exfalso; simp [if_neg g12] at hf
        simp only [if_pos g12, Option.bind_some] at hf
        obtain ⟨q13, hq13⟩ : ∃ q, pm_pays h x1 x8 x5 = some q := by
          cases hq13 : pm_pays h x1 x8 x5 with
          | none => exfalso; simp [hq13] at hf
          | some q => exact ⟨q, rfl⟩
        simp only [hq13, Option.bind_some] at hf
        refine nv_cVi (tm_pays G h x1 hx1 x8 g12 x5 hq13) dX7_settles_129 lm_X7_286 y_qX7_pays ko_73 rfl rfl (by decide) rfl (Nat.le_of_ble_eq_true rfl) ?_
        refine nv_iS dX7_settles_132 (by decide) rfl rfl ?_
        refine nv_iL dX7_settles_134 rfl ?_
        refine nv_iL dX7_settles_136 rfl ?_
        refine nv_isub dX7_settles_138 ?_
        refine nv_wk 4 rfl ?_
        refine nv_iS dX7_settles_139 (by decide) rfl rfl ?_
        refine nv_iL dX7_settles_141 rfl ?_
        refine nv_iL dX7_settles_143 rfl ?_
        refine nv_iadd dX7_settles_145 ?_
        refine nv_iS dX7_settles_146 (by decide) rfl rfl ?_
        refine nv_inc dX7_settles_148 rfl (v := 1) (by decide) (by decide) rfl rfl ?_
        refine nv_goto dX7_settles_151 ?_
        exact ih _ _ _ _ _ _ _ _ hf
def pm_settles_77 (h : nv_Hp) (x1 : Int32) (x2 : Int32) (x3 : Int32) (x5 : Int32) (x6 : Bool)  : Nat → Int32 → Int32 → Option (nv_Hp)
  | 0, _, _ => none
  | n + 1, x7, x8 => (if x8 < 0 then (pm_settles_110 x1 x2 x7 nv_fu x5 (nv_bi x6) 0 h) else ((pm_settles_77 h x1 x2 x3 x5 x6 n) (if ((x3 >>> (x8 &&& 31)) &&& 1) = 1 then x8 else x7) (x8 + (-1))))
set_option maxHeartbeats 2000000 in
theorem tm_settles_77 (G : nv_G) (h : nv_Hp) (x1 : Int32) (hx1 : nv_inb x1 10 = true) (x2 : Int32) (x3 : Int32) (x5 : Int32) (x6 : Bool)  : ∀ (n : Nat) (x7 : Int32) (x8 : Int32) (o4 o9 : Option Value) (r : nv_Hp), pm_settles_77 h x1 x2 x3 x5 x6 n x7 x8 = some r → nv_E G 7 qX7_settles 77 [some (.ref 73), some (.int x1), some (.int x2), some (.int x3), o4, some (.int x5), some (.int (nv_bi x6)), some (.int x7), some (.int x8), o9] [] (nv_s h) (none, nv_s r) := by
  intro n
  induction n with
  | zero =>
    intro x7 x8 o4 o9 r hf
    rw [pm_settles_77] at hf
    cases hf
  | succ n ih =>
    intro x7 x8 o4 o9 r hf
    rw [pm_settles_77] at hf
    refine nv_iL dX7_settles_77 rfl ?_
    refine nv_iflt dX7_settles_79 (fun c1 => ?_) (fun c1 => ?_)
    · replace hf := nv_ip c1 hf
      refine nv_k dX7_settles_107 ?_
      refine nv_iS dX7_settles_108 (by decide) rfl rfl ?_
      exact tm_settles_110 G _ hx1 _ _ _ _ _ _ _ _ _ _ _ hf
    · replace hf := nv_in c1 hf
      refine nv_iL dX7_settles_82 rfl ?_
      refine nv_iL dX7_settles_83 rfl ?_
      refine nv_ishr dX7_settles_85 ?_
      refine nv_k dX7_settles_86 ?_
      refine nv_iand dX7_settles_87 ?_
      refine nv_k dX7_settles_88 ?_
      refine nv_icne dX7_settles_89 (fun c2 => ?_) (fun c2 => ?_)
      · try simp only [if_pos c2] at hf
        refine nv_iL dX7_settles_92 rfl ?_
        refine nv_goto dX7_settles_94 ?_
        refine nv_iS dX7_settles_99 (by decide) rfl rfl ?_
        refine nv_inc dX7_settles_101 rfl (v := (-1)) (by decide) (by decide) rfl rfl ?_
        refine nv_goto dX7_settles_104 ?_
        exact ih _ _ _ _ _ hf
      · try simp only [if_neg c2] at hf
        refine nv_iL dX7_settles_97 rfl ?_
        refine nv_iS dX7_settles_99 (by decide) rfl rfl ?_
        refine nv_inc dX7_settles_101 rfl (v := (-1)) (by decide) (by decide) rfl rfl ?_
        refine nv_goto dX7_settles_104 ?_
        exact ih _ _ _ _ _ hf
def pm_settles_25  (x1 : Int32) (x2 : Int32) (x3 : Int32)  : Nat → Int32 → Int32 → nv_Hp → Option (nv_Hp)
  | 0, _, _, _ => none
  | n + 1, x4, x5, h => (if 8 ≤ x5 then (pm_settles_77 h x1 x2 x3 x4 false nv_fu (-1) 7) else (Option.bind (pm_askNow h x1 x5) fun q2 => ((pm_settles_25 x1 x2 x3 n) (if q2.1 ≤ x4 then x4 else q2.1) (x5 + 1) q2.2)))
set_option maxHeartbeats 2000000 in
theorem tm_settles_25 (G : nv_G)  (x1 : Int32) (hx1 : nv_inb x1 10 = true) (x2 : Int32) (x3 : Int32)  : ∀ (n : Nat) (x4 : Int32) (x5 : Int32) (h : nv_Hp) (o6 o7 o8 o9 : Option Value) (r : nv_Hp), pm_settles_25 x1 x2 x3 n x4 x5 h = some r → nv_E G 7 qX7_settles 25 [some (.ref 73), some (.int x1), some (.int x2), some (.int x3), some (.int x4), some (.int x5), o6, o7, o8, o9] [] (nv_s h) (none, nv_s r) := by
  intro n
  induction n with
  | zero =>
    intro x4 x5 h o6 o7 o8 o9 r hf
    rw [pm_settles_25] at hf
    cases hf
  | succ n ih =>
    intro x4 x5 h o6 o7 o8 o9 r hf
    rw [pm_settles_25] at hf
    refine nv_iL dX7_settles_25 rfl ?_
    refine nv_k dX7_settles_27 ?_
    refine nv_icge dX7_settles_29 (fun c1 => ?_) (fun c1 => ?_)
    · replace hf := nv_ip c1 hf
      refine nv_iL dX7_settles_63 rfl ?_
      refine nv_iS dX7_settles_65 (by decide) rfl rfl ?_
      refine nv_k dX7_settles_67 ?_
      refine nv_iS dX7_settles_68 (by decide) rfl rfl ?_
      refine nv_k dX7_settles_70 ?_
      refine nv_iS dX7_settles_71 (by decide) rfl rfl ?_
      refine nv_k dX7_settles_73 ?_
      refine nv_iS dX7_settles_75 (by decide) rfl rfl ?_
      exact tm_settles_77 G _ _ hx1 _ _ _ _ _ _ _ _ _ _ hf
    · replace hf := nv_in c1 hf
      refine nv_aL dX7_settles_32 rfl ?_
      refine nv_iL dX7_settles_33 rfl ?_
      refine nv_iL dX7_settles_34 rfl ?_
      obtain ⟨q2, hq2, hf⟩ := nv_bd hf
      refine nv_cVi (tm_askNow G h x1 hx1 x5 hq2) dX7_settles_36 lm_X7_277 y_qX7_askNow ko_73 rfl rfl (by decide) rfl (Nat.le_of_ble_eq_true rfl) ?_
      refine nv_iS dX7_settles_39 (by decide) rfl rfl ?_
      refine nv_iL dX7_settles_41 rfl ?_
      refine nv_iL dX7_settles_43 rfl ?_
      refine nv_icle dX7_settles_45 (fun c3 => ?_) (fun c3 => ?_)
      · try simp only [if_pos c3] at hf
        refine nv_iL dX7_settles_53 rfl ?_
        refine nv_iS dX7_settles_55 (by decide) rfl rfl ?_
        refine nv_inc dX7_settles_57 rfl (v := 1) (by decide) (by decide) rfl rfl ?_
        refine nv_goto dX7_settles_60 ?_
        exact ih _ _ _ _ _ _ _ _ hf
      · try simp only [if_neg c3] at hf
        refine nv_iL dX7_settles_48 rfl ?_
        refine nv_goto dX7_settles_50 ?_
        refine nv_iS dX7_settles_55 (by decide) rfl rfl ?_
        refine nv_inc dX7_settles_57 rfl (v := 1) (by decide) (by decide) rfl rfl ?_
        refine nv_goto dX7_settles_60 ?_
        exact ih _ _ _ _ _ _ _ _ hf
def pm_settles (h : nv_Hp) (x1 : Int32) : Option (nv_Hp) := (nv_lt ((h 94 x1.toNatClampNeg)) fun v1 => (Option.bind (pm_boundNow h x1) fun q2 => (nv_lt ((q2.1 &&& ((1 <<< (v1 &&& 31)) ^^^ (-1)))) fun v3 => (pm_settles_25 x1 v1 v3 nv_fu 0 0 q2.2))))
set_option maxHeartbeats 2000000 in
theorem tm_settles (G : nv_G) (h : nv_Hp) (x1 : Int32) (hx1 : nv_inb x1 10 = true) {r : nv_Hp} (hf : (pm_settles h x1) = some r) : nv_Mt G 7 qX7_settles [.ref 73, .int x1] (nv_s h) (none, nv_s r) := by
  refine nv_of (by decide +kernel) (fun ad => Nat.le_of_ble_eq_true rfl) (Nat.le_refl _) (Nat.le_of_ble_eq_true rfl) ?_
  show nv_E G 7 qX7_settles 0 [some (.ref 73), some (.int x1), none, none, none, none, none, none, none, none] [] (nv_s h) (none, nv_s r)
  unfold pm_settles at hf
  refine nv_aL dX7_settles_0 rfl ?_
  refine nv_tR lf_X7_70 dX7_settles_1 ko_73 rfl ?_
  refine nv_iL dX7_settles_4 rfl ?_
  refine nv_aI dX7_settles_5 ka_94 hx1 rfl ?_
  obtain ⟨v1, ev1, hf⟩ := nv_ltX hf
  rw [ev1]
  clear ev1
  refine nv_iS dX7_settles_6 (by decide) rfl rfl ?_
  refine nv_aL dX7_settles_7 rfl ?_
  refine nv_iL dX7_settles_8 rfl ?_
  obtain ⟨q2, hq2, hf⟩ := nv_bd hf
  refine nv_cVi (tm_boundNow G h x1 hx1 hq2) dX7_settles_9 lm_X7_271 y_qX7_boundNow ko_73 rfl rfl (by decide) rfl (Nat.le_of_ble_eq_true rfl) ?_
  refine nv_k dX7_settles_12 ?_
  refine nv_iL dX7_settles_13 rfl ?_
  refine nv_ishl dX7_settles_14 ?_
  refine nv_k dX7_settles_15 ?_
  refine nv_ixor dX7_settles_16 ?_
  refine nv_iand dX7_settles_17 ?_
  obtain ⟨v3, ev3, hf⟩ := nv_ltX hf
  rw [ev3]
  clear ev3
  refine nv_iS dX7_settles_18 (by decide) rfl rfl ?_
  refine nv_k dX7_settles_19 ?_
  refine nv_iS dX7_settles_20 (by decide) rfl rfl ?_
  refine nv_k dX7_settles_22 ?_
  refine nv_iS dX7_settles_23 (by decide) rfl rfl ?_
  exact tm_settles_25 G _ hx1 _ _ _ _ _ _ _ _ _ _ _ hf
/-! WhoseNameModel.findEnd -/
theorem dX7_findEnd_0 : nv_daload qX7_findEnd 0 0 1 := Or.inr ⟨0, rfl, by decide +kernel, rfl⟩
theorem dX7_findEnd_1 : nv_diload qX7_findEnd 1 1 2 := Or.inr ⟨1, rfl, by decide +kernel, rfl⟩
theorem dX7_findEnd_2 : nv_dc qX7_findEnd 2 (.invokevirtual 268) 3 5 := ⟨by decide +kernel, rfl⟩
theorem dX7_findEnd_5 : nv_dk qX7_findEnd 5 0 6 := Or.inl ⟨0, ⟨by decide +kernel, rfl⟩, by decide⟩
theorem dX7_findEnd_6 : nv_distore qX7_findEnd 6 2 7 := Or.inr ⟨2, rfl, by decide +kernel, rfl⟩
theorem dX7_findEnd_7 : nv_diload qX7_findEnd 7 2 8 := Or.inr ⟨2, rfl, by decide +kernel, rfl⟩
theorem dX7_findEnd_8 : nv_dk qX7_findEnd 8 8 10 := Or.inr (Or.inl ⟨8, ⟨by decide +kernel, rfl⟩, by decide⟩)
theorem dX7_findEnd_10 : nv_dic qX7_findEnd 10 .ge 31 13 := ⟨21, by decide +kernel, by decide, rfl⟩
theorem dX7_findEnd_13 : nv_daload qX7_findEnd 13 0 14 := Or.inr ⟨0, rfl, by decide +kernel, rfl⟩
theorem dX7_findEnd_14 : nv_dc qX7_findEnd 14 (.getfield 115) 3 17 := ⟨by decide +kernel, rfl⟩
theorem dX7_findEnd_17 : nv_diload qX7_findEnd 17 2 18 := Or.inr ⟨2, rfl, by decide +kernel, rfl⟩
theorem dX7_findEnd_18 : nv_daload qX7_findEnd 18 0 19 := Or.inr ⟨0, rfl, by decide +kernel, rfl⟩
theorem dX7_findEnd_19 : nv_dc qX7_findEnd 19 (.getfield 22) 3 22 := ⟨by decide +kernel, rfl⟩
theorem dX7_findEnd_22 : nv_diload qX7_findEnd 22 2 23 := Or.inr ⟨2, rfl, by decide +kernel, rfl⟩
theorem dX7_findEnd_23 : nv_dc qX7_findEnd 23 (.iaload) 1 24 := ⟨by decide +kernel, rfl⟩
theorem dX7_findEnd_24 : nv_dc qX7_findEnd 24 (.iastore) 1 25 := ⟨by decide +kernel, rfl⟩
theorem dX7_findEnd_25 : nv_dc qX7_findEnd 25 (.iinc 2 1) 3 28 := ⟨by decide +kernel, rfl⟩
theorem dX7_findEnd_28 : nv_dgo qX7_findEnd 28 7 := ⟨(-21), by decide +kernel, by decide⟩
theorem dX7_findEnd_31 : nv_dk qX7_findEnd 31 0 32 := Or.inl ⟨0, ⟨by decide +kernel, rfl⟩, by decide⟩
theorem dX7_findEnd_32 : nv_distore qX7_findEnd 32 2 33 := Or.inr ⟨2, rfl, by decide +kernel, rfl⟩
theorem dX7_findEnd_33 : nv_diload qX7_findEnd 33 2 34 := Or.inr ⟨2, rfl, by decide +kernel, rfl⟩
theorem dX7_findEnd_34 : nv_daload qX7_findEnd 34 0 35 := Or.inr ⟨0, rfl, by decide +kernel, rfl⟩
theorem dX7_findEnd_35 : nv_dc qX7_findEnd 35 (.getfield 197) 3 38 := ⟨by decide +kernel, rfl⟩
theorem dX7_findEnd_38 : nv_dic qX7_findEnd 38 .ge 52 41 := ⟨14, by decide +kernel, by decide, rfl⟩
theorem dX7_findEnd_41 : nv_daload qX7_findEnd 41 0 42 := Or.inr ⟨0, rfl, by decide +kernel, rfl⟩
theorem dX7_findEnd_42 : nv_diload qX7_findEnd 42 2 43 := Or.inr ⟨2, rfl, by decide +kernel, rfl⟩
theorem dX7_findEnd_43 : nv_dc qX7_findEnd 43 (.invokevirtual 289) 3 46 := ⟨by decide +kernel, rfl⟩
theorem dX7_findEnd_46 : nv_dc qX7_findEnd 46 (.iinc 2 1) 3 49 := ⟨by decide +kernel, rfl⟩
theorem dX7_findEnd_49 : nv_dgo qX7_findEnd 49 33 := ⟨(-16), by decide +kernel, by decide⟩
theorem dX7_findEnd_52 : decode qX7_findEnd.2.1 52 = .ok (.return_, 1) := by decide +kernel
def pm_findEnd_33    : Nat → Int32 → nv_Hp → Option (nv_Hp)
  | 0, _, _ => none
  | n + 1, x2, h => (if (h 73 23) ≤ x2 then some h else (if nv_inb x2 10 = true then (Option.bind (pm_settles h x2) fun q3 => ((pm_findEnd_33 n) (x2 + 1) q3)) else none))
set_option maxHeartbeats 2000000 in
theorem tm_findEnd_33 (G : nv_G)    : ∀ (n : Nat) (x2 : Int32) (h : nv_Hp) (o1 : Option Value) (r : nv_Hp), pm_findEnd_33 n x2 h = some r → nv_E G 8 qX7_findEnd 33 [some (.ref 73), o1, some (.int x2)] [] (nv_s h) (none, nv_s r) := by
  intro n
  induction n with
  | zero =>
    intro x2 h o1 r hf
    rw [pm_findEnd_33] at hf
    cases hf
  | succ n ih =>
    intro x2 h o1 r hf
    rw [pm_findEnd_33] at hf
    refine nv_iL dX7_findEnd_33 rfl ?_
    refine nv_aL dX7_findEnd_34 rfl ?_
    refine nv_tI lf_X7_197 dX7_findEnd_35 ko_73 rfl ?_
    refine nv_icge dX7_findEnd_38 (fun c1 => ?_) (fun c1 => ?_)
    · replace hf := nv_ip c1 hf
      obtain rfl := Option.some.inj hf
      exact nv_return dX7_findEnd_52 rfl
    · replace hf := nv_in c1 hf
      refine nv_aL dX7_findEnd_41 rfl ?_
      refine nv_iL dX7_findEnd_42 rfl ?_
      obtain ⟨g2, hf⟩ := nv_gd hf
      obtain ⟨q3, hq3, hf⟩ := nv_bd hf
      refine nv_cVv (tm_settles G h x2 g2 hq3) dX7_findEnd_43 lm_X7_289 y_qX7_settles ko_73 rfl rfl (by decide) rfl (Nat.le_of_ble_eq_true rfl) ?_
      refine nv_wk 1 rfl ?_
      refine nv_inc dX7_findEnd_46 rfl (v := 1) (by decide) (by decide) rfl rfl ?_
      refine nv_goto dX7_findEnd_49 ?_
      exact ih _ _ _ _ hf
def pm_findEnd_7    : Nat → Int32 → nv_Hp → Option (nv_Hp)
  | 0, _, _ => none
  | n + 1, x2, h => (if 8 ≤ x2 then (pm_findEnd_33 nv_fu 0 h) else (if nv_inb x2 8 = true then (nv_lt (nv_up h 109 x2.toNatClampNeg (h 78 x2.toNatClampNeg)) fun h3 => ((pm_findEnd_7 n) (x2 + 1) h3)) else none))
set_option maxHeartbeats 2000000 in
theorem tm_findEnd_7 (G : nv_G)    : ∀ (n : Nat) (x2 : Int32) (h : nv_Hp) (o1 : Option Value) (r : nv_Hp), pm_findEnd_7 n x2 h = some r → nv_E G 8 qX7_findEnd 7 [some (.ref 73), o1, some (.int x2)] [] (nv_s h) (none, nv_s r) := by
  intro n
  induction n with
  | zero =>
    intro x2 h o1 r hf
    rw [pm_findEnd_7] at hf
    cases hf
  | succ n ih =>
    intro x2 h o1 r hf
    rw [pm_findEnd_7] at hf
    refine nv_iL dX7_findEnd_7 rfl ?_
    refine nv_k dX7_findEnd_8 ?_
    refine nv_icge dX7_findEnd_10 (fun c1 => ?_) (fun c1 => ?_)
    · replace hf := nv_ip c1 hf
      refine nv_k dX7_findEnd_31 ?_
      refine nv_wk 1 rfl ?_
      refine nv_iS dX7_findEnd_32 (by decide) rfl rfl ?_
      exact tm_findEnd_33 G _ _ _ _ _ hf
    · replace hf := nv_in c1 hf
      refine nv_aL dX7_findEnd_13 rfl ?_
      refine nv_tR lf_X7_115 dX7_findEnd_14 ko_73 rfl ?_
      refine nv_iL dX7_findEnd_17 rfl ?_
      refine nv_aL dX7_findEnd_18 rfl ?_
      refine nv_tR lf_X7_22 dX7_findEnd_19 ko_73 rfl ?_
      refine nv_iL dX7_findEnd_22 rfl ?_
      obtain ⟨g2, hf⟩ := nv_gd hf
      refine nv_aI dX7_findEnd_23 ka_78 g2 rfl ?_
      refine nv_aP dX7_findEnd_24 ka_109 g2 rfl ?_
      obtain ⟨h3, eh3, hf⟩ := nv_ltX hf
      rw [eh3]
      clear eh3
      refine nv_wk 1 rfl ?_
      refine nv_inc dX7_findEnd_25 rfl (v := 1) (by decide) (by decide) rfl rfl ?_
      refine nv_goto dX7_findEnd_28 ?_
      exact ih _ _ _ _ hf
def pm_findEnd (h : nv_Hp) (x1 : Int32) : Option (nv_Hp) := (Option.bind (pm_goes h x1) fun q1 => (pm_findEnd_7 nv_fu 0 q1))
set_option maxHeartbeats 2000000 in
theorem tm_findEnd (G : nv_G) (h : nv_Hp) (x1 : Int32) (hx1 : nv_inb x1 2 = true) {r : nv_Hp} (hf : (pm_findEnd h x1) = some r) : nv_Mt G 8 qX7_findEnd [.ref 73, .int x1] (nv_s h) (none, nv_s r) := by
  refine nv_of (by decide +kernel) (fun ad => Nat.le_of_ble_eq_true rfl) (Nat.le_refl _) (Nat.le_of_ble_eq_true rfl) ?_
  show nv_E G 8 qX7_findEnd 0 [some (.ref 73), some (.int x1), none] [] (nv_s h) (none, nv_s r)
  unfold pm_findEnd at hf
  refine nv_aL dX7_findEnd_0 rfl ?_
  refine nv_iL dX7_findEnd_1 rfl ?_
  obtain ⟨q1, hq1, hf⟩ := nv_bd hf
  refine nv_cVv (tm_goes G h x1 hx1 hq1) dX7_findEnd_2 lm_X7_268 y_qX7_goes ko_73 rfl rfl (by decide) rfl (Nat.le_of_ble_eq_true rfl) ?_
  refine nv_k dX7_findEnd_5 ?_
  refine nv_iS dX7_findEnd_6 (by decide) rfl rfl ?_
  exact tm_findEnd_7 G _ _ _ _ _ hf
