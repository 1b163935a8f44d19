/-! WhoseNameModel.digest -/
theorem dX7_digest_0 : nv_dc qX7_digest 0 (.ldc2_w 321) 3 3 := ⟨by decide +kernel, rfl⟩
theorem dX7_digest_3 : nv_dlstore qX7_digest 3 1 4 := Or.inr ⟨1, rfl, by decide +kernel, rfl⟩
theorem dX7_digest_4 : nv_dk qX7_digest 4 0 5 := Or.inl ⟨0, ⟨by decide +kernel, rfl⟩, by decide⟩
theorem dX7_digest_5 : nv_distore qX7_digest 5 3 6 := Or.inr ⟨3, rfl, by decide +kernel, rfl⟩
theorem dX7_digest_6 : nv_diload qX7_digest 6 3 7 := Or.inr ⟨3, rfl, by decide +kernel, rfl⟩
theorem dX7_digest_7 : nv_dk qX7_digest 7 8 9 := Or.inr (Or.inl ⟨8, ⟨by decide +kernel, rfl⟩, by decide⟩)
theorem dX7_digest_9 : nv_dic qX7_digest 9 .ge 31 12 := ⟨22, by decide +kernel, by decide, rfl⟩
theorem dX7_digest_12 : nv_dc qX7_digest 12 (.ldc2_w 323) 3 15 := ⟨by decide +kernel, rfl⟩
theorem dX7_digest_15 : nv_dlload qX7_digest 15 1 16 := Or.inr ⟨1, rfl, by decide +kernel, rfl⟩
theorem dX7_digest_16 : nv_dc qX7_digest 16 (.lmul) 1 17 := ⟨by decide +kernel, rfl⟩
theorem dX7_digest_17 : nv_daload qX7_digest 17 0 18 := Or.inr ⟨0, rfl, by decide +kernel, rfl⟩
theorem dX7_digest_18 : nv_diload qX7_digest 18 3 19 := Or.inr ⟨3, rfl, by decide +kernel, rfl⟩
theorem dX7_digest_19 : nv_dc qX7_digest 19 (.invokevirtual 325) 3 22 := ⟨by decide +kernel, rfl⟩
theorem dX7_digest_22 : nv_dc qX7_digest 22 (.i2l) 1 23 := ⟨by decide +kernel, rfl⟩
theorem dX7_digest_23 : nv_dc qX7_digest 23 (.ladd) 1 24 := ⟨by decide +kernel, rfl⟩
theorem dX7_digest_24 : nv_dlstore qX7_digest 24 1 25 := Or.inr ⟨1, rfl, by decide +kernel, rfl⟩
theorem dX7_digest_25 : nv_dc qX7_digest 25 (.iinc 3 1) 3 28 := ⟨by decide +kernel, rfl⟩
theorem dX7_digest_28 : nv_dgo qX7_digest 28 6 := ⟨(-22), by decide +kernel, by decide⟩
theorem dX7_digest_31 : nv_dk qX7_digest 31 0 32 := Or.inl ⟨0, ⟨by decide +kernel, rfl⟩, by decide⟩
theorem dX7_digest_32 : nv_distore qX7_digest 32 3 33 := Or.inr ⟨3, rfl, by decide +kernel, rfl⟩
theorem dX7_digest_33 : nv_diload qX7_digest 33 3 34 := Or.inr ⟨3, rfl, by decide +kernel, rfl⟩
theorem dX7_digest_34 : nv_dk qX7_digest 34 2 35 := Or.inl ⟨2, ⟨by decide +kernel, rfl⟩, by decide⟩
theorem dX7_digest_35 : nv_dic qX7_digest 35 .ge 153 38 := ⟨118, by decide +kernel, by decide, rfl⟩
theorem dX7_digest_38 : nv_dc qX7_digest 38 (.ldc2_w 323) 3 41 := ⟨by decide +kernel, rfl⟩
theorem dX7_digest_41 : nv_dlload qX7_digest 41 1 42 := Or.inr ⟨1, rfl, by decide +kernel, rfl⟩
theorem dX7_digest_42 : nv_dc qX7_digest 42 (.lmul) 1 43 := ⟨by decide +kernel, rfl⟩
theorem dX7_digest_43 : nv_daload qX7_digest 43 0 44 := Or.inr ⟨0, rfl, by decide +kernel, rfl⟩
theorem dX7_digest_44 : nv_diload qX7_digest 44 3 45 := Or.inr ⟨3, rfl, by decide +kernel, rfl⟩
theorem dX7_digest_45 : nv_dc qX7_digest 45 (.invokevirtual 238) 3 48 := ⟨by decide +kernel, rfl⟩
theorem dX7_digest_48 : nv_dc qX7_digest 48 (.i2l) 1 49 := ⟨by decide +kernel, rfl⟩
theorem dX7_digest_49 : nv_dc qX7_digest 49 (.ladd) 1 50 := ⟨by decide +kernel, rfl⟩
theorem dX7_digest_50 : nv_dlstore qX7_digest 50 1 51 := Or.inr ⟨1, rfl, by decide +kernel, rfl⟩
theorem dX7_digest_51 : nv_dk qX7_digest 51 0 52 := Or.inl ⟨0, ⟨by decide +kernel, rfl⟩, by decide⟩
theorem dX7_digest_52 : nv_distore qX7_digest 52 4 54 := Or.inl ⟨by decide +kernel, rfl⟩
theorem dX7_digest_54 : nv_diload qX7_digest 54 4 56 := Or.inl ⟨by decide +kernel, rfl⟩
theorem dX7_digest_56 : nv_dk qX7_digest 56 9 58 := Or.inr (Or.inl ⟨9, ⟨by decide +kernel, rfl⟩, by decide⟩)
theorem dX7_digest_58 : nv_dic qX7_digest 58 .ge 82 61 := ⟨24, by decide +kernel, by decide, rfl⟩
theorem dX7_digest_61 : nv_dc qX7_digest 61 (.ldc2_w 323) 3 64 := ⟨by decide +kernel, rfl⟩
theorem dX7_digest_64 : nv_dlload qX7_digest 64 1 65 := Or.inr ⟨1, rfl, by decide +kernel, rfl⟩
theorem dX7_digest_65 : nv_dc qX7_digest 65 (.lmul) 1 66 := ⟨by decide +kernel, rfl⟩
theorem dX7_digest_66 : nv_daload qX7_digest 66 0 67 := Or.inr ⟨0, rfl, by decide +kernel, rfl⟩
theorem dX7_digest_67 : nv_diload qX7_digest 67 3 68 := Or.inr ⟨3, rfl, by decide +kernel, rfl⟩
theorem dX7_digest_68 : nv_diload qX7_digest 68 4 70 := Or.inl ⟨by decide +kernel, rfl⟩
theorem dX7_digest_70 : nv_dc qX7_digest 70 (.invokevirtual 243) 3 73 := ⟨by decide +kernel, rfl⟩
theorem dX7_digest_73 : nv_dc qX7_digest 73 (.i2l) 1 74 := ⟨by decide +kernel, rfl⟩
theorem dX7_digest_74 : nv_dc qX7_digest 74 (.ladd) 1 75 := ⟨by decide +kernel, rfl⟩
theorem dX7_digest_75 : nv_dlstore qX7_digest 75 1 76 := Or.inr ⟨1, rfl, by decide +kernel, rfl⟩
theorem dX7_digest_76 : nv_dc qX7_digest 76 (.iinc 4 1) 3 79 := ⟨by decide +kernel, rfl⟩
theorem dX7_digest_79 : nv_dgo qX7_digest 79 54 := ⟨(-25), by decide +kernel, by decide⟩
theorem dX7_digest_82 : nv_dk qX7_digest 82 0 83 := Or.inl ⟨0, ⟨by decide +kernel, rfl⟩, by decide⟩
theorem dX7_digest_83 : nv_distore qX7_digest 83 4 85 := Or.inl ⟨by decide +kernel, rfl⟩
theorem dX7_digest_85 : nv_diload qX7_digest 85 4 87 := Or.inl ⟨by decide +kernel, rfl⟩
theorem dX7_digest_87 : nv_daload qX7_digest 87 0 88 := Or.inr ⟨0, rfl, by decide +kernel, rfl⟩
theorem dX7_digest_88 : nv_dc qX7_digest 88 (.getfield 197) 3 91 := ⟨by decide +kernel, rfl⟩
theorem dX7_digest_91 : nv_dic qX7_digest 91 .ge 147 94 := ⟨56, by decide +kernel, by decide, rfl⟩
theorem dX7_digest_94 : nv_dc qX7_digest 94 (.ldc2_w 323) 3 97 := ⟨by decide +kernel, rfl⟩
theorem dX7_digest_97 : nv_dlload qX7_digest 97 1 98 := Or.inr ⟨1, rfl, by decide +kernel, rfl⟩
theorem dX7_digest_98 : nv_dc qX7_digest 98 (.lmul) 1 99 := ⟨by decide +kernel, rfl⟩
theorem dX7_digest_99 : nv_daload qX7_digest 99 0 100 := Or.inr ⟨0, rfl, by decide +kernel, rfl⟩
theorem dX7_digest_100 : nv_diload qX7_digest 100 3 101 := Or.inr ⟨3, rfl, by decide +kernel, rfl⟩
theorem dX7_digest_101 : nv_diload qX7_digest 101 4 103 := Or.inl ⟨by decide +kernel, rfl⟩
theorem dX7_digest_103 : nv_dk qX7_digest 103 0 104 := Or.inl ⟨0, ⟨by decide +kernel, rfl⟩, by decide⟩
theorem dX7_digest_104 : nv_dc qX7_digest 104 (.invokevirtual 274) 3 107 := ⟨by decide +kernel, rfl⟩
theorem dX7_digest_107 : nv_dc qX7_digest 107 (.i2l) 1 108 := ⟨by decide +kernel, rfl⟩
theorem dX7_digest_108 : nv_dc qX7_digest 108 (.ladd) 1 109 := ⟨by decide +kernel, rfl⟩
theorem dX7_digest_109 : nv_dlstore qX7_digest 109 1 110 := Or.inr ⟨1, rfl, by decide +kernel, rfl⟩
theorem dX7_digest_110 : nv_dc qX7_digest 110 (.ldc2_w 323) 3 113 := ⟨by decide +kernel, rfl⟩
theorem dX7_digest_113 : nv_dlload qX7_digest 113 1 114 := Or.inr ⟨1, rfl, by decide +kernel, rfl⟩
theorem dX7_digest_114 : nv_dc qX7_digest 114 (.lmul) 1 115 := ⟨by decide +kernel, rfl⟩
theorem dX7_digest_115 : nv_daload qX7_digest 115 0 116 := Or.inr ⟨0, rfl, by decide +kernel, rfl⟩
theorem dX7_digest_116 : nv_diload qX7_digest 116 3 117 := Or.inr ⟨3, rfl, by decide +kernel, rfl⟩
theorem dX7_digest_117 : nv_diload qX7_digest 117 4 119 := Or.inl ⟨by decide +kernel, rfl⟩
theorem dX7_digest_119 : nv_dk qX7_digest 119 1 120 := Or.inl ⟨1, ⟨by decide +kernel, rfl⟩, by decide⟩
theorem dX7_digest_120 : nv_dc qX7_digest 120 (.invokevirtual 274) 3 123 := ⟨by decide +kernel, rfl⟩
theorem dX7_digest_123 : nv_dc qX7_digest 123 (.i2l) 1 124 := ⟨by decide +kernel, rfl⟩
theorem dX7_digest_124 : nv_dc qX7_digest 124 (.ladd) 1 125 := ⟨by decide +kernel, rfl⟩
theorem dX7_digest_125 : nv_dlstore qX7_digest 125 1 126 := Or.inr ⟨1, rfl, by decide +kernel, rfl⟩
theorem dX7_digest_126 : nv_dc qX7_digest 126 (.ldc2_w 323) 3 129 := ⟨by decide +kernel, rfl⟩
theorem dX7_digest_129 : nv_dlload qX7_digest 129 1 130 := Or.inr ⟨1, rfl, by decide +kernel, rfl⟩
theorem dX7_digest_130 : nv_dc qX7_digest 130 (.lmul) 1 131 := ⟨by decide +kernel, rfl⟩
theorem dX7_digest_131 : nv_daload qX7_digest 131 0 132 := Or.inr ⟨0, rfl, by decide +kernel, rfl⟩
theorem dX7_digest_132 : nv_diload qX7_digest 132 3 133 := Or.inr ⟨3, rfl, by decide +kernel, rfl⟩
theorem dX7_digest_133 : nv_diload qX7_digest 133 4 135 := Or.inl ⟨by decide +kernel, rfl⟩
theorem dX7_digest_135 : nv_dc qX7_digest 135 (.invokevirtual 283) 3 138 := ⟨by decide +kernel, rfl⟩
theorem dX7_digest_138 : nv_dc qX7_digest 138 (.i2l) 1 139 := ⟨by decide +kernel, rfl⟩
theorem dX7_digest_139 : nv_dc qX7_digest 139 (.ladd) 1 140 := ⟨by decide +kernel, rfl⟩
theorem dX7_digest_140 : nv_dlstore qX7_digest 140 1 141 := Or.inr ⟨1, rfl, by decide +kernel, rfl⟩
theorem dX7_digest_141 : nv_dc qX7_digest 141 (.iinc 4 1) 3 144 := ⟨by decide +kernel, rfl⟩
theorem dX7_digest_144 : nv_dgo qX7_digest 144 85 := ⟨(-59), by decide +kernel, by decide⟩
theorem dX7_digest_147 : nv_dc qX7_digest 147 (.iinc 3 1) 3 150 := ⟨by decide +kernel, rfl⟩
theorem dX7_digest_150 : nv_dgo qX7_digest 150 33 := ⟨(-117), by decide +kernel, by decide⟩
theorem dX7_digest_153 : nv_daload qX7_digest 153 0 154 := Or.inr ⟨0, rfl, by decide +kernel, rfl⟩
theorem dX7_digest_154 : nv_dk qX7_digest 154 0 155 := Or.inl ⟨0, ⟨by decide +kernel, rfl⟩, by decide⟩
theorem dX7_digest_155 : nv_dc qX7_digest 155 (.invokevirtual 292) 3 158 := ⟨by decide +kernel, rfl⟩
theorem dX7_digest_158 : nv_dk qX7_digest 158 0 159 := Or.inl ⟨0, ⟨by decide +kernel, rfl⟩, by decide⟩
theorem dX7_digest_159 : nv_distore qX7_digest 159 3 160 := Or.inr ⟨3, rfl, by decide +kernel, rfl⟩
theorem dX7_digest_160 : nv_diload qX7_digest 160 3 161 := Or.inr ⟨3, rfl, by decide +kernel, rfl⟩
theorem dX7_digest_161 : nv_dk qX7_digest 161 8 163 := Or.inr (Or.inl ⟨8, ⟨by decide +kernel, rfl⟩, by decide⟩)
theorem dX7_digest_163 : nv_dic qX7_digest 163 .ge 186 166 := ⟨23, by decide +kernel, by decide, rfl⟩
theorem dX7_digest_166 : nv_dc qX7_digest 166 (.ldc2_w 323) 3 169 := ⟨by decide +kernel, rfl⟩
theorem dX7_digest_169 : nv_dlload qX7_digest 169 1 170 := Or.inr ⟨1, rfl, by decide +kernel, rfl⟩
theorem dX7_digest_170 : nv_dc qX7_digest 170 (.lmul) 1 171 := ⟨by decide +kernel, rfl⟩
theorem dX7_digest_171 : nv_daload qX7_digest 171 0 172 := Or.inr ⟨0, rfl, by decide +kernel, rfl⟩
theorem dX7_digest_172 : nv_dc qX7_digest 172 (.getfield 115) 3 175 := ⟨by decide +kernel, rfl⟩
theorem dX7_digest_175 : nv_diload qX7_digest 175 3 176 := Or.inr ⟨3, rfl, by decide +kernel, rfl⟩
theorem dX7_digest_176 : nv_dc qX7_digest 176 (.iaload) 1 177 := ⟨by decide +kernel, rfl⟩
theorem dX7_digest_177 : nv_dc qX7_digest 177 (.i2l) 1 178 := ⟨by decide +kernel, rfl⟩
theorem dX7_digest_178 : nv_dc qX7_digest 178 (.ladd) 1 179 := ⟨by decide +kernel, rfl⟩
theorem dX7_digest_179 : nv_dlstore qX7_digest 179 1 180 := Or.inr ⟨1, rfl, by decide +kernel, rfl⟩
theorem dX7_digest_180 : nv_dc qX7_digest 180 (.iinc 3 1) 3 183 := ⟨by decide +kernel, rfl⟩
theorem dX7_digest_183 : nv_dgo qX7_digest 183 160 := ⟨(-23), by decide +kernel, by decide⟩
theorem dX7_digest_186 : nv_dk qX7_digest 186 0 187 := Or.inl ⟨0, ⟨by decide +kernel, rfl⟩, by decide⟩
theorem dX7_digest_187 : nv_distore qX7_digest 187 3 188 := Or.inr ⟨3, rfl, by decide +kernel, rfl⟩
theorem dX7_digest_188 : nv_diload qX7_digest 188 3 189 := Or.inr ⟨3, rfl, by decide +kernel, rfl⟩
theorem dX7_digest_189 : nv_daload qX7_digest 189 0 190 := Or.inr ⟨0, rfl, by decide +kernel, rfl⟩
theorem dX7_digest_190 : nv_dc qX7_digest 190 (.getfield 197) 3 193 := ⟨by decide +kernel, rfl⟩
theorem dX7_digest_193 : nv_dic qX7_digest 193 .ge 229 196 := ⟨36, by decide +kernel, by decide, rfl⟩
theorem dX7_digest_196 : nv_dc qX7_digest 196 (.ldc2_w 323) 3 199 := ⟨by decide +kernel, rfl⟩
theorem dX7_digest_199 : nv_dlload qX7_digest 199 1 200 := Or.inr ⟨1, rfl, by decide +kernel, rfl⟩
theorem dX7_digest_200 : nv_dc qX7_digest 200 (.lmul) 1 201 := ⟨by decide +kernel, rfl⟩
theorem dX7_digest_201 : nv_daload qX7_digest 201 0 202 := Or.inr ⟨0, rfl, by decide +kernel, rfl⟩
theorem dX7_digest_202 : nv_dc qX7_digest 202 (.getfield 118) 3 205 := ⟨by decide +kernel, rfl⟩
theorem dX7_digest_205 : nv_diload qX7_digest 205 3 206 := Or.inr ⟨3, rfl, by decide +kernel, rfl⟩
theorem dX7_digest_206 : nv_dc qX7_digest 206 (.iaload) 1 207 := ⟨by decide +kernel, rfl⟩
theorem dX7_digest_207 : nv_dc qX7_digest 207 (.i2l) 1 208 := ⟨by decide +kernel, rfl⟩
theorem dX7_digest_208 : nv_dc qX7_digest 208 (.ladd) 1 209 := ⟨by decide +kernel, rfl⟩
theorem dX7_digest_209 : nv_dlstore qX7_digest 209 1 210 := Or.inr ⟨1, rfl, by decide +kernel, rfl⟩
theorem dX7_digest_210 : nv_dc qX7_digest 210 (.ldc2_w 323) 3 213 := ⟨by decide +kernel, rfl⟩
theorem dX7_digest_213 : nv_dlload qX7_digest 213 1 214 := Or.inr ⟨1, rfl, by decide +kernel, rfl⟩
theorem dX7_digest_214 : nv_dc qX7_digest 214 (.lmul) 1 215 := ⟨by decide +kernel, rfl⟩
theorem dX7_digest_215 : nv_daload qX7_digest 215 0 216 := Or.inr ⟨0, rfl, by decide +kernel, rfl⟩
theorem dX7_digest_216 : nv_diload qX7_digest 216 3 217 := Or.inr ⟨3, rfl, by decide +kernel, rfl⟩
theorem dX7_digest_217 : nv_dc qX7_digest 217 (.invokevirtual 311) 3 220 := ⟨by decide +kernel, rfl⟩
theorem dX7_digest_220 : nv_dc qX7_digest 220 (.i2l) 1 221 := ⟨by decide +kernel, rfl⟩
theorem dX7_digest_221 : nv_dc qX7_digest 221 (.ladd) 1 222 := ⟨by decide +kernel, rfl⟩
theorem dX7_digest_222 : nv_dlstore qX7_digest 222 1 223 := Or.inr ⟨1, rfl, by decide +kernel, rfl⟩
theorem dX7_digest_223 : nv_dc qX7_digest 223 (.iinc 3 1) 3 226 := ⟨by decide +kernel, rfl⟩
theorem dX7_digest_226 : nv_dgo qX7_digest 226 188 := ⟨(-38), by decide +kernel, by decide⟩
theorem dX7_digest_229 : nv_dlload qX7_digest 229 1 230 := Or.inr ⟨1, rfl, by decide +kernel, rfl⟩
theorem dX7_digest_230 : decode qX7_digest.2.1 230 = .ok (.lreturn, 1) := by decide +kernel
def pm_digest_188    : Nat → Int64 → Int32 → nv_Hp → Option (Int64 × nv_Hp)
  | 0, _, _, _ => none
  | n + 1, x1, x3, h => (if (h 73 23) ≤ x3 then some (x1, h) else (if nv_inb x3 10 = true then (nv_lt (((31 * x1) + (Int32.toInt64 (h 110 x3.toNatClampNeg)))) fun v3 => (Option.bind (pm_turnedOf h x3) fun q4 => (nv_lt (((31 * v3) + (Int32.toInt64 q4.1))) fun v5 => ((pm_digest_188 n) v5 (x3 + 1) q4.2)))) else none))
set_option maxHeartbeats 2000000 in
theorem tm_digest_188 (G : nv_G)    : ∀ (n : Nat) (x1 : Int64) (x3 : Int32) (h : nv_Hp) (o4 : Option Value) (r : Int64 × nv_Hp), pm_digest_188 n x1 x3 h = some r → nv_E G 9 qX7_digest 188 [some (.ref 73), some (.long x1), none, some (.int x3), o4] [] (nv_s h) (some (.long r.1), nv_s r.2) := by
  intro n
  induction n with
  | zero =>
    intro x1 x3 h o4 r hf
    rw [pm_digest_188] at hf
    cases hf
  | succ n ih =>
    intro x1 x3 h o4 r hf
    rw [pm_digest_188] at hf
    refine nv_iL dX7_digest_188 rfl ?_
    refine nv_aL dX7_digest_189 rfl ?_
    refine nv_tI lf_X7_197 dX7_digest_190 ko_73 rfl ?_
    refine nv_icge dX7_digest_193 (fun c1 => ?_) (fun c1 => ?_)
    · replace hf := nv_ip c1 hf
      refine nv_lL dX7_digest_229 rfl ?_
      obtain rfl := Option.some.inj hf
      exact nv_lreturn dX7_digest_230 rfl
    · replace hf := nv_in c1 hf
      refine nv_ldc2 dX7_digest_196 lc_X7_323 ?_
      refine nv_lL dX7_digest_199 rfl ?_
      refine nv_lmul dX7_digest_200 ?_
      refine nv_aL dX7_digest_201 rfl ?_
      refine nv_tR lf_X7_118 dX7_digest_202 ko_73 rfl ?_
      refine nv_iL dX7_digest_205 rfl ?_
      obtain ⟨g2, hf⟩ := nv_gd hf
      refine nv_aI dX7_digest_206 ka_110 g2 rfl ?_
      refine nv_i2l dX7_digest_207 ?_
      refine nv_ladd dX7_digest_208 ?_
      obtain ⟨v3, ev3, hf⟩ := nv_ltX hf
      rw [ev3]
      clear ev3
      refine nv_lS dX7_digest_209 (by decide) rfl rfl ?_
      refine nv_ldc2 dX7_digest_210 lc_X7_323 ?_
      refine nv_lL dX7_digest_213 rfl ?_
      refine nv_lmul dX7_digest_214 ?_
      refine nv_aL dX7_digest_215 rfl ?_
      refine nv_iL dX7_digest_216 rfl ?_
      obtain ⟨q4, hq4, hf⟩ := nv_bd hf
      refine nv_cVi (tm_turnedOf G h x3 g2 hq4) dX7_digest_217 lm_X7_311 y_qX7_turnedOf ko_73 rfl rfl (by decide) rfl (Nat.le_of_ble_eq_true rfl) ?_
      refine nv_i2l dX7_digest_220 ?_
      refine nv_ladd dX7_digest_221 ?_
      obtain ⟨v5, ev5, hf⟩ := nv_ltX hf
      rw [ev5]
      clear ev5
      refine nv_lS dX7_digest_222 (by decide) rfl rfl ?_
      refine nv_inc dX7_digest_223 rfl (v := 1) (by decide) (by decide) rfl rfl ?_
      refine nv_goto dX7_digest_226 ?_
      exact ih _ _ _ _ _ hf
def pm_digest_160 (h : nv_Hp)   : Nat → Int64 → Int32 → Option (Int64 × nv_Hp)
  | 0, _, _ => none
  | n + 1, x1, x3 => (if 8 ≤ x3 then (pm_digest_188 nv_fu x1 0 h) else (if nv_inb x3 8 = true then (nv_lt (((31 * x1) + (Int32.toInt64 (h 109 x3.toNatClampNeg)))) fun v3 => ((pm_digest_160 h n) v3 (x3 + 1))) else none))
set_option maxHeartbeats 2000000 in
theorem tm_digest_160 (G : nv_G) (h : nv_Hp)   : ∀ (n : Nat) (x1 : Int64) (x3 : Int32) (o4 : Option Value) (r : Int64 × nv_Hp), pm_digest_160 h n x1 x3 = some r → nv_E G 9 qX7_digest 160 [some (.ref 73), some (.long x1), none, some (.int x3), o4] [] (nv_s h) (some (.long r.1), nv_s r.2) := by
  intro n
  induction n with
  | zero =>
    intro x1 x3 o4 r hf
    rw [pm_digest_160] at hf
    cases hf
  | succ n ih =>
    intro x1 x3 o4 r hf
    rw [pm_digest_160] at hf
    refine nv_iL dX7_digest_160 rfl ?_
    refine nv_k dX7_digest_161 ?_
    refine nv_icge dX7_digest_163 (fun c1 => ?_) (fun c1 => ?_)
    · replace hf := nv_ip c1 hf
      refine nv_k dX7_digest_186 ?_
      refine nv_iS dX7_digest_187 (by decide) rfl rfl ?_
      exact tm_digest_188 G _ _ _ _ _ _ hf
    · replace hf := nv_in c1 hf
      refine nv_ldc2 dX7_digest_166 lc_X7_323 ?_
      refine nv_lL dX7_digest_169 rfl ?_
      refine nv_lmul dX7_digest_170 ?_
      refine nv_aL dX7_digest_171 rfl ?_
      refine nv_tR lf_X7_115 dX7_digest_172 ko_73 rfl ?_
      refine nv_iL dX7_digest_175 rfl ?_
      obtain ⟨g2, hf⟩ := nv_gd hf
      refine nv_aI dX7_digest_176 ka_109 g2 rfl ?_
      refine nv_i2l dX7_digest_177 ?_
      refine nv_ladd dX7_digest_178 ?_
      obtain ⟨v3, ev3, hf⟩ := nv_ltX hf
      rw [ev3]
      clear ev3
      refine nv_lS dX7_digest_179 (by decide) rfl rfl ?_
      refine nv_inc dX7_digest_180 rfl (v := 1) (by decide) (by decide) rfl rfl ?_
      refine nv_goto dX7_digest_183 ?_
      exact ih _ _ _ _ hf
def pm_digest_85  (x3 : Int32) (rec33 : Int64 → Int32 → nv_Hp → Option (Int64 × nv_Hp)) : Nat → Int64 → Int32 → nv_Hp → Option (Int64 × nv_Hp)
  | 0, _, _, _ => none
  | n + 1, x1, x4, h => (if (h 73 23) ≤ x4 then (rec33 x1 (x3 + 1) h) else (if nv_inb x3 2 = true then (if nv_inb x4 10 = true then (Option.bind (pm_boundOf h x3 x4 0) fun q4 => (nv_lt (((31 * x1) + (Int32.toInt64 q4.1))) fun v5 => (Option.bind (pm_boundOf q4.2 x3 x4 1) fun q6 => (nv_lt (((31 * v5) + (Int32.toInt64 q6.1))) fun v7 => (Option.bind (pm_owesOf q6.2 x3 x4) fun q8 => (nv_lt (((31 * v7) + (Int32.toInt64 q8.1))) fun v9 => ((pm_digest_85 x3 rec33 n) v9 (x4 + 1) q8.2))))))) else none) else none))
set_option maxHeartbeats 2000000 in
theorem tm_digest_85 (G : nv_G)  (x3 : Int32) (rec33 : Int64 → Int32 → nv_Hp → Option (Int64 × nv_Hp)) (hrec33 : ∀ (x1 : Int64) (x3 : Int32) (h : nv_Hp) (o4 : Option Value) (r : Int64 × nv_Hp), rec33 x1 x3 h = some r → nv_E G 9 qX7_digest 33 [some (.ref 73), some (.long x1), none, some (.int x3), o4] [] (nv_s h) (some (.long r.1), nv_s r.2)) : ∀ (n : Nat) (x1 : Int64) (x4 : Int32) (h : nv_Hp) (r : Int64 × nv_Hp), pm_digest_85 x3 rec33 n x1 x4 h = some r → nv_E G 9 qX7_digest 85 [some (.ref 73), some (.long x1), none, some (.int x3), some (.int x4)] [] (nv_s h) (some (.long r.1), nv_s r.2) := by
  intro n
  induction n with
  | zero =>
    intro x1 x4 h r hf
    rw [pm_digest_85] at hf
    cases hf
  | succ n ih =>
    intro x1 x4 h r hf
    rw [pm_digest_85] at hf
    refine nv_iL dX7_digest_85 rfl ?_
    refine nv_aL dX7_digest_87 rfl ?_
    refine nv_tI lf_X7_197 dX7_digest_88 ko_73 rfl ?_
    refine nv_icge dX7_digest_91 (fun c1 => ?_) (fun c1 => ?_)
    · replace hf := nv_ip c1 hf
      refine nv_inc dX7_digest_147 rfl (v := 1) (by decide) (by decide) rfl rfl ?_
      refine nv_goto dX7_digest_150 ?_
      exact hrec33 _ _ _ _ _ hf
    · replace hf := nv_in c1 hf
      refine nv_ldc2 dX7_digest_94 lc_X7_323 ?_
      refine nv_lL dX7_digest_97 rfl ?_
      refine nv_lmul dX7_digest_98 ?_
      refine nv_aL dX7_digest_99 rfl ?_
      refine nv_iL dX7_digest_100 rfl ?_
      refine nv_iL dX7_digest_101 rfl ?_
      refine nv_k dX7_digest_103 ?_
      obtain ⟨g2, hf⟩ := nv_gd hf
      obtain ⟨g3, hf⟩ := nv_gd hf
      obtain ⟨q4, hq4, hf⟩ := nv_bd hf
      refine nv_cVi (tm_boundOf G h x3 g2 x4 g3 0 hq4) dX7_digest_104 lm_X7_274 y_qX7_boundOf ko_73 rfl rfl (by decide) rfl (Nat.le_of_ble_eq_true rfl) ?_
      refine nv_i2l dX7_digest_107 ?_
      refine nv_ladd dX7_digest_108 ?_
      obtain ⟨v5, ev5, hf⟩ := nv_ltX hf
      rw [ev5]
      clear ev5
      refine nv_lS dX7_digest_109 (by decide) rfl rfl ?_
      refine nv_ldc2 dX7_digest_110 lc_X7_323 ?_
      refine nv_lL dX7_digest_113 rfl ?_
      refine nv_lmul dX7_digest_114 ?_
      refine nv_aL dX7_digest_115 rfl ?_
      refine nv_iL dX7_digest_116 rfl ?_
      refine nv_iL dX7_digest_117 rfl ?_
      refine nv_k dX7_digest_119 ?_
      obtain ⟨q6, hq6, hf⟩ := nv_bd hf
      refine nv_cVi (tm_boundOf G q4.2 x3 g2 x4 g3 1 hq6) dX7_digest_120 lm_X7_274 y_qX7_boundOf ko_73 rfl rfl (by decide) rfl (Nat.le_of_ble_eq_true rfl) ?_
      refine nv_i2l dX7_digest_123 ?_
      refine nv_ladd dX7_digest_124 ?_
      obtain ⟨v7, ev7, hf⟩ := nv_ltX hf
      rw [ev7]
      clear ev7
      refine nv_lS dX7_digest_125 (by decide) rfl rfl ?_
      refine nv_ldc2 dX7_digest_126 lc_X7_323 ?_
      refine nv_lL dX7_digest_129 rfl ?_
      refine nv_lmul dX7_digest_130 ?_
      refine nv_aL dX7_digest_131 rfl ?_
      refine nv_iL dX7_digest_132 rfl ?_
      refine nv_iL dX7_digest_133 rfl ?_
      obtain ⟨q8, hq8, hf⟩ := nv_bd hf
      refine nv_cVi (tm_owesOf G q6.2 x3 g2 x4 g3 hq8) dX7_digest_135 lm_X7_283 y_qX7_owesOf ko_73 rfl rfl (by decide) rfl (Nat.le_of_ble_eq_true rfl) ?_
      refine nv_i2l dX7_digest_138 ?_
      refine nv_ladd dX7_digest_139 ?_
      obtain ⟨v9, ev9, hf⟩ := nv_ltX hf
      rw [ev9]
      clear ev9
      refine nv_lS dX7_digest_140 (by decide) rfl rfl ?_
      refine nv_inc dX7_digest_141 rfl (v := 1) (by decide) (by decide) rfl rfl ?_
      refine nv_goto dX7_digest_144 ?_
      exact ih _ _ _ _ hf
def pm_digest_54  (x3 : Int32) (rec33 : Int64 → Int32 → nv_Hp → Option (Int64 × nv_Hp)) : Nat → Int64 → Int32 → nv_Hp → Option (Int64 × nv_Hp)
  | 0, _, _, _ => none
  | n + 1, x1, x4, h => (if 9 ≤ x4 then (pm_digest_85 x3 rec33 nv_fu x1 0 h) else (if nv_inb x3 2 = true then (Option.bind (pm_lawOf h x3 x4) fun q3 => (nv_lt (((31 * x1) + (Int32.toInt64 q3.1))) fun v4 => ((pm_digest_54 x3 rec33 n) v4 (x4 + 1) q3.2))) else none))
set_option maxHeartbeats 2000000 in
theorem tm_digest_54 (G : nv_G)  (x3 : Int32) (rec33 : Int64 → Int32 → nv_Hp → Option (Int64 × nv_Hp)) (hrec33 : ∀ (x1 : Int64) (x3 : Int32) (h : nv_Hp) (o4 : Option Value) (r : Int64 × nv_Hp), rec33 x1 x3 h = some r → nv_E G 9 qX7_digest 33 [some (.ref 73), some (.long x1), none, some (.int x3), o4] [] (nv_s h) (some (.long r.1), nv_s r.2)) : ∀ (n : Nat) (x1 : Int64) (x4 : Int32) (h : nv_Hp) (r : Int64 × nv_Hp), pm_digest_54 x3 rec33 n x1 x4 h = some r → nv_E G 9 qX7_digest 54 [some (.ref 73), some (.long x1), none, some (.int x3), some (.int x4)] [] (nv_s h) (some (.long r.1), nv_s r.2) := by
  intro n
  induction n with
  | zero =>
    intro x1 x4 h r hf
    rw [pm_digest_54] at hf
    cases hf
  | succ n ih =>
    intro x1 x4 h r hf
    rw [pm_digest_54] at hf
    refine nv_iL dX7_digest_54 rfl ?_
    refine nv_k dX7_digest_56 ?_
    refine nv_icge dX7_digest_58 (fun c1 => ?_) (fun c1 => ?_)
    · replace hf := nv_ip c1 hf
      refine nv_k dX7_digest_82 ?_
      refine nv_iS dX7_digest_83 (by decide) rfl rfl ?_
      exact tm_digest_85 G _ _ hrec33 _ _ _ _ _ hf
    · replace hf := nv_in c1 hf
      refine nv_ldc2 dX7_digest_61 lc_X7_323 ?_
      refine nv_lL dX7_digest_64 rfl ?_
      refine nv_lmul dX7_digest_65 ?_
      refine nv_aL dX7_digest_66 rfl ?_
      refine nv_iL dX7_digest_67 rfl ?_
      refine nv_iL dX7_digest_68 rfl ?_
      obtain ⟨g2, hf⟩ := nv_gd hf
      obtain ⟨q3, hq3, hf⟩ := nv_bd hf
      refine nv_cVi (tm_lawOf G h x3 g2 x4 hq3) dX7_digest_70 lm_X7_243 y_qX7_lawOf ko_73 rfl rfl (by decide) rfl (Nat.le_of_ble_eq_true rfl) ?_
      refine nv_i2l dX7_digest_73 ?_
      refine nv_ladd dX7_digest_74 ?_
      obtain ⟨v4, ev4, hf⟩ := nv_ltX hf
      rw [ev4]
      clear ev4
      refine nv_lS dX7_digest_75 (by decide) rfl rfl ?_
      refine nv_inc dX7_digest_76 rfl (v := 1) (by decide) (by decide) rfl rfl ?_
      refine nv_goto dX7_digest_79 ?_
      exact ih _ _ _ _ hf
def pm_digest_33    : Nat → Int64 → Int32 → nv_Hp → Option (Int64 × nv_Hp)
  | 0, _, _, _ => none
  | n + 1, x1, x3, h => (if 2 ≤ x3 then (Option.bind (pm_findEnd h 0) fun q2 => (pm_digest_160 q2 nv_fu x1 0)) else (if nv_inb x3 2 = true then (Option.bind (pm_reads h x3) fun q4 => (nv_lt (((31 * x1) + (Int32.toInt64 q4.1))) fun v5 => (pm_digest_54 x3 (pm_digest_33 n) nv_fu v5 0 q4.2))) else none))
set_option maxHeartbeats 2000000 in
theorem tm_digest_33 (G : nv_G)    : ∀ (n : Nat) (x1 : Int64) (x3 : Int32) (h : nv_Hp) (o4 : Option Value) (r : Int64 × nv_Hp), pm_digest_33 n x1 x3 h = some r → nv_E G 9 qX7_digest 33 [some (.ref 73), some (.long x1), none, some (.int x3), o4] [] (nv_s h) (some (.long r.1), nv_s r.2) := by
  intro n
  induction n with
  | zero =>
    intro x1 x3 h o4 r hf
    rw [pm_digest_33] at hf
    cases hf
  | succ n ih =>
    intro x1 x3 h o4 r hf
    rw [pm_digest_33] at hf
    refine nv_iL dX7_digest_33 rfl ?_
    refine nv_k dX7_digest_34 ?_
    refine nv_icge dX7_digest_35 (fun c1 => ?_) (fun c1 => ?_)
    · replace hf := nv_ip c1 hf
      refine nv_aL dX7_digest_153 rfl ?_
      refine nv_k dX7_digest_154 ?_
      obtain ⟨q2, hq2, hf⟩ := nv_bd hf
      refine nv_cVv (tm_findEnd G h 0 (by decide) hq2) dX7_digest_155 lm_X7_292 y_qX7_findEnd ko_73 rfl rfl (by decide) rfl (Nat.le_of_ble_eq_true rfl) ?_
      refine nv_k dX7_digest_158 ?_
      refine nv_iS dX7_digest_159 (by decide) rfl rfl ?_
      exact tm_digest_160 G _ _ _ _ _ _ hf
    · replace hf := nv_in c1 hf
      refine nv_ldc2 dX7_digest_38 lc_X7_323 ?_
      refine nv_lL dX7_digest_41 rfl ?_
      refine nv_lmul dX7_digest_42 ?_
      refine nv_aL dX7_digest_43 rfl ?_
      refine nv_iL dX7_digest_44 rfl ?_
      obtain ⟨g3, hf⟩ := nv_gd hf
      obtain ⟨q4, hq4, hf⟩ := nv_bd hf
      refine nv_cVi (tm_reads G h x3 g3 hq4) dX7_digest_45 lm_X7_238 y_qX7_reads ko_73 rfl rfl (by decide) rfl (Nat.le_of_ble_eq_true rfl) ?_
      refine nv_i2l dX7_digest_48 ?_
      refine nv_ladd dX7_digest_49 ?_
      obtain ⟨v5, ev5, hf⟩ := nv_ltX hf
      rw [ev5]
      clear ev5
      refine nv_lS dX7_digest_50 (by decide) rfl rfl ?_
      refine nv_k dX7_digest_51 ?_
      refine nv_iS dX7_digest_52 (by decide) rfl rfl ?_
      exact tm_digest_54 G _ _ ih _ _ _ _ _ hf
def pm_digest_6 (h : nv_Hp)   : Nat → Int64 → Int32 → Option (Int64 × nv_Hp)
  | 0, _, _ => none
  | n + 1, x1, x3 => (if 8 ≤ x3 then (pm_digest_33 nv_fu x1 0 h) else (Option.bind (pm_count h x3) fun q2 => (nv_lt (((31 * x1) + (Int32.toInt64 q2))) fun v3 => ((pm_digest_6 h n) v3 (x3 + 1)))))
set_option maxHeartbeats 2000000 in
theorem tm_digest_6 (G : nv_G) (h : nv_Hp)   : ∀ (n : Nat) (x1 : Int64) (x3 : Int32) (o4 : Option Value) (r : Int64 × nv_Hp), pm_digest_6 h n x1 x3 = some r → nv_E G 9 qX7_digest 6 [some (.ref 73), some (.long x1), none, some (.int x3), o4] [] (nv_s h) (some (.long r.1), nv_s r.2) := by
  intro n
  induction n with
  | zero =>
    intro x1 x3 o4 r hf
    rw [pm_digest_6] at hf
    cases hf
  | succ n ih =>
    intro x1 x3 o4 r hf
    rw [pm_digest_6] at hf
    refine nv_iL dX7_digest_6 rfl ?_
    refine nv_k dX7_digest_7 ?_
    refine nv_icge dX7_digest_9 (fun c1 => ?_) (fun c1 => ?_)
    · replace hf := nv_ip c1 hf
      refine nv_k dX7_digest_31 ?_
      refine nv_iS dX7_digest_32 (by decide) rfl rfl ?_
      exact tm_digest_33 G _ _ _ _ _ _ hf
    · replace hf := nv_in c1 hf
      refine nv_ldc2 dX7_digest_12 lc_X7_323 ?_
      refine nv_lL dX7_digest_15 rfl ?_
      refine nv_lmul dX7_digest_16 ?_
      refine nv_aL dX7_digest_17 rfl ?_
      refine nv_iL dX7_digest_18 rfl ?_
      obtain ⟨q2, hq2, hf⟩ := nv_bd hf
      refine nv_cVi (tm_count G h x3 hq2) dX7_digest_19 lm_X7_325 y_qX7_count ko_73 rfl rfl (by decide) rfl (Nat.le_of_ble_eq_true rfl) ?_
      refine nv_i2l dX7_digest_22 ?_
      refine nv_ladd dX7_digest_23 ?_
      obtain ⟨v3, ev3, hf⟩ := nv_ltX hf
      rw [ev3]
      clear ev3
      refine nv_lS dX7_digest_24 (by decide) rfl rfl ?_
      refine nv_inc dX7_digest_25 rfl (v := 1) (by decide) (by decide) rfl rfl ?_
      refine nv_goto dX7_digest_28 ?_
      exact ih _ _ _ _ hf
def pm_digest (h : nv_Hp)  : Option (Int64 × nv_Hp) := (pm_digest_6 h nv_fu 17 0)
set_option maxHeartbeats 2000000 in
theorem tm_digest (G : nv_G) (h : nv_Hp)  {r : Int64 × nv_Hp} (hf : (pm_digest h) = some r) : nv_Mt G 9 qX7_digest [.ref 73] (nv_s h) (some (.long r.1), nv_s r.2) := by
  refine nv_of (by decide +kernel) (fun ad => Nat.le_of_ble_eq_true rfl) (Nat.le_refl _) (Nat.le_of_ble_eq_true rfl) ?_
  show nv_E G 9 qX7_digest 0 [some (.ref 73), none, none, none, none] [] (nv_s h) (some (.long r.1), nv_s r.2)
  unfold pm_digest at hf
  refine nv_ldc2 dX7_digest_0 lc_X7_321 ?_
  refine nv_lS dX7_digest_3 (by decide) rfl rfl ?_
  refine nv_k dX7_digest_4 ?_
  refine nv_iS dX7_digest_5 (by decide) rfl rfl ?_
  exact tm_digest_6 G _ _ _ _ _ _ hf
