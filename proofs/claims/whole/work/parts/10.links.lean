theorem wi_L : Cond.initialized "WhoseNameLaw" ∈ nv_gt := nv_gt_of 73 (by decide +kernel) (by decide +kernel)
theorem wi_X6 : Cond.initialized "WhoseName" ∈ nv_gt := nv_gt_of 74 (by decide +kernel) (by decide +kernel)
theorem wi_X4 : Cond.initialized "WhoseName$Leave" ∈ nv_gt := nv_gt_of 75 (by decide +kernel) (by decide +kernel)
theorem wi_X1 : Cond.initialized "WhoseName$Back" ∈ nv_gt := nv_gt_of 76 (by decide +kernel) (by decide +kernel)
theorem wi_X2 : Cond.initialized "WhoseName$Bargain" ∈ nv_gt := nv_gt_of 77 (by decide +kernel) (by decide +kernel)
theorem wi_X0 : Cond.initialized "WhoseName$After" ∈ nv_gt := nv_gt_of 78 (by decide +kernel) (by decide +kernel)
theorem wi_X3 : Cond.initialized "WhoseName$Law" ∈ nv_gt := nv_gt_of 79 (by decide +kernel) (by decide +kernel)
theorem wi_J10 : Cond.initialized "java/lang/System" ∈ nv_gt := nv_gt_of 80 (by decide +kernel) (by decide +kernel)
theorem wi_X5 : Cond.initialized "WhoseName$Sheet" ∈ nv_gt := nv_gt_of 81 (by decide +kernel) (by decide +kernel)
theorem wi_X7 : Cond.initialized "WhoseNameModel" ∈ nv_gt := nv_gt_of 82 (by decide +kernel) (by decide +kernel)
theorem wi_J9 : Cond.initialized "java/lang/Math" ∈ nv_gt := nv_gt_of 83 (by decide +kernel) (by decide +kernel)
theorem wi_J6 : Cond.initialized "java/lang/Integer" ∈ nv_gt := nv_gt_of 84 (by decide +kernel) (by decide +kernel)
theorem lf_X6_9 : nv_Fl "WhoseName" 9 6 0 := ⟨_, _, _, nvY6, rfl, by decide, nv_gt_of 293 (by decide +kernel) (by decide +kernel), rfl, nvW6, nvYk6, nvN6⟩
theorem lf_X6_15 : nv_Fl "WhoseName" 15 6 1 := ⟨_, _, _, nvY6, rfl, by decide, nv_gt_of 294 (by decide +kernel) (by decide +kernel), rfl, nvW6, nvYk6, nvN6⟩
theorem lf_X6_21 : nv_Fl "WhoseName" 21 6 2 := ⟨_, _, _, nvY6, rfl, by decide, nv_gt_of 295 (by decide +kernel) (by decide +kernel), rfl, nvW6, nvYk6, nvN6⟩
theorem lf_X6_27 : nv_Fl "WhoseName" 27 6 3 := ⟨_, _, _, nvY6, rfl, by decide, nv_gt_of 296 (by decide +kernel) (by decide +kernel), rfl, nvW6, nvYk6, nvN6⟩
theorem lf_X6_33 : nv_Fl "WhoseName" 33 6 4 := ⟨_, _, _, nvY6, rfl, by decide, nv_gt_of 297 (by decide +kernel) (by decide +kernel), rfl, nvW6, nvYk6, nvN6⟩
theorem lf_X6_39 : nv_Fl "WhoseName" 39 6 5 := ⟨_, _, _, nvY6, rfl, by decide, nv_gt_of 298 (by decide +kernel) (by decide +kernel), rfl, nvW6, nvYk6, nvN6⟩
theorem lf_X6_45 : nv_Fl "WhoseName" 45 6 6 := ⟨_, _, _, nvY6, rfl, by decide, nv_gt_of 299 (by decide +kernel) (by decide +kernel), rfl, nvW6, nvYk6, nvN6⟩
theorem lf_X6_49 : nv_Fl "WhoseName" 49 6 12 := ⟨_, _, _, nvY6, rfl, by decide, nv_gt_of 305 (by decide +kernel) (by decide +kernel), rfl, nvW6, nvYk6, nvN6⟩
theorem lf_X6_52 : nv_Fl "WhoseName" 52 6 13 := ⟨_, _, _, nvY6, rfl, by decide, nv_gt_of 306 (by decide +kernel) (by decide +kernel), rfl, nvW6, nvYk6, nvN6⟩
theorem lf_X6_55 : nv_Fl "WhoseName" 55 6 14 := ⟨_, _, _, nvY6, rfl, by decide, nv_gt_of 307 (by decide +kernel) (by decide +kernel), rfl, nvW6, nvYk6, nvN6⟩
theorem lf_X6_58 : nv_Fl "WhoseName" 58 6 15 := ⟨_, _, _, nvY6, rfl, by decide, nv_gt_of 308 (by decide +kernel) (by decide +kernel), rfl, nvW6, nvYk6, nvN6⟩
theorem lf_X6_61 : nv_Fl "WhoseName" 61 6 16 := ⟨_, _, _, nvY6, rfl, by decide, nv_gt_of 309 (by decide +kernel) (by decide +kernel), rfl, nvW6, nvYk6, nvN6⟩
theorem lf_X6_85 : nv_Fl "WhoseName" 85 6 7 := ⟨_, _, _, nvY6, rfl, by decide, nv_gt_of 300 (by decide +kernel) (by decide +kernel), rfl, nvW6, nvYk6, nvN6⟩
theorem lf_X6_89 : nv_Fl "WhoseName" 89 4 0 := ⟨_, _, _, nvY4, rfl, by decide, nv_gt_of 110 (by decide +kernel) (by decide +kernel), rfl, nvW4, nvYk4, nvN4⟩
theorem lf_X6_92 : nv_Fl "WhoseName" 92 4 2 := ⟨_, _, _, nvY4, rfl, by decide, nv_gt_of 112 (by decide +kernel) (by decide +kernel), rfl, nvW4, nvYk4, nvN4⟩
theorem lf_X6_95 : nv_Fl "WhoseName" 95 4 3 := ⟨_, _, _, nvY4, rfl, by decide, nv_gt_of 113 (by decide +kernel) (by decide +kernel), rfl, nvW4, nvYk4, nvN4⟩
theorem lf_X6_98 : nv_Fl "WhoseName" 98 4 4 := ⟨_, _, _, nvY4, rfl, by decide, nv_gt_of 114 (by decide +kernel) (by decide +kernel), rfl, nvW4, nvYk4, nvN4⟩
theorem lf_X6_101 : nv_Fl "WhoseName" 101 4 5 := ⟨_, _, _, nvY4, rfl, by decide, nv_gt_of 115 (by decide +kernel) (by decide +kernel), rfl, nvW4, nvYk4, nvN4⟩
theorem lf_X6_104 : nv_Fl "WhoseName" 104 4 6 := ⟨_, _, _, nvY4, rfl, by decide, nv_gt_of 116 (by decide +kernel) (by decide +kernel), rfl, nvW4, nvYk4, nvN4⟩
theorem lf_X6_107 : nv_Fl "WhoseName" 107 4 7 := ⟨_, _, _, nvY4, rfl, by decide, nv_gt_of 117 (by decide +kernel) (by decide +kernel), rfl, nvW4, nvYk4, nvN4⟩
theorem lf_X6_117 : nv_Fl "WhoseName" 117 4 1 := ⟨_, _, _, nvY4, rfl, by decide, nv_gt_of 111 (by decide +kernel) (by decide +kernel), rfl, nvW4, nvYk4, nvN4⟩
theorem lf_X6_120 : nv_Fl "WhoseName" 120 4 8 := ⟨_, _, _, nvY4, rfl, by decide, nv_gt_of 118 (by decide +kernel) (by decide +kernel), rfl, nvW4, nvYk4, nvN4⟩
theorem lf_X6_123 : nv_Fl "WhoseName" 123 4 9 := ⟨_, _, _, nvY4, rfl, by decide, nv_gt_of 119 (by decide +kernel) (by decide +kernel), rfl, nvW4, nvYk4, nvN4⟩
theorem lf_X6_138 : nv_Fl "WhoseName" 138 6 8 := ⟨_, _, _, nvY6, rfl, by decide, nv_gt_of 301 (by decide +kernel) (by decide +kernel), rfl, nvW6, nvYk6, nvN6⟩
theorem lf_X6_141 : nv_Fl "WhoseName" 141 1 0 := ⟨_, _, _, nvY1, rfl, by decide, nv_gt_of 147 (by decide +kernel) (by decide +kernel), rfl, nvW1, nvYk1, nvN1⟩
theorem lf_X6_144 : nv_Fl "WhoseName" 144 1 1 := ⟨_, _, _, nvY1, rfl, by decide, nv_gt_of 148 (by decide +kernel) (by decide +kernel), rfl, nvW1, nvYk1, nvN1⟩
theorem lf_X6_147 : nv_Fl "WhoseName" 147 1 2 := ⟨_, _, _, nvY1, rfl, by decide, nv_gt_of 149 (by decide +kernel) (by decide +kernel), rfl, nvW1, nvYk1, nvN1⟩
theorem lf_X6_150 : nv_Fl "WhoseName" 150 1 3 := ⟨_, _, _, nvY1, rfl, by decide, nv_gt_of 150 (by decide +kernel) (by decide +kernel), rfl, nvW1, nvYk1, nvN1⟩
theorem lf_X6_156 : nv_Fl "WhoseName" 156 6 9 := ⟨_, _, _, nvY6, rfl, by decide, nv_gt_of 302 (by decide +kernel) (by decide +kernel), rfl, nvW6, nvYk6, nvN6⟩
theorem lf_X6_159 : nv_Fl "WhoseName" 159 2 0 := ⟨_, _, _, nvY2, rfl, by decide, nv_gt_of 165 (by decide +kernel) (by decide +kernel), rfl, nvW2, nvYk2, nvN2⟩
theorem lf_X6_162 : nv_Fl "WhoseName" 162 2 1 := ⟨_, _, _, nvY2, rfl, by decide, nv_gt_of 167 (by decide +kernel) (by decide +kernel), rfl, nvW2, nvYk2, nvN2⟩
theorem lf_X6_165 : nv_Fl "WhoseName" 165 2 2 := ⟨_, _, _, nvY2, rfl, by decide, nv_gt_of 169 (by decide +kernel) (by decide +kernel), rfl, nvW2, nvYk2, nvN2⟩
theorem lf_X6_168 : nv_Fl "WhoseName" 168 2 3 := ⟨_, _, _, nvY2, rfl, by decide, nv_gt_of 170 (by decide +kernel) (by decide +kernel), rfl, nvW2, nvYk2, nvN2⟩
theorem lf_X6_171 : nv_Fl "WhoseName" 171 2 4 := ⟨_, _, _, nvY2, rfl, by decide, nv_gt_of 171 (by decide +kernel) (by decide +kernel), rfl, nvW2, nvYk2, nvN2⟩
theorem lf_X6_174 : nv_Fl "WhoseName" 174 2 5 := ⟨_, _, _, nvY2, rfl, by decide, nv_gt_of 172 (by decide +kernel) (by decide +kernel), rfl, nvW2, nvYk2, nvN2⟩
theorem lf_X6_177 : nv_Fl "WhoseName" 177 2 6 := ⟨_, _, _, nvY2, rfl, by decide, nv_gt_of 173 (by decide +kernel) (by decide +kernel), rfl, nvW2, nvYk2, nvN2⟩
theorem lf_X6_183 : nv_Fl "WhoseName" 183 5 1 := ⟨_, _, _, nvY5, rfl, by decide, nv_gt_of 279 (by decide +kernel) (by decide +kernel), rfl, nvW5, nvYk5, nvN5⟩
theorem lf_X6_191 : nv_Fl "WhoseName" 191 5 3 := ⟨_, _, _, nvY5, rfl, by decide, nv_gt_of 283 (by decide +kernel) (by decide +kernel), rfl, nvW5, nvYk5, nvN5⟩
theorem lf_X6_204 : nv_Fl "WhoseName" 204 6 10 := ⟨_, _, _, nvY6, rfl, by decide, nv_gt_of 303 (by decide +kernel) (by decide +kernel), rfl, nvW6, nvYk6, nvN6⟩
theorem lf_X6_207 : nv_Fl "WhoseName" 207 0 0 := ⟨_, _, _, nvY0, rfl, by decide, nv_gt_of 194 (by decide +kernel) (by decide +kernel), rfl, nvW0, nvYk0, nvN0⟩
theorem lf_X6_209 : nv_Fl "WhoseName" 209 0 1 := ⟨_, _, _, nvY0, rfl, by decide, nv_gt_of 195 (by decide +kernel) (by decide +kernel), rfl, nvW0, nvYk0, nvN0⟩
theorem lf_X6_210 : nv_Fl "WhoseName" 210 0 2 := ⟨_, _, _, nvY0, rfl, by decide, nv_gt_of 196 (by decide +kernel) (by decide +kernel), rfl, nvW0, nvYk0, nvN0⟩
theorem lf_X6_211 : nv_Fl "WhoseName" 211 0 3 := ⟨_, _, _, nvY0, rfl, by decide, nv_gt_of 197 (by decide +kernel) (by decide +kernel), rfl, nvW0, nvYk0, nvN0⟩
theorem lf_X6_214 : nv_Fl "WhoseName" 214 0 4 := ⟨_, _, _, nvY0, rfl, by decide, nv_gt_of 198 (by decide +kernel) (by decide +kernel), rfl, nvW0, nvYk0, nvN0⟩
theorem lf_X6_220 : nv_Fl "WhoseName" 220 3 2 := ⟨_, _, _, nvY3, rfl, by decide, nv_gt_of 259 (by decide +kernel) (by decide +kernel), rfl, nvW3, nvYk3, nvN3⟩
theorem lf_X6_228 : nv_Fl "WhoseName" 228 3 3 := ⟨_, _, _, nvY3, rfl, by decide, nv_gt_of 261 (by decide +kernel) (by decide +kernel), rfl, nvW3, nvYk3, nvN3⟩
theorem lf_X6_231 : nv_Fl "WhoseName" 231 3 1 := ⟨_, _, _, nvY3, rfl, by decide, nv_gt_of 257 (by decide +kernel) (by decide +kernel), rfl, nvW3, nvYk3, nvN3⟩
theorem lf_X6_337 : nv_Fl "WhoseName" 337 6 17 := ⟨_, _, _, nvY6, rfl, by decide, nv_gt_of 310 (by decide +kernel) (by decide +kernel), rfl, nvW6, nvYk6, nvN6⟩
theorem lf_X6_390 : nv_Fl "WhoseName" 390 5 2 := ⟨_, _, _, nvY5, rfl, by decide, nv_gt_of 281 (by decide +kernel) (by decide +kernel), rfl, nvW5, nvYk5, nvN5⟩
theorem lf_X6_396 : nv_Fl "WhoseName" 396 5 0 := ⟨_, _, _, nvY5, rfl, by decide, nv_gt_of 277 (by decide +kernel) (by decide +kernel), rfl, nvW5, nvYk5, nvN5⟩
theorem lf_X6_405 : nv_Fl "WhoseName" 405 6 11 := ⟨_, _, _, nvY6, rfl, by decide, nv_gt_of 304 (by decide +kernel) (by decide +kernel), rfl, nvW6, nvYk6, nvN6⟩
theorem lf_X2_9 : nv_Fl "WhoseName$Bargain" 9 2 2 := ⟨_, _, _, nvY2, rfl, by decide, nv_gt_of 168 (by decide +kernel) (by decide +kernel), rfl, nvW2, nvYk2, nvN2⟩
theorem lf_X2_15 : nv_Fl "WhoseName$Bargain" 15 2 1 := ⟨_, _, _, nvY2, rfl, by decide, nv_gt_of 166 (by decide +kernel) (by decide +kernel), rfl, nvW2, nvYk2, nvN2⟩
theorem lf_X3_9 : nv_Fl "WhoseName$Law" 9 3 0 := ⟨_, _, _, nvY3, rfl, by decide, nv_gt_of 255 (by decide +kernel) (by decide +kernel), rfl, nvW3, nvYk3, nvN3⟩
theorem lf_X3_15 : nv_Fl "WhoseName$Law" 15 3 1 := ⟨_, _, _, nvY3, rfl, by decide, nv_gt_of 256 (by decide +kernel) (by decide +kernel), rfl, nvW3, nvYk3, nvN3⟩
theorem lf_X3_21 : nv_Fl "WhoseName$Law" 21 3 2 := ⟨_, _, _, nvY3, rfl, by decide, nv_gt_of 258 (by decide +kernel) (by decide +kernel), rfl, nvW3, nvYk3, nvN3⟩
theorem lf_X3_32 : nv_Fl "WhoseName$Law" 32 3 3 := ⟨_, _, _, nvY3, rfl, by decide, nv_gt_of 260 (by decide +kernel) (by decide +kernel), rfl, nvW3, nvYk3, nvN3⟩
theorem lf_X5_9 : nv_Fl "WhoseName$Sheet" 9 5 0 := ⟨_, _, _, nvY5, rfl, by decide, nv_gt_of 276 (by decide +kernel) (by decide +kernel), rfl, nvW5, nvYk5, nvN5⟩
theorem lf_X5_19 : nv_Fl "WhoseName$Sheet" 19 5 2 := ⟨_, _, _, nvY5, rfl, by decide, nv_gt_of 280 (by decide +kernel) (by decide +kernel), rfl, nvW5, nvYk5, nvN5⟩
theorem lf_X5_23 : nv_Fl "WhoseName$Sheet" 23 5 3 := ⟨_, _, _, nvY5, rfl, by decide, nv_gt_of 282 (by decide +kernel) (by decide +kernel), rfl, nvW5, nvYk5, nvN5⟩
theorem lf_X7_7 : nv_Fl "WhoseNameModel" 7 7 0 := ⟨_, _, _, nvY7, rfl, by decide, nv_gt_of 724 (by decide +kernel) (by decide +kernel), rfl, nvW7, nvYk7, nvN7⟩
theorem lf_X7_13 : nv_Fl "WhoseNameModel" 13 7 1 := ⟨_, _, _, nvY7, rfl, by decide, nv_gt_of 725 (by decide +kernel) (by decide +kernel), rfl, nvW7, nvYk7, nvN7⟩
theorem lf_X7_16 : nv_Fl "WhoseNameModel" 16 7 2 := ⟨_, _, _, nvY7, rfl, by decide, nv_gt_of 726 (by decide +kernel) (by decide +kernel), rfl, nvW7, nvYk7, nvN7⟩
theorem lf_X7_19 : nv_Fl "WhoseNameModel" 19 7 3 := ⟨_, _, _, nvY7, rfl, by decide, nv_gt_of 727 (by decide +kernel) (by decide +kernel), rfl, nvW7, nvYk7, nvN7⟩
theorem lf_X7_22 : nv_Fl "WhoseNameModel" 22 7 5 := ⟨_, _, _, nvY7, rfl, by decide, nv_gt_of 729 (by decide +kernel) (by decide +kernel), rfl, nvW7, nvYk7, nvN7⟩
theorem lf_X7_25 : nv_Fl "WhoseNameModel" 25 7 7 := ⟨_, _, _, nvY7, rfl, by decide, nv_gt_of 731 (by decide +kernel) (by decide +kernel), rfl, nvW7, nvYk7, nvN7⟩
theorem lf_X7_28 : nv_Fl "WhoseNameModel" 28 7 8 := ⟨_, _, _, nvY7, rfl, by decide, nv_gt_of 732 (by decide +kernel) (by decide +kernel), rfl, nvW7, nvYk7, nvN7⟩
theorem lf_X7_31 : nv_Fl "WhoseNameModel" 31 7 9 := ⟨_, _, _, nvY7, rfl, by decide, nv_gt_of 733 (by decide +kernel) (by decide +kernel), rfl, nvW7, nvYk7, nvN7⟩
theorem lf_X7_34 : nv_Fl "WhoseNameModel" 34 7 10 := ⟨_, _, _, nvY7, rfl, by decide, nv_gt_of 734 (by decide +kernel) (by decide +kernel), rfl, nvW7, nvYk7, nvN7⟩
theorem lf_X7_37 : nv_Fl "WhoseNameModel" 37 7 11 := ⟨_, _, _, nvY7, rfl, by decide, nv_gt_of 735 (by decide +kernel) (by decide +kernel), rfl, nvW7, nvYk7, nvN7⟩
theorem lf_X7_40 : nv_Fl "WhoseNameModel" 40 7 12 := ⟨_, _, _, nvY7, rfl, by decide, nv_gt_of 736 (by decide +kernel) (by decide +kernel), rfl, nvW7, nvYk7, nvN7⟩
theorem lf_X7_43 : nv_Fl "WhoseNameModel" 43 7 13 := ⟨_, _, _, nvY7, rfl, by decide, nv_gt_of 737 (by decide +kernel) (by decide +kernel), rfl, nvW7, nvYk7, nvN7⟩
theorem lf_X7_46 : nv_Fl "WhoseNameModel" 46 7 14 := ⟨_, _, _, nvY7, rfl, by decide, nv_gt_of 738 (by decide +kernel) (by decide +kernel), rfl, nvW7, nvYk7, nvN7⟩
theorem lf_X7_49 : nv_Fl "WhoseNameModel" 49 7 15 := ⟨_, _, _, nvY7, rfl, by decide, nv_gt_of 739 (by decide +kernel) (by decide +kernel), rfl, nvW7, nvYk7, nvN7⟩
theorem lf_X7_52 : nv_Fl "WhoseNameModel" 52 7 16 := ⟨_, _, _, nvY7, rfl, by decide, nv_gt_of 740 (by decide +kernel) (by decide +kernel), rfl, nvW7, nvYk7, nvN7⟩
theorem lf_X7_55 : nv_Fl "WhoseNameModel" 55 7 18 := ⟨_, _, _, nvY7, rfl, by decide, nv_gt_of 742 (by decide +kernel) (by decide +kernel), rfl, nvW7, nvYk7, nvN7⟩
theorem lf_X7_58 : nv_Fl "WhoseNameModel" 58 7 19 := ⟨_, _, _, nvY7, rfl, by decide, nv_gt_of 743 (by decide +kernel) (by decide +kernel), rfl, nvW7, nvYk7, nvN7⟩
theorem lf_X7_61 : nv_Fl "WhoseNameModel" 61 7 20 := ⟨_, _, _, nvY7, rfl, by decide, nv_gt_of 744 (by decide +kernel) (by decide +kernel), rfl, nvW7, nvYk7, nvN7⟩
theorem lf_X7_64 : nv_Fl "WhoseNameModel" 64 7 21 := ⟨_, _, _, nvY7, rfl, by decide, nv_gt_of 745 (by decide +kernel) (by decide +kernel), rfl, nvW7, nvYk7, nvN7⟩
theorem lf_X7_67 : nv_Fl "WhoseNameModel" 67 7 22 := ⟨_, _, _, nvY7, rfl, by decide, nv_gt_of 746 (by decide +kernel) (by decide +kernel), rfl, nvW7, nvYk7, nvN7⟩
theorem lf_X7_70 : nv_Fl "WhoseNameModel" 70 7 24 := ⟨_, _, _, nvY7, rfl, by decide, nv_gt_of 748 (by decide +kernel) (by decide +kernel), rfl, nvW7, nvYk7, nvN7⟩
theorem lf_X7_73 : nv_Fl "WhoseNameModel" 73 7 25 := ⟨_, _, _, nvY7, rfl, by decide, nv_gt_of 749 (by decide +kernel) (by decide +kernel), rfl, nvW7, nvYk7, nvN7⟩
theorem lf_X7_76 : nv_Fl "WhoseNameModel" 76 7 26 := ⟨_, _, _, nvY7, rfl, by decide, nv_gt_of 750 (by decide +kernel) (by decide +kernel), rfl, nvW7, nvYk7, nvN7⟩
theorem lf_X7_79 : nv_Fl "WhoseNameModel" 79 7 27 := ⟨_, _, _, nvY7, rfl, by decide, nv_gt_of 751 (by decide +kernel) (by decide +kernel), rfl, nvW7, nvYk7, nvN7⟩
theorem lf_X7_82 : nv_Fl "WhoseNameModel" 82 7 28 := ⟨_, _, _, nvY7, rfl, by decide, nv_gt_of 752 (by decide +kernel) (by decide +kernel), rfl, nvW7, nvYk7, nvN7⟩
theorem lf_X7_85 : nv_Fl "WhoseNameModel" 85 7 29 := ⟨_, _, _, nvY7, rfl, by decide, nv_gt_of 753 (by decide +kernel) (by decide +kernel), rfl, nvW7, nvYk7, nvN7⟩
theorem lf_X7_88 : nv_Fl "WhoseNameModel" 88 7 31 := ⟨_, _, _, nvY7, rfl, by decide, nv_gt_of 755 (by decide +kernel) (by decide +kernel), rfl, nvW7, nvYk7, nvN7⟩
theorem lf_X7_91 : nv_Fl "WhoseNameModel" 91 7 32 := ⟨_, _, _, nvY7, rfl, by decide, nv_gt_of 756 (by decide +kernel) (by decide +kernel), rfl, nvW7, nvYk7, nvN7⟩
theorem lf_X7_94 : nv_Fl "WhoseNameModel" 94 7 33 := ⟨_, _, _, nvY7, rfl, by decide, nv_gt_of 757 (by decide +kernel) (by decide +kernel), rfl, nvW7, nvYk7, nvN7⟩
theorem lf_X7_97 : nv_Fl "WhoseNameModel" 97 7 34 := ⟨_, _, _, nvY7, rfl, by decide, nv_gt_of 758 (by decide +kernel) (by decide +kernel), rfl, nvW7, nvYk7, nvN7⟩
theorem lf_X7_100 : nv_Fl "WhoseNameModel" 100 7 35 := ⟨_, _, _, nvY7, rfl, by decide, nv_gt_of 759 (by decide +kernel) (by decide +kernel), rfl, nvW7, nvYk7, nvN7⟩
theorem lf_X7_103 : nv_Fl "WhoseNameModel" 103 7 36 := ⟨_, _, _, nvY7, rfl, by decide, nv_gt_of 760 (by decide +kernel) (by decide +kernel), rfl, nvW7, nvYk7, nvN7⟩
theorem lf_X7_106 : nv_Fl "WhoseNameModel" 106 7 37 := ⟨_, _, _, nvY7, rfl, by decide, nv_gt_of 761 (by decide +kernel) (by decide +kernel), rfl, nvW7, nvYk7, nvN7⟩
theorem lf_X7_109 : nv_Fl "WhoseNameModel" 109 7 39 := ⟨_, _, _, nvY7, rfl, by decide, nv_gt_of 763 (by decide +kernel) (by decide +kernel), rfl, nvW7, nvYk7, nvN7⟩
theorem lf_X7_112 : nv_Fl "WhoseNameModel" 112 7 40 := ⟨_, _, _, nvY7, rfl, by decide, nv_gt_of 764 (by decide +kernel) (by decide +kernel), rfl, nvW7, nvYk7, nvN7⟩
theorem lf_X7_115 : nv_Fl "WhoseNameModel" 115 7 42 := ⟨_, _, _, nvY7, rfl, by decide, nv_gt_of 766 (by decide +kernel) (by decide +kernel), rfl, nvW7, nvYk7, nvN7⟩
theorem lf_X7_118 : nv_Fl "WhoseNameModel" 118 7 43 := ⟨_, _, _, nvY7, rfl, by decide, nv_gt_of 767 (by decide +kernel) (by decide +kernel), rfl, nvW7, nvYk7, nvN7⟩
theorem lf_X7_121 : nv_Fl "WhoseNameModel" 121 7 44 := ⟨_, _, _, nvY7, rfl, by decide, nv_gt_of 768 (by decide +kernel) (by decide +kernel), rfl, nvW7, nvYk7, nvN7⟩
theorem lf_X7_124 : nv_Fl "WhoseNameModel" 124 7 46 := ⟨_, _, _, nvY7, rfl, by decide, nv_gt_of 770 (by decide +kernel) (by decide +kernel), rfl, nvW7, nvYk7, nvN7⟩
theorem lf_X7_131 : nv_Fl "WhoseNameModel" 131 7 4 := ⟨_, _, _, nvY7, rfl, by decide, nv_gt_of 728 (by decide +kernel) (by decide +kernel), rfl, nvW7, nvYk7, nvN7⟩
theorem lf_X7_165 : nv_Fl "WhoseNameModel" 165 7 6 := ⟨_, _, _, nvY7, rfl, by decide, nv_gt_of 730 (by decide +kernel) (by decide +kernel), rfl, nvW7, nvYk7, nvN7⟩
theorem lf_X7_189 : nv_Fl "WhoseNameModel" 189 7 17 := ⟨_, _, _, nvY7, rfl, by decide, nv_gt_of 741 (by decide +kernel) (by decide +kernel), rfl, nvW7, nvYk7, nvN7⟩
theorem lf_X7_197 : nv_Fl "WhoseNameModel" 197 7 23 := ⟨_, _, _, nvY7, rfl, by decide, nv_gt_of 747 (by decide +kernel) (by decide +kernel), rfl, nvW7, nvYk7, nvN7⟩
theorem lf_X7_207 : nv_Fl "WhoseNameModel" 207 7 30 := ⟨_, _, _, nvY7, rfl, by decide, nv_gt_of 754 (by decide +kernel) (by decide +kernel), rfl, nvW7, nvYk7, nvN7⟩
theorem lf_X7_212 : nv_Fl "WhoseNameModel" 212 7 38 := ⟨_, _, _, nvY7, rfl, by decide, nv_gt_of 762 (by decide +kernel) (by decide +kernel), rfl, nvW7, nvYk7, nvN7⟩
theorem lf_X7_259 : nv_Fl "WhoseNameModel" 259 7 41 := ⟨_, _, _, nvY7, rfl, by decide, nv_gt_of 765 (by decide +kernel) (by decide +kernel), rfl, nvW7, nvYk7, nvN7⟩
theorem lf_X7_295 : nv_Fl "WhoseNameModel" 295 7 45 := ⟨_, _, _, nvY7, rfl, by decide, nv_gt_of 769 (by decide +kernel) (by decide +kernel), rfl, nvW7, nvYk7, nvN7⟩
theorem lp_X6_9 : nv_Ff "WhoseName" 9 6 0 (.array .int) := ⟨_, _, _, nvY6, rfl, by decide, nv_gt_of 293 (by decide +kernel) (by decide +kernel), rfl, nvW6, nvYk6, nvN6, rfl, by decide +kernel, rfl⟩
theorem lp_X6_15 : nv_Ff "WhoseName" 15 6 1 (.array (.object "WhoseName$Leave")) := ⟨_, _, _, nvY6, rfl, by decide, nv_gt_of 294 (by decide +kernel) (by decide +kernel), rfl, nvW6, nvYk6, nvN6, rfl, by decide +kernel, rfl⟩
theorem lp_X6_21 : nv_Ff "WhoseName" 21 6 2 (.array (.object "WhoseName$Back")) := ⟨_, _, _, nvY6, rfl, by decide, nv_gt_of 295 (by decide +kernel) (by decide +kernel), rfl, nvW6, nvYk6, nvN6, rfl, by decide +kernel, rfl⟩
theorem lp_X6_27 : nv_Ff "WhoseName" 27 6 3 (.array (.object "WhoseName$Bargain")) := ⟨_, _, _, nvY6, rfl, by decide, nv_gt_of 296 (by decide +kernel) (by decide +kernel), rfl, nvW6, nvYk6, nvN6, rfl, by decide +kernel, rfl⟩
theorem lp_X6_33 : nv_Ff "WhoseName" 33 6 4 (.array (.object "WhoseName$After")) := ⟨_, _, _, nvY6, rfl, by decide, nv_gt_of 297 (by decide +kernel) (by decide +kernel), rfl, nvW6, nvYk6, nvN6, rfl, by decide +kernel, rfl⟩
theorem lp_X6_39 : nv_Ff "WhoseName" 39 6 5 (.array (.object "WhoseName$Law")) := ⟨_, _, _, nvY6, rfl, by decide, nv_gt_of 298 (by decide +kernel) (by decide +kernel), rfl, nvW6, nvYk6, nvN6, rfl, by decide +kernel, rfl⟩
theorem lp_X6_45 : nv_Ff "WhoseName" 45 6 6 (.array (.object "WhoseName$Sheet")) := ⟨_, _, _, nvY6, rfl, by decide, nv_gt_of 299 (by decide +kernel) (by decide +kernel), rfl, nvW6, nvYk6, nvN6, rfl, by decide +kernel, rfl⟩
theorem lp_X6_49 : nv_Ff "WhoseName" 49 6 12 (.array .int) := ⟨_, _, _, nvY6, rfl, by decide, nv_gt_of 305 (by decide +kernel) (by decide +kernel), rfl, nvW6, nvYk6, nvN6, rfl, by decide +kernel, rfl⟩
theorem lp_X6_52 : nv_Ff "WhoseName" 52 6 13 (.array .int) := ⟨_, _, _, nvY6, rfl, by decide, nv_gt_of 306 (by decide +kernel) (by decide +kernel), rfl, nvW6, nvYk6, nvN6, rfl, by decide +kernel, rfl⟩
theorem lp_X6_55 : nv_Ff "WhoseName" 55 6 14 (.array .int) := ⟨_, _, _, nvY6, rfl, by decide, nv_gt_of 307 (by decide +kernel) (by decide +kernel), rfl, nvW6, nvYk6, nvN6, rfl, by decide +kernel, rfl⟩
theorem lp_X6_58 : nv_Ff "WhoseName" 58 6 15 (.array .int) := ⟨_, _, _, nvY6, rfl, by decide, nv_gt_of 308 (by decide +kernel) (by decide +kernel), rfl, nvW6, nvYk6, nvN6, rfl, by decide +kernel, rfl⟩
theorem lp_X6_61 : nv_Ff "WhoseName" 61 6 16 (.array .int) := ⟨_, _, _, nvY6, rfl, by decide, nv_gt_of 309 (by decide +kernel) (by decide +kernel), rfl, nvW6, nvYk6, nvN6, rfl, by decide +kernel, rfl⟩
theorem lp_X6_85 : nv_Fp "WhoseName" 85 6 7 .int := ⟨_, _, _, nvY6, rfl, by decide, nv_gt_of 300 (by decide +kernel) (by decide +kernel), rfl, nvW6, nvYk6, nvN6, rfl, by decide +kernel⟩
theorem lp_X6_89 : nv_Fp "WhoseName" 89 4 0 .int := ⟨_, _, _, nvY4, rfl, by decide, nv_gt_of 110 (by decide +kernel) (by decide +kernel), rfl, nvW4, nvYk4, nvN4, rfl, by decide +kernel⟩
theorem lp_X6_92 : nv_Fp "WhoseName" 92 4 2 .int := ⟨_, _, _, nvY4, rfl, by decide, nv_gt_of 112 (by decide +kernel) (by decide +kernel), rfl, nvW4, nvYk4, nvN4, rfl, by decide +kernel⟩
theorem lp_X6_95 : nv_Fp "WhoseName" 95 4 3 .int := ⟨_, _, _, nvY4, rfl, by decide, nv_gt_of 113 (by decide +kernel) (by decide +kernel), rfl, nvW4, nvYk4, nvN4, rfl, by decide +kernel⟩
theorem lp_X6_98 : nv_Fp "WhoseName" 98 4 4 .int := ⟨_, _, _, nvY4, rfl, by decide, nv_gt_of 114 (by decide +kernel) (by decide +kernel), rfl, nvW4, nvYk4, nvN4, rfl, by decide +kernel⟩
theorem lp_X6_101 : nv_Fp "WhoseName" 101 4 5 .int := ⟨_, _, _, nvY4, rfl, by decide, nv_gt_of 115 (by decide +kernel) (by decide +kernel), rfl, nvW4, nvYk4, nvN4, rfl, by decide +kernel⟩
theorem lp_X6_104 : nv_Fp "WhoseName" 104 4 6 .int := ⟨_, _, _, nvY4, rfl, by decide, nv_gt_of 116 (by decide +kernel) (by decide +kernel), rfl, nvW4, nvYk4, nvN4, rfl, by decide +kernel⟩
theorem lp_X6_107 : nv_Fp "WhoseName" 107 4 7 .int := ⟨_, _, _, nvY4, rfl, by decide, nv_gt_of 117 (by decide +kernel) (by decide +kernel), rfl, nvW4, nvYk4, nvN4, rfl, by decide +kernel⟩
theorem lp_X6_117 : nv_Fp "WhoseName" 117 4 1 .int := ⟨_, _, _, nvY4, rfl, by decide, nv_gt_of 111 (by decide +kernel) (by decide +kernel), rfl, nvW4, nvYk4, nvN4, rfl, by decide +kernel⟩
theorem lp_X6_120 : nv_Fp "WhoseName" 120 4 8 .int := ⟨_, _, _, nvY4, rfl, by decide, nv_gt_of 118 (by decide +kernel) (by decide +kernel), rfl, nvW4, nvYk4, nvN4, rfl, by decide +kernel⟩
theorem lp_X6_123 : nv_Fp "WhoseName" 123 4 9 .int := ⟨_, _, _, nvY4, rfl, by decide, nv_gt_of 119 (by decide +kernel) (by decide +kernel), rfl, nvW4, nvYk4, nvN4, rfl, by decide +kernel⟩
theorem lp_X6_138 : nv_Fp "WhoseName" 138 6 8 .int := ⟨_, _, _, nvY6, rfl, by decide, nv_gt_of 301 (by decide +kernel) (by decide +kernel), rfl, nvW6, nvYk6, nvN6, rfl, by decide +kernel⟩
theorem lp_X6_141 : nv_Fp "WhoseName" 141 1 0 .int := ⟨_, _, _, nvY1, rfl, by decide, nv_gt_of 147 (by decide +kernel) (by decide +kernel), rfl, nvW1, nvYk1, nvN1, rfl, by decide +kernel⟩
theorem lp_X6_144 : nv_Fp "WhoseName" 144 1 1 .int := ⟨_, _, _, nvY1, rfl, by decide, nv_gt_of 148 (by decide +kernel) (by decide +kernel), rfl, nvW1, nvYk1, nvN1, rfl, by decide +kernel⟩
theorem lp_X6_147 : nv_Fp "WhoseName" 147 1 2 .int := ⟨_, _, _, nvY1, rfl, by decide, nv_gt_of 149 (by decide +kernel) (by decide +kernel), rfl, nvW1, nvYk1, nvN1, rfl, by decide +kernel⟩
theorem lp_X6_150 : nv_Fp "WhoseName" 150 1 3 .int := ⟨_, _, _, nvY1, rfl, by decide, nv_gt_of 150 (by decide +kernel) (by decide +kernel), rfl, nvW1, nvYk1, nvN1, rfl, by decide +kernel⟩
theorem lp_X6_156 : nv_Fp "WhoseName" 156 6 9 .int := ⟨_, _, _, nvY6, rfl, by decide, nv_gt_of 302 (by decide +kernel) (by decide +kernel), rfl, nvW6, nvYk6, nvN6, rfl, by decide +kernel⟩
theorem lp_X6_159 : nv_Fp "WhoseName" 159 2 0 .int := ⟨_, _, _, nvY2, rfl, by decide, nv_gt_of 165 (by decide +kernel) (by decide +kernel), rfl, nvW2, nvYk2, nvN2, rfl, by decide +kernel⟩
theorem lp_X6_162 : nv_Fp "WhoseName" 162 2 1 .int := ⟨_, _, _, nvY2, rfl, by decide, nv_gt_of 167 (by decide +kernel) (by decide +kernel), rfl, nvW2, nvYk2, nvN2, rfl, by decide +kernel⟩
theorem lp_X6_165 : nv_Fp "WhoseName" 165 2 2 .int := ⟨_, _, _, nvY2, rfl, by decide, nv_gt_of 169 (by decide +kernel) (by decide +kernel), rfl, nvW2, nvYk2, nvN2, rfl, by decide +kernel⟩
theorem lp_X6_168 : nv_Fp "WhoseName" 168 2 3 .int := ⟨_, _, _, nvY2, rfl, by decide, nv_gt_of 170 (by decide +kernel) (by decide +kernel), rfl, nvW2, nvYk2, nvN2, rfl, by decide +kernel⟩
theorem lp_X6_171 : nv_Fp "WhoseName" 171 2 4 .int := ⟨_, _, _, nvY2, rfl, by decide, nv_gt_of 171 (by decide +kernel) (by decide +kernel), rfl, nvW2, nvYk2, nvN2, rfl, by decide +kernel⟩
theorem lp_X6_174 : nv_Fp "WhoseName" 174 2 5 .int := ⟨_, _, _, nvY2, rfl, by decide, nv_gt_of 172 (by decide +kernel) (by decide +kernel), rfl, nvW2, nvYk2, nvN2, rfl, by decide +kernel⟩
theorem lp_X6_177 : nv_Fp "WhoseName" 177 2 6 .int := ⟨_, _, _, nvY2, rfl, by decide, nv_gt_of 173 (by decide +kernel) (by decide +kernel), rfl, nvW2, nvYk2, nvN2, rfl, by decide +kernel⟩
theorem lp_X6_183 : nv_Fp "WhoseName" 183 5 1 .boolean := ⟨_, _, _, nvY5, rfl, by decide, nv_gt_of 279 (by decide +kernel) (by decide +kernel), rfl, nvW5, nvYk5, nvN5, rfl, by decide +kernel⟩
theorem lp_X6_204 : nv_Fp "WhoseName" 204 6 10 .int := ⟨_, _, _, nvY6, rfl, by decide, nv_gt_of 303 (by decide +kernel) (by decide +kernel), rfl, nvW6, nvYk6, nvN6, rfl, by decide +kernel⟩
theorem lp_X6_207 : nv_Fp "WhoseName" 207 0 0 .int := ⟨_, _, _, nvY0, rfl, by decide, nv_gt_of 194 (by decide +kernel) (by decide +kernel), rfl, nvW0, nvYk0, nvN0, rfl, by decide +kernel⟩
theorem lp_X6_209 : nv_Fp "WhoseName" 209 0 1 .int := ⟨_, _, _, nvY0, rfl, by decide, nv_gt_of 195 (by decide +kernel) (by decide +kernel), rfl, nvW0, nvYk0, nvN0, rfl, by decide +kernel⟩
theorem lp_X6_210 : nv_Fp "WhoseName" 210 0 2 .int := ⟨_, _, _, nvY0, rfl, by decide, nv_gt_of 196 (by decide +kernel) (by decide +kernel), rfl, nvW0, nvYk0, nvN0, rfl, by decide +kernel⟩
theorem lp_X6_211 : nv_Fp "WhoseName" 211 0 3 .int := ⟨_, _, _, nvY0, rfl, by decide, nv_gt_of 197 (by decide +kernel) (by decide +kernel), rfl, nvW0, nvYk0, nvN0, rfl, by decide +kernel⟩
theorem lp_X6_214 : nv_Fp "WhoseName" 214 0 4 .int := ⟨_, _, _, nvY0, rfl, by decide, nv_gt_of 198 (by decide +kernel) (by decide +kernel), rfl, nvW0, nvYk0, nvN0, rfl, by decide +kernel⟩
theorem lp_X6_337 : nv_Fp "WhoseName" 337 6 17 .int := ⟨_, _, _, nvY6, rfl, by decide, nv_gt_of 310 (by decide +kernel) (by decide +kernel), rfl, nvW6, nvYk6, nvN6, rfl, by decide +kernel⟩
theorem lp_X6_405 : nv_Fp "WhoseName" 405 6 11 .int := ⟨_, _, _, nvY6, rfl, by decide, nv_gt_of 304 (by decide +kernel) (by decide +kernel), rfl, nvW6, nvYk6, nvN6, rfl, by decide +kernel⟩
theorem lp_X3_9 : nv_Ff "WhoseName$Law" 9 3 0 (.array .int) := ⟨_, _, _, nvY3, rfl, by decide, nv_gt_of 255 (by decide +kernel) (by decide +kernel), rfl, nvW3, nvYk3, nvN3, rfl, by decide +kernel, rfl⟩
theorem lp_X3_15 : nv_Ff "WhoseName$Law" 15 3 1 (.array .int) := ⟨_, _, _, nvY3, rfl, by decide, nv_gt_of 256 (by decide +kernel) (by decide +kernel), rfl, nvW3, nvYk3, nvN3, rfl, by decide +kernel, rfl⟩
theorem lp_X3_21 : nv_Fp "WhoseName$Law" 21 3 2 .int := ⟨_, _, _, nvY3, rfl, by decide, nv_gt_of 258 (by decide +kernel) (by decide +kernel), rfl, nvW3, nvYk3, nvN3, rfl, by decide +kernel⟩
theorem lp_X3_32 : nv_Fp "WhoseName$Law" 32 3 3 .int := ⟨_, _, _, nvY3, rfl, by decide, nv_gt_of 260 (by decide +kernel) (by decide +kernel), rfl, nvW3, nvYk3, nvN3, rfl, by decide +kernel⟩
theorem lp_X5_9 : nv_Ff "WhoseName$Sheet" 9 5 0 (.array .int) := ⟨_, _, _, nvY5, rfl, by decide, nv_gt_of 276 (by decide +kernel) (by decide +kernel), rfl, nvW5, nvYk5, nvN5, rfl, by decide +kernel, rfl⟩
theorem lp_X5_15 : nv_Fp "WhoseName$Sheet" 15 5 1 .boolean := ⟨_, _, _, nvY5, rfl, by decide, nv_gt_of 278 (by decide +kernel) (by decide +kernel), rfl, nvW5, nvYk5, nvN5, rfl, by decide +kernel⟩
theorem lp_X5_19 : nv_Fp "WhoseName$Sheet" 19 5 2 .int := ⟨_, _, _, nvY5, rfl, by decide, nv_gt_of 280 (by decide +kernel) (by decide +kernel), rfl, nvW5, nvYk5, nvN5, rfl, by decide +kernel⟩
theorem lp_X5_23 : nv_Fp "WhoseName$Sheet" 23 5 3 .int := ⟨_, _, _, nvY5, rfl, by decide, nv_gt_of 282 (by decide +kernel) (by decide +kernel), rfl, nvW5, nvYk5, nvN5, rfl, by decide +kernel⟩
theorem lp_X7_7 : nv_Ff "WhoseNameModel" 7 7 0 (.array .int) := ⟨_, _, _, nvY7, rfl, by decide, nv_gt_of 724 (by decide +kernel) (by decide +kernel), rfl, nvW7, nvYk7, nvN7, rfl, by decide +kernel, rfl⟩
theorem lp_X7_13 : nv_Ff "WhoseNameModel" 13 7 1 (.array .int) := ⟨_, _, _, nvY7, rfl, by decide, nv_gt_of 725 (by decide +kernel) (by decide +kernel), rfl, nvW7, nvYk7, nvN7, rfl, by decide +kernel, rfl⟩
theorem lp_X7_16 : nv_Ff "WhoseNameModel" 16 7 2 (.array .int) := ⟨_, _, _, nvY7, rfl, by decide, nv_gt_of 726 (by decide +kernel) (by decide +kernel), rfl, nvW7, nvYk7, nvN7, rfl, by decide +kernel, rfl⟩
theorem lp_X7_19 : nv_Ff "WhoseNameModel" 19 7 3 (.array .int) := ⟨_, _, _, nvY7, rfl, by decide, nv_gt_of 727 (by decide +kernel) (by decide +kernel), rfl, nvW7, nvYk7, nvN7, rfl, by decide +kernel, rfl⟩
theorem lp_X7_22 : nv_Ff "WhoseNameModel" 22 7 5 (.array .int) := ⟨_, _, _, nvY7, rfl, by decide, nv_gt_of 729 (by decide +kernel) (by decide +kernel), rfl, nvW7, nvYk7, nvN7, rfl, by decide +kernel, rfl⟩
theorem lp_X7_25 : nv_Ff "WhoseNameModel" 25 7 7 (.array .int) := ⟨_, _, _, nvY7, rfl, by decide, nv_gt_of 731 (by decide +kernel) (by decide +kernel), rfl, nvW7, nvYk7, nvN7, rfl, by decide +kernel, rfl⟩
theorem lp_X7_28 : nv_Ff "WhoseNameModel" 28 7 8 (.array .int) := ⟨_, _, _, nvY7, rfl, by decide, nv_gt_of 732 (by decide +kernel) (by decide +kernel), rfl, nvW7, nvYk7, nvN7, rfl, by decide +kernel, rfl⟩
theorem lp_X7_31 : nv_Ff "WhoseNameModel" 31 7 9 (.array .int) := ⟨_, _, _, nvY7, rfl, by decide, nv_gt_of 733 (by decide +kernel) (by decide +kernel), rfl, nvW7, nvYk7, nvN7, rfl, by decide +kernel, rfl⟩
theorem lp_X7_34 : nv_Ff "WhoseNameModel" 34 7 10 (.array .int) := ⟨_, _, _, nvY7, rfl, by decide, nv_gt_of 734 (by decide +kernel) (by decide +kernel), rfl, nvW7, nvYk7, nvN7, rfl, by decide +kernel, rfl⟩
theorem lp_X7_37 : nv_Ff "WhoseNameModel" 37 7 11 (.array .int) := ⟨_, _, _, nvY7, rfl, by decide, nv_gt_of 735 (by decide +kernel) (by decide +kernel), rfl, nvW7, nvYk7, nvN7, rfl, by decide +kernel, rfl⟩
theorem lp_X7_40 : nv_Ff "WhoseNameModel" 40 7 12 (.array .int) := ⟨_, _, _, nvY7, rfl, by decide, nv_gt_of 736 (by decide +kernel) (by decide +kernel), rfl, nvW7, nvYk7, nvN7, rfl, by decide +kernel, rfl⟩
theorem lp_X7_43 : nv_Ff "WhoseNameModel" 43 7 13 (.array .int) := ⟨_, _, _, nvY7, rfl, by decide, nv_gt_of 737 (by decide +kernel) (by decide +kernel), rfl, nvW7, nvYk7, nvN7, rfl, by decide +kernel, rfl⟩
theorem lp_X7_46 : nv_Ff "WhoseNameModel" 46 7 14 (.array .int) := ⟨_, _, _, nvY7, rfl, by decide, nv_gt_of 738 (by decide +kernel) (by decide +kernel), rfl, nvW7, nvYk7, nvN7, rfl, by decide +kernel, rfl⟩
theorem lp_X7_49 : nv_Ff "WhoseNameModel" 49 7 15 (.array .int) := ⟨_, _, _, nvY7, rfl, by decide, nv_gt_of 739 (by decide +kernel) (by decide +kernel), rfl, nvW7, nvYk7, nvN7, rfl, by decide +kernel, rfl⟩
theorem lp_X7_52 : nv_Ff "WhoseNameModel" 52 7 16 (.array .int) := ⟨_, _, _, nvY7, rfl, by decide, nv_gt_of 740 (by decide +kernel) (by decide +kernel), rfl, nvW7, nvYk7, nvN7, rfl, by decide +kernel, rfl⟩
theorem lp_X7_55 : nv_Ff "WhoseNameModel" 55 7 18 (.array .int) := ⟨_, _, _, nvY7, rfl, by decide, nv_gt_of 742 (by decide +kernel) (by decide +kernel), rfl, nvW7, nvYk7, nvN7, rfl, by decide +kernel, rfl⟩
theorem lp_X7_58 : nv_Ff "WhoseNameModel" 58 7 19 (.array .int) := ⟨_, _, _, nvY7, rfl, by decide, nv_gt_of 743 (by decide +kernel) (by decide +kernel), rfl, nvW7, nvYk7, nvN7, rfl, by decide +kernel, rfl⟩
theorem lp_X7_61 : nv_Ff "WhoseNameModel" 61 7 20 (.array .int) := ⟨_, _, _, nvY7, rfl, by decide, nv_gt_of 744 (by decide +kernel) (by decide +kernel), rfl, nvW7, nvYk7, nvN7, rfl, by decide +kernel, rfl⟩
theorem lp_X7_64 : nv_Ff "WhoseNameModel" 64 7 21 (.array .int) := ⟨_, _, _, nvY7, rfl, by decide, nv_gt_of 745 (by decide +kernel) (by decide +kernel), rfl, nvW7, nvYk7, nvN7, rfl, by decide +kernel, rfl⟩
theorem lp_X7_67 : nv_Ff "WhoseNameModel" 67 7 22 (.array .int) := ⟨_, _, _, nvY7, rfl, by decide, nv_gt_of 746 (by decide +kernel) (by decide +kernel), rfl, nvW7, nvYk7, nvN7, rfl, by decide +kernel, rfl⟩
theorem lp_X7_70 : nv_Ff "WhoseNameModel" 70 7 24 (.array .int) := ⟨_, _, _, nvY7, rfl, by decide, nv_gt_of 748 (by decide +kernel) (by decide +kernel), rfl, nvW7, nvYk7, nvN7, rfl, by decide +kernel, rfl⟩
theorem lp_X7_73 : nv_Ff "WhoseNameModel" 73 7 25 (.array .int) := ⟨_, _, _, nvY7, rfl, by decide, nv_gt_of 749 (by decide +kernel) (by decide +kernel), rfl, nvW7, nvYk7, nvN7, rfl, by decide +kernel, rfl⟩
theorem lp_X7_76 : nv_Ff "WhoseNameModel" 76 7 26 (.array .int) := ⟨_, _, _, nvY7, rfl, by decide, nv_gt_of 750 (by decide +kernel) (by decide +kernel), rfl, nvW7, nvYk7, nvN7, rfl, by decide +kernel, rfl⟩
theorem lp_X7_79 : nv_Ff "WhoseNameModel" 79 7 27 (.array .int) := ⟨_, _, _, nvY7, rfl, by decide, nv_gt_of 751 (by decide +kernel) (by decide +kernel), rfl, nvW7, nvYk7, nvN7, rfl, by decide +kernel, rfl⟩
theorem lp_X7_82 : nv_Ff "WhoseNameModel" 82 7 28 (.array .int) := ⟨_, _, _, nvY7, rfl, by decide, nv_gt_of 752 (by decide +kernel) (by decide +kernel), rfl, nvW7, nvYk7, nvN7, rfl, by decide +kernel, rfl⟩
theorem lp_X7_85 : nv_Ff "WhoseNameModel" 85 7 29 (.array .int) := ⟨_, _, _, nvY7, rfl, by decide, nv_gt_of 753 (by decide +kernel) (by decide +kernel), rfl, nvW7, nvYk7, nvN7, rfl, by decide +kernel, rfl⟩
theorem lp_X7_88 : nv_Ff "WhoseNameModel" 88 7 31 (.array .int) := ⟨_, _, _, nvY7, rfl, by decide, nv_gt_of 755 (by decide +kernel) (by decide +kernel), rfl, nvW7, nvYk7, nvN7, rfl, by decide +kernel, rfl⟩
theorem lp_X7_91 : nv_Ff "WhoseNameModel" 91 7 32 (.array .int) := ⟨_, _, _, nvY7, rfl, by decide, nv_gt_of 756 (by decide +kernel) (by decide +kernel), rfl, nvW7, nvYk7, nvN7, rfl, by decide +kernel, rfl⟩
theorem lp_X7_94 : nv_Ff "WhoseNameModel" 94 7 33 (.array .int) := ⟨_, _, _, nvY7, rfl, by decide, nv_gt_of 757 (by decide +kernel) (by decide +kernel), rfl, nvW7, nvYk7, nvN7, rfl, by decide +kernel, rfl⟩
theorem lp_X7_97 : nv_Ff "WhoseNameModel" 97 7 34 (.array .int) := ⟨_, _, _, nvY7, rfl, by decide, nv_gt_of 758 (by decide +kernel) (by decide +kernel), rfl, nvW7, nvYk7, nvN7, rfl, by decide +kernel, rfl⟩
theorem lp_X7_100 : nv_Ff "WhoseNameModel" 100 7 35 (.array .int) := ⟨_, _, _, nvY7, rfl, by decide, nv_gt_of 759 (by decide +kernel) (by decide +kernel), rfl, nvW7, nvYk7, nvN7, rfl, by decide +kernel, rfl⟩
theorem lp_X7_103 : nv_Ff "WhoseNameModel" 103 7 36 (.array .int) := ⟨_, _, _, nvY7, rfl, by decide, nv_gt_of 760 (by decide +kernel) (by decide +kernel), rfl, nvW7, nvYk7, nvN7, rfl, by decide +kernel, rfl⟩
theorem lp_X7_106 : nv_Ff "WhoseNameModel" 106 7 37 (.array .int) := ⟨_, _, _, nvY7, rfl, by decide, nv_gt_of 761 (by decide +kernel) (by decide +kernel), rfl, nvW7, nvYk7, nvN7, rfl, by decide +kernel, rfl⟩
theorem lp_X7_109 : nv_Ff "WhoseNameModel" 109 7 39 (.array .int) := ⟨_, _, _, nvY7, rfl, by decide, nv_gt_of 763 (by decide +kernel) (by decide +kernel), rfl, nvW7, nvYk7, nvN7, rfl, by decide +kernel, rfl⟩
theorem lp_X7_112 : nv_Ff "WhoseNameModel" 112 7 40 (.array .int) := ⟨_, _, _, nvY7, rfl, by decide, nv_gt_of 764 (by decide +kernel) (by decide +kernel), rfl, nvW7, nvYk7, nvN7, rfl, by decide +kernel, rfl⟩
theorem lp_X7_115 : nv_Ff "WhoseNameModel" 115 7 42 (.array .int) := ⟨_, _, _, nvY7, rfl, by decide, nv_gt_of 766 (by decide +kernel) (by decide +kernel), rfl, nvW7, nvYk7, nvN7, rfl, by decide +kernel, rfl⟩
theorem lp_X7_118 : nv_Ff "WhoseNameModel" 118 7 43 (.array .int) := ⟨_, _, _, nvY7, rfl, by decide, nv_gt_of 767 (by decide +kernel) (by decide +kernel), rfl, nvW7, nvYk7, nvN7, rfl, by decide +kernel, rfl⟩
theorem lp_X7_121 : nv_Ff "WhoseNameModel" 121 7 44 (.array .int) := ⟨_, _, _, nvY7, rfl, by decide, nv_gt_of 768 (by decide +kernel) (by decide +kernel), rfl, nvW7, nvYk7, nvN7, rfl, by decide +kernel, rfl⟩
theorem lp_X7_124 : nv_Ff "WhoseNameModel" 124 7 46 (.array .int) := ⟨_, _, _, nvY7, rfl, by decide, nv_gt_of 770 (by decide +kernel) (by decide +kernel), rfl, nvW7, nvYk7, nvN7, rfl, by decide +kernel, rfl⟩
theorem lp_X7_131 : nv_Fp "WhoseNameModel" 131 7 4 .int := ⟨_, _, _, nvY7, rfl, by decide, nv_gt_of 728 (by decide +kernel) (by decide +kernel), rfl, nvW7, nvYk7, nvN7, rfl, by decide +kernel⟩
theorem lp_X7_165 : nv_Fp "WhoseNameModel" 165 7 6 .int := ⟨_, _, _, nvY7, rfl, by decide, nv_gt_of 730 (by decide +kernel) (by decide +kernel), rfl, nvW7, nvYk7, nvN7, rfl, by decide +kernel⟩
theorem lp_X7_189 : nv_Fp "WhoseNameModel" 189 7 17 .int := ⟨_, _, _, nvY7, rfl, by decide, nv_gt_of 741 (by decide +kernel) (by decide +kernel), rfl, nvW7, nvYk7, nvN7, rfl, by decide +kernel⟩
theorem lp_X7_197 : nv_Fp "WhoseNameModel" 197 7 23 .int := ⟨_, _, _, nvY7, rfl, by decide, nv_gt_of 747 (by decide +kernel) (by decide +kernel), rfl, nvW7, nvYk7, nvN7, rfl, by decide +kernel⟩
theorem lp_X7_207 : nv_Fp "WhoseNameModel" 207 7 30 .int := ⟨_, _, _, nvY7, rfl, by decide, nv_gt_of 754 (by decide +kernel) (by decide +kernel), rfl, nvW7, nvYk7, nvN7, rfl, by decide +kernel⟩
theorem lp_X7_212 : nv_Fp "WhoseNameModel" 212 7 38 .int := ⟨_, _, _, nvY7, rfl, by decide, nv_gt_of 762 (by decide +kernel) (by decide +kernel), rfl, nvW7, nvYk7, nvN7, rfl, by decide +kernel⟩
theorem lp_X7_259 : nv_Fp "WhoseNameModel" 259 7 41 .int := ⟨_, _, _, nvY7, rfl, by decide, nv_gt_of 765 (by decide +kernel) (by decide +kernel), rfl, nvW7, nvYk7, nvN7, rfl, by decide +kernel⟩
theorem lp_X7_295 : nv_Fp "WhoseNameModel" 295 7 45 .int := ⟨_, _, _, nvY7, rfl, by decide, nv_gt_of 769 (by decide +kernel) (by decide +kernel), rfl, nvW7, nvYk7, nvN7, rfl, by decide +kernel⟩
theorem lm_L_9 : Cond.methodLink "WhoseNameLaw" 9 qX6_init.1 ∈ nv_gt := nv_gt_of 87 (by decide +kernel) (by decide +kernel)
theorem lm_X6_68 : Cond.methodLink "WhoseName" 68 qX3_init.1 ∈ nv_gt := nv_gt_of 211 (by decide +kernel) (by decide +kernel)
theorem lm_X3_18 : Cond.methodLink "WhoseName$Law" 18 qX3_understand.1 ∈ nv_gt := nv_gt_of 215 (by decide +kernel) (by decide +kernel)
theorem lm_X3_25 : Cond.methodLink "WhoseName$Law" 25 qX3_forgetParts.1 ∈ nv_gt := nv_gt_of 219 (by decide +kernel) (by decide +kernel)
theorem ls_X3_35 : Cond.fieldLinkNest "WhoseName$Law" 35 "WhoseName" "LETTER_FIRST" "[I" "WhoseName" ∈ nv_nst := by simp [nv_nst]
theorem lcp_X3 : nv_Lc "WhoseName$Law" 38 := ⟨nv_gt_of 225 (by decide +kernel) (by decide +kernel), nv_gt_of 227 (by decide +kernel) (by decide +kernel), nv_gt_of 226 (by decide +kernel) (by decide +kernel), wi_J10⟩
theorem lm_X3_28 : Cond.methodLink "WhoseName$Law" 28 qX3_takeParts.1 ∈ nv_gt := nv_gt_of 228 (by decide +kernel) (by decide +kernel)
theorem lm_X3_44 : Cond.methodLink "WhoseName$Law" 44 qX3_signAt.1 ∈ nv_gt := nv_gt_of 232 (by decide +kernel) (by decide +kernel)
theorem lm_X3_48 : Cond.methodLink "WhoseName$Law" 48 qX3_letterOf.1 ∈ nv_gt := nv_gt_of 236 (by decide +kernel) (by decide +kernel)
theorem ls_X3_61 : Cond.fieldLinkNest "WhoseName$Law" 61 "WhoseName" "LETTER_SIGNS" "[C" "WhoseName" ∈ nv_nst := by simp [nv_nst]
theorem lm_X3_51 : Cond.methodLink "WhoseName$Law" 51 qX3_figuresFrom.1 ∈ nv_gt := nv_gt_of 241 (by decide +kernel) (by decide +kernel)
theorem lm_X3_65 : Cond.methodLink "WhoseName$Law" 65 qX3_isFigureAt.1 ∈ nv_gt := nv_gt_of 245 (by decide +kernel) (by decide +kernel)
theorem lm_X3_54 : Cond.methodLink "WhoseName$Law" 54 qX3_numberFrom.1 ∈ nv_gt := nv_gt_of 249 (by decide +kernel) (by decide +kernel)
theorem ls_X3_58 : Cond.fieldLinkNest "WhoseName$Law" 58 "WhoseName" "LETTER_MOST" "[I" "WhoseName" ∈ nv_nst := by simp [nv_nst]
theorem lm_L_13 : Cond.methodLink "WhoseNameLaw" 13 qX6_purse.1 ∈ nv_gt := nv_gt_of 348 (by decide +kernel) (by decide +kernel)
theorem lm_X6_70 : Cond.methodLink "WhoseName" 70 qX6_isPerson.1 ∈ nv_gt := nv_gt_of 352 (by decide +kernel) (by decide +kernel)
theorem lm_X6_74 : Cond.methodLink "WhoseName" 74 qX6_isWithin.1 ∈ nv_gt := nv_gt_of 355 (by decide +kernel) (by decide +kernel)
theorem lm_L_18 : Cond.methodLink "WhoseNameLaw" 18 qX6_leave.1 ∈ nv_gt := nv_gt_of 358 (by decide +kernel) (by decide +kernel)
theorem lm_X6_78 : Cond.methodLink "WhoseName" 78 qX6_mayBeGiven.1 ∈ nv_gt := nv_gt_of 362 (by decide +kernel) (by decide +kernel)
theorem lm_X6_126 : Cond.methodLink "WhoseName" 126 qX6_mayBePassed.1 ∈ nv_gt := nv_gt_of 366 (by decide +kernel) (by decide +kernel)
theorem lm_X6_114 : Cond.methodLink "WhoseName" 114 qX6_isLeave.1 ∈ nv_gt := nv_gt_of 370 (by decide +kernel) (by decide +kernel)
theorem lm_X6_129 : Cond.methodLink "WhoseName" 129 qX6_isFlag.1 ∈ nv_gt := nv_gt_of 374 (by decide +kernel) (by decide +kernel)
theorem lm_X6_82 : Cond.methodLink "WhoseName" 82 qX6_isScope.1 ∈ nv_gt := nv_gt_of 377 (by decide +kernel) (by decide +kernel)
theorem lm_X6_132 : Cond.methodLink "WhoseName" 132 qX6_isAmount.1 ∈ nv_gt := nv_gt_of 380 (by decide +kernel) (by decide +kernel)
theorem lm_X6_135 : Cond.methodLink "WhoseName" 135 qX6_isDay.1 ∈ nv_gt := nv_gt_of 383 (by decide +kernel) (by decide +kernel)
theorem lm_X6_110 : Cond.methodLink "WhoseName" 110 qX6_setSource.1 ∈ nv_gt := nv_gt_of 386 (by decide +kernel) (by decide +kernel)
theorem lm_L_23 : Cond.methodLink "WhoseNameLaw" 23 qX6_back.1 ∈ nv_gt := nv_gt_of 390 (by decide +kernel) (by decide +kernel)
theorem lm_L_28 : Cond.methodLink "WhoseNameLaw" 28 qX6_heard.1 ∈ nv_gt := nv_gt_of 394 (by decide +kernel) (by decide +kernel)
theorem lm_X6_153 : Cond.methodLink "WhoseName" 153 qX6_isBack.1 ∈ nv_gt := nv_gt_of 398 (by decide +kernel) (by decide +kernel)
theorem lm_L_32 : Cond.methodLink "WhoseNameLaw" 32 qX6_bargain.1 ∈ nv_gt := nv_gt_of 402 (by decide +kernel) (by decide +kernel)
theorem lm_L_37 : Cond.methodLink "WhoseNameLaw" 37 qX6_read.1 ∈ nv_gt := nv_gt_of 406 (by decide +kernel) (by decide +kernel)
theorem lm_X6_180 : Cond.methodLink "WhoseName" 180 qX6_isSheet.1 ∈ nv_gt := nv_gt_of 410 (by decide +kernel) (by decide +kernel)
theorem lm_X6_187 : Cond.methodLink "WhoseName" 187 qX6_find.1 ∈ nv_gt := nv_gt_of 413 (by decide +kernel) (by decide +kernel)
theorem lm_X6_194 : Cond.methodLink "WhoseName" 194 qX5_itemAt.1 ∈ nv_gt := nv_gt_of 417 (by decide +kernel) (by decide +kernel)
theorem lm_X5_26 : Cond.methodLink "WhoseName$Sheet" 26 qX5_has.1 ∈ nv_gt := nv_gt_of 421 (by decide +kernel) (by decide +kernel)
theorem lm_X6_197 : Cond.methodLink "WhoseName" 197 qX6_bargain.1 ∈ nv_gt := nv_gt_of 425 (by decide +kernel) (by decide +kernel)
theorem lm_L_42 : Cond.methodLink "WhoseNameLaw" 42 qX6_after.1 ∈ nv_gt := nv_gt_of 426 (by decide +kernel) (by decide +kernel)
theorem lm_X6_201 : Cond.methodLink "WhoseName" 201 qX6_isBargain.1 ∈ nv_gt := nv_gt_of 430 (by decide +kernel) (by decide +kernel)
theorem lm_L_47 : Cond.methodLink "WhoseNameLaw" 47 qX6_leaveIs.1 ∈ nv_gt := nv_gt_of 434 (by decide +kernel) (by decide +kernel)
theorem lm_L_51 : Cond.methodLink "WhoseNameLaw" 51 qX6_bargainIs.1 ∈ nv_gt := nv_gt_of 438 (by decide +kernel) (by decide +kernel)
theorem lm_L_55 : Cond.methodLink "WhoseNameLaw" 55 qX6_type.1 ∈ nv_gt := nv_gt_of 442 (by decide +kernel) (by decide +kernel)
theorem lm_X6_217 : Cond.methodLink "WhoseName" 217 qX6_isLaw.1 ∈ nv_gt := nv_gt_of 446 (by decide +kernel) (by decide +kernel)
theorem lm_X6_221 : Cond.methodLink "WhoseName" 221 qX3_append.1 ∈ nv_gt := nv_gt_of 449 (by decide +kernel) (by decide +kernel)
theorem lm_L_59 : Cond.methodLink "WhoseNameLaw" 59 qX6_wipe.1 ∈ nv_gt := nv_gt_of 453 (by decide +kernel) (by decide +kernel)
theorem lm_X6_225 : Cond.methodLink "WhoseName" 225 qX3_clear.1 ∈ nv_gt := nv_gt_of 457 (by decide +kernel) (by decide +kernel)
theorem lm_L_63 : Cond.methodLink "WhoseNameLaw" 63 qX6_fault.1 ∈ nv_gt := nv_gt_of 461 (by decide +kernel) (by decide +kernel)
theorem lm_L_67 : Cond.methodLink "WhoseNameLaw" 67 qX6_law.1 ∈ nv_gt := nv_gt_of 465 (by decide +kernel) (by decide +kernel)
theorem lm_L_71 : Cond.methodLink "WhoseNameLaw" 71 qX6_reaches.1 ∈ nv_gt := nv_gt_of 469 (by decide +kernel) (by decide +kernel)
theorem lm_X6_234 : Cond.methodLink "WhoseName" 234 qX6_reachesIn.1 ∈ nv_gt := nv_gt_of 473 (by decide +kernel) (by decide +kernel)
theorem lm_X6_277 : Cond.methodLink "WhoseName" 277 qX6_isAimedAt.1 ∈ nv_gt := nv_gt_of 477 (by decide +kernel) (by decide +kernel)
theorem lm_X6_281 : Cond.methodLink "WhoseName" 281 qX6_hasRoomFor.1 ∈ nv_gt := nv_gt_of 480 (by decide +kernel) (by decide +kernel)
theorem lm_X6_265 : Cond.methodLink "WhoseName" 265 qX6_hasBit.1 ∈ nv_gt := nv_gt_of 483 (by decide +kernel) (by decide +kernel)
theorem lm_X6_269 : Cond.methodLink "WhoseName" 269 qX6_limitOf.1 ∈ nv_gt := nv_gt_of 486 (by decide +kernel) (by decide +kernel)
theorem lm_X6_273 : Cond.methodLink "WhoseName" 273 qX6_stretched.1 ∈ nv_gt := nv_gt_of 489 (by decide +kernel) (by decide +kernel)
theorem lm_X6_238 : Cond.methodLink "WhoseName" 238 qX6_isEnded.1 ∈ nv_gt := nv_gt_of 492 (by decide +kernel) (by decide +kernel)
theorem lm_X6_258 : Cond.methodLink "WhoseName" 258 qX6_hearerOf.1 ∈ nv_gt := nv_gt_of 496 (by decide +kernel) (by decide +kernel)
theorem lm_X6_262 : Cond.methodLink "WhoseName" 262 qX6_hearingDay.1 ∈ nv_gt := nv_gt_of 499 (by decide +kernel) (by decide +kernel)
theorem lm_L_75 : Cond.methodLink "WhoseNameLaw" 75 qX6_bound.1 ∈ nv_gt := nv_gt_of 503 (by decide +kernel) (by decide +kernel)
theorem lm_X6_241 : Cond.methodLink "WhoseName" 241 qX6_boundBits.1 ∈ nv_gt := nv_gt_of 507 (by decide +kernel) (by decide +kernel)
theorem lm_X6_245 : Cond.methodLink "WhoseName" 245 qX6_reasonIn.1 ∈ nv_gt := nv_gt_of 511 (by decide +kernel) (by decide +kernel)
theorem lm_X6_292 : Cond.methodLink "WhoseName" 292 qX6_isWell.1 ∈ nv_gt := nv_gt_of 515 (by decide +kernel) (by decide +kernel)
theorem lm_X6_284 : Cond.methodLink "WhoseName" 284 qX6_isSaidByNamed.1 ∈ nv_gt := nv_gt_of 519 (by decide +kernel) (by decide +kernel)
theorem lm_X6_288 : Cond.methodLink "WhoseName" 288 qX6_wasRefusedAhead.1 ∈ nv_gt := nv_gt_of 522 (by decide +kernel) (by decide +kernel)
theorem lm_X6_296 : Cond.methodLink "WhoseName" 296 qX6_bitsOfReason.1 ∈ nv_gt := nv_gt_of 526 (by decide +kernel) (by decide +kernel)
theorem lm_L_80 : Cond.methodLink "WhoseNameLaw" 80 qX6_till.1 ∈ nv_gt := nv_gt_of 530 (by decide +kernel) (by decide +kernel)
theorem lm_X6_248 : Cond.methodLink "WhoseName" 248 qX2_isForAnother.1 ∈ nv_gt := nv_gt_of 534 (by decide +kernel) (by decide +kernel)
theorem lm_X6_252 : Cond.methodLink "WhoseName" 252 qJ9_min.1 ∈ nv_gt := nv_gt_of 538 (by decide +kernel) (by decide +kernel)
set_option maxRecDepth 100000 in
theorem lmin_X6 : nv_Lmin "WhoseName" 252 := ⟨nv_gt_of 538 (by decide +kernel) (by decide +kernel), nv_gt_of 539 (by decide +kernel) (by decide +kernel), wi_J9, nv_gt_of 540 rfl rfl⟩
theorem lm_L_84 : Cond.methodLink "WhoseNameLaw" 84 qX6_ask.1 ∈ nv_gt := nv_gt_of 541 (by decide +kernel) (by decide +kernel)
theorem lm_X6_299 : Cond.methodLink "WhoseName" 299 qX6_askOf.1 ∈ nv_gt := nv_gt_of 545 (by decide +kernel) (by decide +kernel)
theorem lm_L_88 : Cond.methodLink "WhoseNameLaw" 88 qX6_owes.1 ∈ nv_gt := nv_gt_of 548 (by decide +kernel) (by decide +kernel)
theorem lm_X6_303 : Cond.methodLink "WhoseName" 303 qX6_owedBy.1 ∈ nv_gt := nv_gt_of 552 (by decide +kernel) (by decide +kernel)
theorem lm_X6_310 : Cond.methodLink "WhoseName" 310 qJ9_max.1 ∈ nv_gt := nv_gt_of 556 (by decide +kernel) (by decide +kernel)
set_option maxRecDepth 100000 in
theorem lmax_X6 : nv_Lmax "WhoseName" 310 := ⟨nv_gt_of 556 (by decide +kernel) (by decide +kernel), nv_gt_of 557 (by decide +kernel) (by decide +kernel), wi_J9, nv_gt_of 558 rfl rfl⟩
theorem lm_L_92 : Cond.methodLink "WhoseNameLaw" 92 qX6_end.1 ∈ nv_gt := nv_gt_of 559 (by decide +kernel) (by decide +kernel)
theorem lm_X6_306 : Cond.methodLink "WhoseName" 306 qX6_settle.1 ∈ nv_gt := nv_gt_of 563 (by decide +kernel) (by decide +kernel)
theorem lcp_X6 : nv_Lc "WhoseName" 313 := ⟨nv_gt_of 567 (by decide +kernel) (by decide +kernel), nv_gt_of 227 (by decide +kernel) (by decide +kernel), nv_gt_of 226 (by decide +kernel) (by decide +kernel), wi_J10⟩
theorem lm_X6_319 : Cond.methodLink "WhoseName" 319 qX6_settleBargain.1 ∈ nv_gt := nv_gt_of 568 (by decide +kernel) (by decide +kernel)
theorem lm_X6_323 : Cond.methodLink "WhoseName" 323 qX6_pay.1 ∈ nv_gt := nv_gt_of 572 (by decide +kernel) (by decide +kernel)
theorem lm_X6_327 : Cond.methodLink "WhoseName" 327 qX6_leastPerson.1 ∈ nv_gt := nv_gt_of 576 (by decide +kernel) (by decide +kernel)
theorem lm_L_96 : Cond.methodLink "WhoseNameLaw" 96 qX6_sure.1 ∈ nv_gt := nv_gt_of 579 (by decide +kernel) (by decide +kernel)
theorem lm_X6_330 : Cond.methodLink "WhoseName" 330 qX6_tryWays.1 ∈ nv_gt := nv_gt_of 583 (by decide +kernel) (by decide +kernel)
theorem lm_X6_334 : Cond.methodLink "WhoseName" 334 qX6_findOpenBacks.1 ∈ nv_gt := nv_gt_of 587 (by decide +kernel) (by decide +kernel)
theorem lm_X6_360 : Cond.methodLink "WhoseName" 360 qX6_wayOf.1 ∈ nv_gt := nv_gt_of 591 (by decide +kernel) (by decide +kernel)
theorem lm_L_100 : Cond.methodLink "WhoseNameLaw" 100 qX6_hangs.1 ∈ nv_gt := nv_gt_of 595 (by decide +kernel) (by decide +kernel)
theorem lm_X6_340 : Cond.methodLink "WhoseName" 340 qX6_isTurnedBy.1 ∈ nv_gt := nv_gt_of 599 (by decide +kernel) (by decide +kernel)
theorem lm_L_104 : Cond.methodLink "WhoseNameLaw" 104 qX6_wanted.1 ∈ nv_gt := nv_gt_of 603 (by decide +kernel) (by decide +kernel)
theorem lm_L_108 : Cond.methodLink "WhoseNameLaw" 108 qX6_turned.1 ∈ nv_gt := nv_gt_of 607 (by decide +kernel) (by decide +kernel)
theorem lm_X6_343 : Cond.methodLink "WhoseName" 343 qX6_fewestLetters.1 ∈ nv_gt := nv_gt_of 611 (by decide +kernel) (by decide +kernel)
theorem lm_X6_363 : Cond.methodLink "WhoseName" 363 qX6_unlikeLetters.1 ∈ nv_gt := nv_gt_of 615 (by decide +kernel) (by decide +kernel)
theorem lm_X6_367 : Cond.methodLink "WhoseName" 367 qJ6_bitCount.1 ∈ nv_gt := nv_gt_of 619 (by decide +kernel) (by decide +kernel)
theorem lc_J6_265 : Cond.constant "java/lang/Integer" 265 1431655765 ∈ nv_gt := nv_gt_of 622 (by decide +kernel) (by decide +kernel)
theorem lc_J6_266 : Cond.constant "java/lang/Integer" 266 858993459 ∈ nv_gt := nv_gt_of 623 (by decide +kernel) (by decide +kernel)
theorem lc_J6_267 : Cond.constant "java/lang/Integer" 267 252645135 ∈ nv_gt := nv_gt_of 624 (by decide +kernel) (by decide +kernel)
theorem lm_X6_372 : Cond.methodLink "WhoseName" 372 qX6_mixLaws.1 ∈ nv_gt := nv_gt_of 625 (by decide +kernel) (by decide +kernel)
theorem lm_L_112 : Cond.methodLink "WhoseNameLaw" 112 qX6_letter.1 ∈ nv_gt := nv_gt_of 629 (by decide +kernel) (by decide +kernel)
theorem lm_X6_347 : Cond.methodLink "WhoseName" 347 qX6_bargainsBetween.1 ∈ nv_gt := nv_gt_of 633 (by decide +kernel) (by decide +kernel)
theorem lm_X6_350 : Cond.methodLink "WhoseName" 350 qX6_boundAlready.1 ∈ nv_gt := nv_gt_of 637 (by decide +kernel) (by decide +kernel)
theorem ls_X6_353 : Cond.fieldLink "WhoseName" 353 "WhoseName" "SORT_SETS" "[I" ∈ nv_gt := nv_gt_of 641 (by decide +kernel) (by decide +kernel)
theorem lm_X6_356 : Cond.methodLink "WhoseName" 356 qX6_reachedByLetter.1 ∈ nv_gt := nv_gt_of 643 (by decide +kernel) (by decide +kernel)
theorem lm_L_116 : Cond.methodLink "WhoseNameLaw" 116 qX6_sheet.1 ∈ nv_gt := nv_gt_of 647 (by decide +kernel) (by decide +kernel)
theorem lm_X6_375 : Cond.methodLink "WhoseName" 375 qX6_isKind.1 ∈ nv_gt := nv_gt_of 651 (by decide +kernel) (by decide +kernel)
theorem lm_X6_378 : Cond.methodLink "WhoseName" 378 qX5_renew.1 ∈ nv_gt := nv_gt_of 654 (by decide +kernel) (by decide +kernel)
theorem lm_L_120 : Cond.methodLink "WhoseNameLaw" 120 qX6_lose.1 ∈ nv_gt := nv_gt_of 658 (by decide +kernel) (by decide +kernel)
theorem lm_L_124 : Cond.methodLink "WhoseNameLaw" 124 qX6_lay.1 ∈ nv_gt := nv_gt_of 662 (by decide +kernel) (by decide +kernel)
theorem lm_X6_382 : Cond.methodLink "WhoseName" 382 qX6_findingAt.1 ∈ nv_gt := nv_gt_of 666 (by decide +kernel) (by decide +kernel)
theorem lm_X6_419 : Cond.methodLink "WhoseName" 419 qX5_has.1 ∈ nv_gt := nv_gt_of 669 (by decide +kernel) (by decide +kernel)
theorem lm_X6_386 : Cond.methodLink "WhoseName" 386 qX5_put.1 ∈ nv_gt := nv_gt_of 670 (by decide +kernel) (by decide +kernel)
theorem lm_X5_30 : Cond.methodLink "WhoseName$Sheet" 30 qX5_lowestBits.1 ∈ nv_gt := nv_gt_of 674 (by decide +kernel) (by decide +kernel)
theorem lm_L_128 : Cond.methodLink "WhoseNameLaw" 128 qX6_get.1 ∈ nv_gt := nv_gt_of 678 (by decide +kernel) (by decide +kernel)
theorem lc_X6_389 : Cond.constant "WhoseName" 389 (-2147483648) ∈ nv_gt := nv_gt_of 682 (by decide +kernel) (by decide +kernel)
theorem lm_L_132 : Cond.methodLink "WhoseNameLaw" 132 qX6_copy.1 ∈ nv_gt := nv_gt_of 683 (by decide +kernel) (by decide +kernel)
theorem lm_X6_393 : Cond.methodLink "WhoseName" 393 qX5_hasRow.1 ∈ nv_gt := nv_gt_of 687 (by decide +kernel) (by decide +kernel)
theorem lm_L_136 : Cond.methodLink "WhoseNameLaw" 136 qX6_write.1 ∈ nv_gt := nv_gt_of 691 (by decide +kernel) (by decide +kernel)
theorem lm_L_140 : Cond.methodLink "WhoseNameLaw" 140 qX6_count.1 ∈ nv_gt := nv_gt_of 695 (by decide +kernel) (by decide +kernel)
theorem lm_X6_399 : Cond.methodLink "WhoseName" 399 qX6_allOpen.1 ∈ nv_gt := nv_gt_of 699 (by decide +kernel) (by decide +kernel)
theorem lm_X6_402 : Cond.methodLink "WhoseName" 402 qX6_allPurses.1 ∈ nv_gt := nv_gt_of 703 (by decide +kernel) (by decide +kernel)
theorem lm_L_144 : Cond.methodLink "WhoseNameLaw" 144 qX6_digest.1 ∈ nv_gt := nv_gt_of 707 (by decide +kernel) (by decide +kernel)
theorem lc_X6_408 : Cond.constantLong "WhoseName" 408 17 ∈ nv_gt := nv_gt_of 711 (by decide +kernel) (by decide +kernel)
theorem lc_X6_410 : Cond.constantLong "WhoseName" 410 31 ∈ nv_gt := nv_gt_of 712 (by decide +kernel) (by decide +kernel)
theorem lm_X6_412 : Cond.methodLink "WhoseName" 412 qX6_count.1 ∈ nv_gt := nv_gt_of 713 (by decide +kernel) (by decide +kernel)
theorem lm_X6_415 : Cond.methodLink "WhoseName" 415 qX6_digestLaw.1 ∈ nv_gt := nv_gt_of 714 (by decide +kernel) (by decide +kernel)
theorem lm_L_12 : Cond.methodLink "WhoseNameLaw" 12 qX7_init.1 ∈ nv_gt := nv_gt_of 720 (by decide +kernel) (by decide +kernel)
theorem lm_L_119 : Cond.methodLink "WhoseNameLaw" 119 qX7_sheet.1 ∈ nv_gt := nv_gt_of 866 (by decide +kernel) (by decide +kernel)
theorem lm_X7_137 : Cond.methodLink "WhoseNameModel" 137 qX7_isSheet.1 ∈ nv_gt := nv_gt_of 870 (by decide +kernel) (by decide +kernel)
theorem lc_X7_135 : Cond.constantLong "WhoseNameModel" 135 3 ∈ nv_gt := nv_gt_of 873 (by decide +kernel) (by decide +kernel)
theorem lm_X7_127 : Cond.methodLink "WhoseNameModel" 127 qX7_in.1 ∈ nv_gt := nv_gt_of 874 (by decide +kernel) (by decide +kernel)
theorem lc_X7_141 : Cond.constantLong "WhoseNameModel" 141 2 ∈ nv_gt := nv_gt_of 877 (by decide +kernel) (by decide +kernel)
theorem lm_X7_143 : Cond.methodLink "WhoseNameModel" 143 qX7_met.1 ∈ nv_gt := nv_gt_of 878 (by decide +kernel) (by decide +kernel)
theorem lm_L_123 : Cond.methodLink "WhoseNameLaw" 123 qX7_lose.1 ∈ nv_gt := nv_gt_of 882 (by decide +kernel) (by decide +kernel)
theorem lm_L_127 : Cond.methodLink "WhoseNameLaw" 127 qX7_lay.1 ∈ nv_gt := nv_gt_of 886 (by decide +kernel) (by decide +kernel)
theorem lm_X7_147 : Cond.methodLink "WhoseNameModel" 147 qX7_lacks.1 ∈ nv_gt := nv_gt_of 890 (by decide +kernel) (by decide +kernel)
theorem lm_X7_151 : Cond.methodLink "WhoseNameModel" 151 qX7_cut.1 ∈ nv_gt := nv_gt_of 894 (by decide +kernel) (by decide +kernel)
theorem lm_L_131 : Cond.methodLink "WhoseNameLaw" 131 qX7_get.1 ∈ nv_gt := nv_gt_of 897 (by decide +kernel) (by decide +kernel)
theorem lc_X7_155 : Cond.constant "WhoseNameModel" 155 (-2147483648) ∈ nv_gt := nv_gt_of 901 (by decide +kernel) (by decide +kernel)
theorem lm_L_135 : Cond.methodLink "WhoseNameLaw" 135 qX7_copy.1 ∈ nv_gt := nv_gt_of 902 (by decide +kernel) (by decide +kernel)
theorem lm_L_17 : Cond.methodLink "WhoseNameLaw" 17 qX7_purse.1 ∈ nv_gt := nv_gt_of 906 (by decide +kernel) (by decide +kernel)
theorem lm_X7_160 : Cond.methodLink "WhoseNameModel" 160 qX7_isPerson.1 ∈ nv_gt := nv_gt_of 910 (by decide +kernel) (by decide +kernel)
theorem lc_X7_156 : Cond.constantLong "WhoseNameModel" 156 7 ∈ nv_gt := nv_gt_of 913 (by decide +kernel) (by decide +kernel)
theorem lc_X7_163 : Cond.constantLong "WhoseNameModel" 163 9999 ∈ nv_gt := nv_gt_of 914 (by decide +kernel) (by decide +kernel)
theorem lm_L_22 : Cond.methodLink "WhoseNameLaw" 22 qX7_leave.1 ∈ nv_gt := nv_gt_of 915 (by decide +kernel) (by decide +kernel)
theorem lm_X7_174 : Cond.methodLink "WhoseNameModel" 174 qX7_isGiven.1 ∈ nv_gt := nv_gt_of 919 (by decide +kernel) (by decide +kernel)
theorem lm_X7_168 : Cond.methodLink "WhoseNameModel" 168 qX7_isLeave.1 ∈ nv_gt := nv_gt_of 923 (by decide +kernel) (by decide +kernel)
theorem lm_X7_171 : Cond.methodLink "WhoseNameModel" 171 qX7_isTwo.1 ∈ nv_gt := nv_gt_of 927 (by decide +kernel) (by decide +kernel)
theorem lc_X7_178 : Cond.constantLong "WhoseNameModel" 178 15 ∈ nv_gt := nv_gt_of 930 (by decide +kernel) (by decide +kernel)
theorem lc_X7_180 : Cond.constantLong "WhoseNameModel" 180 999 ∈ nv_gt := nv_gt_of 931 (by decide +kernel) (by decide +kernel)
theorem lm_X7_182 : Cond.methodLink "WhoseNameModel" 182 qX7_isDay.1 ∈ nv_gt := nv_gt_of 932 (by decide +kernel) (by decide +kernel)
theorem lc_X7_158 : Cond.constantLong "WhoseNameModel" 158 99 ∈ nv_gt := nv_gt_of 935 (by decide +kernel) (by decide +kernel)
theorem lm_X7_185 : Cond.methodLink "WhoseNameModel" 185 qX7_lays.1 ∈ nv_gt := nv_gt_of 936 (by decide +kernel) (by decide +kernel)
theorem lm_L_50 : Cond.methodLink "WhoseNameLaw" 50 qX7_leaveIs.1 ∈ nv_gt := nv_gt_of 940 (by decide +kernel) (by decide +kernel)
theorem lm_L_27 : Cond.methodLink "WhoseNameLaw" 27 qX7_back.1 ∈ nv_gt := nv_gt_of 944 (by decide +kernel) (by decide +kernel)
theorem lc_X7_192 : Cond.constantLong "WhoseNameModel" 192 100 ∈ nv_gt := nv_gt_of 948 (by decide +kernel) (by decide +kernel)
theorem lm_L_31 : Cond.methodLink "WhoseNameLaw" 31 qX7_heard.1 ∈ nv_gt := nv_gt_of 949 (by decide +kernel) (by decide +kernel)
theorem lm_X7_194 : Cond.methodLink "WhoseNameModel" 194 qX7_isBack.1 ∈ nv_gt := nv_gt_of 953 (by decide +kernel) (by decide +kernel)
theorem lm_L_36 : Cond.methodLink "WhoseNameLaw" 36 qX7_bargain.1 ∈ nv_gt := nv_gt_of 957 (by decide +kernel) (by decide +kernel)
theorem lm_L_41 : Cond.methodLink "WhoseNameLaw" 41 qX7_read.1 ∈ nv_gt := nv_gt_of 961 (by decide +kernel) (by decide +kernel)
theorem lm_X7_200 : Cond.methodLink "WhoseNameModel" 200 qX7_bargain.1 ∈ nv_gt := nv_gt_of 965 (by decide +kernel) (by decide +kernel)
theorem lm_L_46 : Cond.methodLink "WhoseNameLaw" 46 qX7_after.1 ∈ nv_gt := nv_gt_of 966 (by decide +kernel) (by decide +kernel)
theorem lm_X7_204 : Cond.methodLink "WhoseNameModel" 204 qX7_isBargain.1 ∈ nv_gt := nv_gt_of 970 (by decide +kernel) (by decide +kernel)
theorem lm_L_54 : Cond.methodLink "WhoseNameLaw" 54 qX7_bargainIs.1 ∈ nv_gt := nv_gt_of 974 (by decide +kernel) (by decide +kernel)
theorem lm_L_58 : Cond.methodLink "WhoseNameLaw" 58 qX7_type.1 ∈ nv_gt := nv_gt_of 978 (by decide +kernel) (by decide +kernel)
theorem lc_X7_210 : Cond.constantLong "WhoseNameModel" 210 255 ∈ nv_gt := nv_gt_of 982 (by decide +kernel) (by decide +kernel)
theorem lm_L_62 : Cond.methodLink "WhoseNameLaw" 62 qX7_wipe.1 ∈ nv_gt := nv_gt_of 983 (by decide +kernel) (by decide +kernel)
theorem lm_L_66 : Cond.methodLink "WhoseNameLaw" 66 qX7_fault.1 ∈ nv_gt := nv_gt_of 987 (by decide +kernel) (by decide +kernel)
theorem lm_X7_238 : Cond.methodLink "WhoseNameModel" 238 qX7_reads.1 ∈ nv_gt := nv_gt_of 991 (by decide +kernel) (by decide +kernel)
theorem lm_X7_231 : Cond.methodLink "WhoseNameModel" 231 qX7_clears.1 ∈ nv_gt := nv_gt_of 995 (by decide +kernel) (by decide +kernel)
theorem lm_X7_215 : Cond.methodLink "WhoseNameModel" 215 qX7_usual.1 ∈ nv_gt := nv_gt_of 999 (by decide +kernel) (by decide +kernel)
theorem lm_X7_235 : Cond.methodLink "WhoseNameModel" 235 qX7_readsPart.1 ∈ nv_gt := nv_gt_of 1002 (by decide +kernel) (by decide +kernel)
theorem lm_X7_218 : Cond.methodLink "WhoseNameModel" 218 qX7_here.1 ∈ nv_gt := nv_gt_of 1006 (by decide +kernel) (by decide +kernel)
theorem lm_X7_221 : Cond.methodLink "WhoseNameModel" 221 qX7_letterOf.1 ∈ nv_gt := nv_gt_of 1010 (by decide +kernel) (by decide +kernel)
theorem lc_X7_224 : Cond.constantLong "WhoseNameModel" 224 48 ∈ nv_gt := nv_gt_of 1013 (by decide +kernel) (by decide +kernel)
theorem lc_X7_226 : Cond.constantLong "WhoseNameModel" 226 57 ∈ nv_gt := nv_gt_of 1014 (by decide +kernel) (by decide +kernel)
theorem lm_X7_228 : Cond.methodLink "WhoseNameModel" 228 qX7_greatest.1 ∈ nv_gt := nv_gt_of 1015 (by decide +kernel) (by decide +kernel)
theorem lm_L_70 : Cond.methodLink "WhoseNameLaw" 70 qX7_law.1 ∈ nv_gt := nv_gt_of 1018 (by decide +kernel) (by decide +kernel)
theorem lc_X7_241 : Cond.constantLong "WhoseNameModel" 241 8 ∈ nv_gt := nv_gt_of 1022 (by decide +kernel) (by decide +kernel)
theorem lm_X7_243 : Cond.methodLink "WhoseNameModel" 243 qX7_lawOf.1 ∈ nv_gt := nv_gt_of 1023 (by decide +kernel) (by decide +kernel)
theorem lm_L_74 : Cond.methodLink "WhoseNameLaw" 74 qX7_reaches.1 ∈ nv_gt := nv_gt_of 1027 (by decide +kernel) (by decide +kernel)
theorem lm_X7_268 : Cond.methodLink "WhoseNameModel" 268 qX7_goes.1 ∈ nv_gt := nv_gt_of 1031 (by decide +kernel) (by decide +kernel)
theorem lm_X7_256 : Cond.methodLink "WhoseNameModel" 256 qX7_reachesNow.1 ∈ nv_gt := nv_gt_of 1035 (by decide +kernel) (by decide +kernel)
theorem lm_X7_253 : Cond.methodLink "WhoseNameModel" 253 qX7_has.1 ∈ nv_gt := nv_gt_of 1039 (by decide +kernel) (by decide +kernel)
theorem lm_X7_246 : Cond.methodLink "WhoseNameModel" 246 qX7_limitOf.1 ∈ nv_gt := nv_gt_of 1043 (by decide +kernel) (by decide +kernel)
theorem lm_X7_249 : Cond.methodLink "WhoseNameModel" 249 qX7_isEnded.1 ∈ nv_gt := nv_gt_of 1047 (by decide +kernel) (by decide +kernel)
theorem lm_L_79 : Cond.methodLink "WhoseNameLaw" 79 qX7_bound.1 ∈ nv_gt := nv_gt_of 1051 (by decide +kernel) (by decide +kernel)
theorem lm_X7_274 : Cond.methodLink "WhoseNameModel" 274 qX7_boundOf.1 ∈ nv_gt := nv_gt_of 1055 (by decide +kernel) (by decide +kernel)
theorem lm_X7_271 : Cond.methodLink "WhoseNameModel" 271 qX7_boundNow.1 ∈ nv_gt := nv_gt_of 1059 (by decide +kernel) (by decide +kernel)
theorem lm_X7_262 : Cond.methodLink "WhoseNameModel" 262 qX7_firstLeave.1 ∈ nv_gt := nv_gt_of 1063 (by decide +kernel) (by decide +kernel)
theorem lm_X7_265 : Cond.methodLink "WhoseNameModel" 265 qX7_isWell.1 ∈ nv_gt := nv_gt_of 1067 (by decide +kernel) (by decide +kernel)
theorem lm_L_83 : Cond.methodLink "WhoseNameLaw" 83 qX7_till.1 ∈ nv_gt := nv_gt_of 1071 (by decide +kernel) (by decide +kernel)
theorem lm_L_87 : Cond.methodLink "WhoseNameLaw" 87 qX7_ask.1 ∈ nv_gt := nv_gt_of 1075 (by decide +kernel) (by decide +kernel)
theorem lm_X7_277 : Cond.methodLink "WhoseNameModel" 277 qX7_askNow.1 ∈ nv_gt := nv_gt_of 1079 (by decide +kernel) (by decide +kernel)
theorem lm_L_91 : Cond.methodLink "WhoseNameLaw" 91 qX7_owes.1 ∈ nv_gt := nv_gt_of 1083 (by decide +kernel) (by decide +kernel)
theorem lm_X7_283 : Cond.methodLink "WhoseNameModel" 283 qX7_owesOf.1 ∈ nv_gt := nv_gt_of 1087 (by decide +kernel) (by decide +kernel)
theorem lm_X7_280 : Cond.methodLink "WhoseNameModel" 280 qX7_owesNow.1 ∈ nv_gt := nv_gt_of 1091 (by decide +kernel) (by decide +kernel)
theorem lm_L_95 : Cond.methodLink "WhoseNameLaw" 95 qX7_end.1 ∈ nv_gt := nv_gt_of 1095 (by decide +kernel) (by decide +kernel)
theorem lm_X7_292 : Cond.methodLink "WhoseNameModel" 292 qX7_findEnd.1 ∈ nv_gt := nv_gt_of 1099 (by decide +kernel) (by decide +kernel)
theorem lm_X7_289 : Cond.methodLink "WhoseNameModel" 289 qX7_settles.1 ∈ nv_gt := nv_gt_of 1103 (by decide +kernel) (by decide +kernel)
theorem lm_X7_286 : Cond.methodLink "WhoseNameModel" 286 qX7_pays.1 ∈ nv_gt := nv_gt_of 1107 (by decide +kernel) (by decide +kernel)
theorem lm_L_99 : Cond.methodLink "WhoseNameLaw" 99 qX7_sure.1 ∈ nv_gt := nv_gt_of 1111 (by decide +kernel) (by decide +kernel)
theorem lm_X7_301 : Cond.methodLink "WhoseNameModel" 301 qX7_findWays.1 ∈ nv_gt := nv_gt_of 1115 (by decide +kernel) (by decide +kernel)
theorem lm_X7_298 : Cond.methodLink "WhoseNameModel" 298 qX7_findOpen.1 ∈ nv_gt := nv_gt_of 1119 (by decide +kernel) (by decide +kernel)
theorem lm_L_103 : Cond.methodLink "WhoseNameLaw" 103 qX7_hangs.1 ∈ nv_gt := nv_gt_of 1123 (by decide +kernel) (by decide +kernel)
theorem lm_L_107 : Cond.methodLink "WhoseNameLaw" 107 qX7_wanted.1 ∈ nv_gt := nv_gt_of 1127 (by decide +kernel) (by decide +kernel)
theorem lm_X7_305 : Cond.methodLink "WhoseNameModel" 305 qX7_ones.1 ∈ nv_gt := nv_gt_of 1131 (by decide +kernel) (by decide +kernel)
theorem lm_X7_308 : Cond.methodLink "WhoseNameModel" 308 qX7_isEnough.1 ∈ nv_gt := nv_gt_of 1134 (by decide +kernel) (by decide +kernel)
theorem lm_L_111 : Cond.methodLink "WhoseNameLaw" 111 qX7_turned.1 ∈ nv_gt := nv_gt_of 1138 (by decide +kernel) (by decide +kernel)
theorem lm_X7_311 : Cond.methodLink "WhoseNameModel" 311 qX7_turnedOf.1 ∈ nv_gt := nv_gt_of 1142 (by decide +kernel) (by decide +kernel)
theorem lm_L_115 : Cond.methodLink "WhoseNameLaw" 115 qX7_letter.1 ∈ nv_gt := nv_gt_of 1146 (by decide +kernel) (by decide +kernel)
theorem lm_X7_314 : Cond.methodLink "WhoseNameModel" 314 qX7_isOfBoth.1 ∈ nv_gt := nv_gt_of 1150 (by decide +kernel) (by decide +kernel)
theorem lm_X7_318 : Cond.methodLink "WhoseNameModel" 318 qX7_isJust.1 ∈ nv_gt := nv_gt_of 1154 (by decide +kernel) (by decide +kernel)
theorem lm_L_139 : Cond.methodLink "WhoseNameLaw" 139 qX7_write.1 ∈ nv_gt := nv_gt_of 1158 (by decide +kernel) (by decide +kernel)
theorem lm_L_143 : Cond.methodLink "WhoseNameLaw" 143 qX7_count.1 ∈ nv_gt := nv_gt_of 1162 (by decide +kernel) (by decide +kernel)
theorem lm_L_148 : Cond.methodLink "WhoseNameLaw" 148 qX7_digest.1 ∈ nv_gt := nv_gt_of 1166 (by decide +kernel) (by decide +kernel)
theorem lc_X7_321 : Cond.constantLong "WhoseNameModel" 321 17 ∈ nv_gt := nv_gt_of 1170 (by decide +kernel) (by decide +kernel)
theorem lc_X7_323 : Cond.constantLong "WhoseNameModel" 323 31 ∈ nv_gt := nv_gt_of 1171 (by decide +kernel) (by decide +kernel)
theorem lm_X7_325 : Cond.methodLink "WhoseNameModel" 325 qX7_count.1 ∈ nv_gt := nv_gt_of 1172 (by decide +kernel) (by decide +kernel)
set_option maxRecDepth 100000 in
theorem y_qX0_init : nv_Yi qX0_init 0 := ⟨⟨nv_gt_of 192 rfl rfl, wi_X0, ⟨by decide, by decide, by decide +kernel⟩, by decide⟩, nv_gt_of 191 (by decide +kernel) (by decide +kernel), rfl, rfl⟩
set_option maxRecDepth 100000 in
theorem y_qX1_init : nv_Yi qX1_init 0 := ⟨⟨nv_gt_of 145 rfl rfl, wi_X1, ⟨by decide, by decide, by decide +kernel⟩, by decide⟩, nv_gt_of 144 (by decide +kernel) (by decide +kernel), rfl, rfl⟩
set_option maxRecDepth 100000 in
theorem y_qX2_init : nv_Yi qX2_init 0 := ⟨⟨nv_gt_of 163 rfl rfl, wi_X2, ⟨by decide, by decide, by decide +kernel⟩, by decide⟩, nv_gt_of 162 (by decide +kernel) (by decide +kernel), rfl, rfl⟩
set_option maxRecDepth 100000 in
theorem y_qX2_isForAnother : nv_Yv qX2_isForAnother 0 := ⟨⟨nv_gt_of 537 rfl rfl, wi_X2, ⟨by decide, by decide, by decide +kernel⟩, by decide⟩, nv_gt_of 535 (by decide +kernel) (by decide +kernel), nv_gt_of 536 (by decide +kernel) (by decide +kernel)⟩
set_option maxRecDepth 100000 in
theorem y_qX3_init : nv_Yi qX3_init 0 := ⟨⟨nv_gt_of 213 rfl rfl, wi_X3, ⟨by decide, by decide, by decide +kernel⟩, by decide⟩, nv_gt_of 212 (by decide +kernel) (by decide +kernel), rfl, rfl⟩
set_option maxRecDepth 100000 in
theorem y_qX3_append : nv_Yv qX3_append 1 := ⟨⟨nv_gt_of 452 rfl rfl, wi_X3, ⟨by decide, by decide, by decide +kernel⟩, by decide⟩, nv_gt_of 450 (by decide +kernel) (by decide +kernel), nv_gt_of 451 (by decide +kernel) (by decide +kernel)⟩
set_option maxRecDepth 100000 in
theorem y_qX3_clear : nv_Yv qX3_clear 0 := ⟨⟨nv_gt_of 460 rfl rfl, wi_X3, ⟨by decide, by decide, by decide +kernel⟩, by decide⟩, nv_gt_of 458 (by decide +kernel) (by decide +kernel), nv_gt_of 459 (by decide +kernel) (by decide +kernel)⟩
set_option maxRecDepth 100000 in
theorem y_qX3_understand : nv_Yv qX3_understand 0 := ⟨⟨nv_gt_of 218 rfl rfl, wi_X3, ⟨by decide, by decide, by decide +kernel⟩, by decide⟩, nv_gt_of 217 (by decide +kernel) (by decide +kernel), nv_gt_of 0 (by decide +kernel) (by decide +kernel)⟩
set_option maxRecDepth 100000 in
theorem y_qX3_forgetParts : nv_Yv qX3_forgetParts 0 := ⟨⟨nv_gt_of 222 rfl rfl, wi_X3, ⟨by decide, by decide, by decide +kernel⟩, by decide⟩, nv_gt_of 221 (by decide +kernel) (by decide +kernel), nv_gt_of 1 (by decide +kernel) (by decide +kernel)⟩
set_option maxRecDepth 100000 in
theorem y_qX3_takeParts : nv_Yv qX3_takeParts 0 := ⟨⟨nv_gt_of 231 rfl rfl, wi_X3, ⟨by decide, by decide, by decide +kernel⟩, by decide⟩, nv_gt_of 230 (by decide +kernel) (by decide +kernel), nv_gt_of 2 (by decide +kernel) (by decide +kernel)⟩
set_option maxRecDepth 100000 in
theorem y_qX3_signAt : nv_Yv qX3_signAt 1 := ⟨⟨nv_gt_of 235 rfl rfl, wi_X3, ⟨by decide, by decide, by decide +kernel⟩, by decide⟩, nv_gt_of 234 (by decide +kernel) (by decide +kernel), nv_gt_of 3 (by decide +kernel) (by decide +kernel)⟩
set_option maxRecDepth 100000 in
theorem y_qX3_letterOf : nv_Ys qX3_letterOf 1 := ⟨⟨nv_gt_of 238 rfl rfl, wi_X3, ⟨by decide, by decide, by decide +kernel⟩, by decide⟩, nv_gt_of 237 (by decide +kernel) (by decide +kernel)⟩
set_option maxRecDepth 100000 in
theorem y_qX3_isFigureAt : nv_Yv qX3_isFigureAt 1 := ⟨⟨nv_gt_of 248 rfl rfl, wi_X3, ⟨by decide, by decide, by decide +kernel⟩, by decide⟩, nv_gt_of 247 (by decide +kernel) (by decide +kernel), nv_gt_of 5 (by decide +kernel) (by decide +kernel)⟩
set_option maxRecDepth 100000 in
theorem y_qX3_figuresFrom : nv_Yv qX3_figuresFrom 1 := ⟨⟨nv_gt_of 244 rfl rfl, wi_X3, ⟨by decide, by decide, by decide +kernel⟩, by decide⟩, nv_gt_of 243 (by decide +kernel) (by decide +kernel), nv_gt_of 4 (by decide +kernel) (by decide +kernel)⟩
set_option maxRecDepth 100000 in
theorem y_qX3_numberFrom : nv_Yv qX3_numberFrom 2 := ⟨⟨nv_gt_of 252 rfl rfl, wi_X3, ⟨by decide, by decide, by decide +kernel⟩, by decide⟩, nv_gt_of 251 (by decide +kernel) (by decide +kernel), nv_gt_of 6 (by decide +kernel) (by decide +kernel)⟩
set_option maxRecDepth 100000 in
theorem y_qX4_init : nv_Yi qX4_init 0 := ⟨⟨nv_gt_of 108 rfl rfl, wi_X4, ⟨by decide, by decide, by decide +kernel⟩, by decide⟩, nv_gt_of 107 (by decide +kernel) (by decide +kernel), rfl, rfl⟩
set_option maxRecDepth 100000 in
theorem y_qX5_init : nv_Yi qX5_init 0 := ⟨⟨nv_gt_of 274 rfl rfl, wi_X5, ⟨by decide, by decide, by decide +kernel⟩, by decide⟩, nv_gt_of 273 (by decide +kernel) (by decide +kernel), rfl, rfl⟩
set_option maxRecDepth 100000 in
theorem y_qX5_renew : nv_Yv qX5_renew 2 := ⟨⟨nv_gt_of 657 rfl rfl, wi_X5, ⟨by decide, by decide, by decide +kernel⟩, by decide⟩, nv_gt_of 655 (by decide +kernel) (by decide +kernel), nv_gt_of 656 (by decide +kernel) (by decide +kernel)⟩
set_option maxRecDepth 100000 in
theorem y_qX5_has : nv_Yv qX5_has 1 := ⟨⟨nv_gt_of 424 rfl rfl, wi_X5, ⟨by decide, by decide, by decide +kernel⟩, by decide⟩, nv_gt_of 422 (by decide +kernel) (by decide +kernel), nv_gt_of 423 (by decide +kernel) (by decide +kernel)⟩
set_option maxRecDepth 100000 in
theorem y_qX5_hasRow : nv_Yv qX5_hasRow 2 := ⟨⟨nv_gt_of 690 rfl rfl, wi_X5, ⟨by decide, by decide, by decide +kernel⟩, by decide⟩, nv_gt_of 688 (by decide +kernel) (by decide +kernel), nv_gt_of 689 (by decide +kernel) (by decide +kernel)⟩
set_option maxRecDepth 100000 in
theorem y_qX5_itemAt : nv_Yv qX5_itemAt 1 := ⟨⟨nv_gt_of 420 rfl rfl, wi_X5, ⟨by decide, by decide, by decide +kernel⟩, by decide⟩, nv_gt_of 418 (by decide +kernel) (by decide +kernel), nv_gt_of 419 (by decide +kernel) (by decide +kernel)⟩
set_option maxRecDepth 100000 in
theorem y_qX5_put : nv_Yv qX5_put 2 := ⟨⟨nv_gt_of 673 rfl rfl, wi_X5, ⟨by decide, by decide, by decide +kernel⟩, by decide⟩, nv_gt_of 671 (by decide +kernel) (by decide +kernel), nv_gt_of 672 (by decide +kernel) (by decide +kernel)⟩
set_option maxRecDepth 100000 in
theorem y_qX5_lowestBits : nv_Yv qX5_lowestBits 1 := ⟨⟨nv_gt_of 677 rfl rfl, wi_X5, ⟨by decide, by decide, by decide +kernel⟩, by decide⟩, nv_gt_of 676 (by decide +kernel) (by decide +kernel), nv_gt_of 36 (by decide +kernel) (by decide +kernel)⟩
set_option maxRecDepth 100000 in
theorem y_qX6_init : nv_Yi qX6_init 0 := ⟨⟨nv_gt_of 89 rfl rfl, wi_X6, ⟨by decide, by decide, by decide +kernel⟩, by decide⟩, nv_gt_of 88 (by decide +kernel) (by decide +kernel), rfl, rfl⟩
set_option maxRecDepth 100000 in
theorem y_qX6_purse : nv_Yv qX6_purse 2 := ⟨⟨nv_gt_of 351 rfl rfl, wi_X6, ⟨by decide, by decide, by decide +kernel⟩, by decide⟩, nv_gt_of 349 (by decide +kernel) (by decide +kernel), nv_gt_of 350 (by decide +kernel) (by decide +kernel)⟩
set_option maxRecDepth 100000 in
theorem y_qX6_leave : nv_Yv qX6_leave 8 := ⟨⟨nv_gt_of 361 rfl rfl, wi_X6, ⟨by decide, by decide, by decide +kernel⟩, by decide⟩, nv_gt_of 359 (by decide +kernel) (by decide +kernel), nv_gt_of 360 (by decide +kernel) (by decide +kernel)⟩
set_option maxRecDepth 100000 in
theorem y_qX6_setSource : nv_Yv qX6_setSource 2 := ⟨⟨nv_gt_of 389 rfl rfl, wi_X6, ⟨by decide, by decide, by decide +kernel⟩, by decide⟩, nv_gt_of 388 (by decide +kernel) (by decide +kernel), nv_gt_of 10 (by decide +kernel) (by decide +kernel)⟩
set_option maxRecDepth 100000 in
theorem y_qX6_mayBeGiven : nv_Yv qX6_mayBeGiven 4 := ⟨⟨nv_gt_of 365 rfl rfl, wi_X6, ⟨by decide, by decide, by decide +kernel⟩, by decide⟩, nv_gt_of 364 (by decide +kernel) (by decide +kernel), nv_gt_of 7 (by decide +kernel) (by decide +kernel)⟩
set_option maxRecDepth 100000 in
theorem y_qX6_mayBePassed : nv_Yv qX6_mayBePassed 1 := ⟨⟨nv_gt_of 369 rfl rfl, wi_X6, ⟨by decide, by decide, by decide +kernel⟩, by decide⟩, nv_gt_of 368 (by decide +kernel) (by decide +kernel), nv_gt_of 8 (by decide +kernel) (by decide +kernel)⟩
set_option maxRecDepth 100000 in
theorem y_qX6_isScope : nv_Ys qX6_isScope 4 := ⟨⟨nv_gt_of 379 rfl rfl, wi_X6, ⟨by decide, by decide, by decide +kernel⟩, by decide⟩, nv_gt_of 378 (by decide +kernel) (by decide +kernel)⟩
set_option maxRecDepth 100000 in
theorem y_qX6_back : nv_Yv qX6_back 4 := ⟨⟨nv_gt_of 393 rfl rfl, wi_X6, ⟨by decide, by decide, by decide +kernel⟩, by decide⟩, nv_gt_of 391 (by decide +kernel) (by decide +kernel), nv_gt_of 392 (by decide +kernel) (by decide +kernel)⟩
set_option maxRecDepth 100000 in
theorem y_qX6_heard : nv_Yv qX6_heard 2 := ⟨⟨nv_gt_of 397 rfl rfl, wi_X6, ⟨by decide, by decide, by decide +kernel⟩, by decide⟩, nv_gt_of 395 (by decide +kernel) (by decide +kernel), nv_gt_of 396 (by decide +kernel) (by decide +kernel)⟩
set_option maxRecDepth 100000 in
theorem y_qX6_bargain : nv_Yv qX6_bargain 6 := ⟨⟨nv_gt_of 405 rfl rfl, wi_X6, ⟨by decide, by decide, by decide +kernel⟩, by decide⟩, nv_gt_of 403 (by decide +kernel) (by decide +kernel), nv_gt_of 404 (by decide +kernel) (by decide +kernel)⟩
set_option maxRecDepth 100000 in
theorem y_qX6_read : nv_Yv qX6_read 1 := ⟨⟨nv_gt_of 409 rfl rfl, wi_X6, ⟨by decide, by decide, by decide +kernel⟩, by decide⟩, nv_gt_of 407 (by decide +kernel) (by decide +kernel), nv_gt_of 408 (by decide +kernel) (by decide +kernel)⟩
set_option maxRecDepth 100000 in
theorem y_qX6_after : nv_Yv qX6_after 5 := ⟨⟨nv_gt_of 429 rfl rfl, wi_X6, ⟨by decide, by decide, by decide +kernel⟩, by decide⟩, nv_gt_of 427 (by decide +kernel) (by decide +kernel), nv_gt_of 428 (by decide +kernel) (by decide +kernel)⟩
set_option maxRecDepth 100000 in
theorem y_qX6_leaveIs : nv_Yv qX6_leaveIs 2 := ⟨⟨nv_gt_of 437 rfl rfl, wi_X6, ⟨by decide, by decide, by decide +kernel⟩, by decide⟩, nv_gt_of 435 (by decide +kernel) (by decide +kernel), nv_gt_of 436 (by decide +kernel) (by decide +kernel)⟩
set_option maxRecDepth 100000 in
theorem y_qX6_bargainIs : nv_Yv qX6_bargainIs 2 := ⟨⟨nv_gt_of 441 rfl rfl, wi_X6, ⟨by decide, by decide, by decide +kernel⟩, by decide⟩, nv_gt_of 439 (by decide +kernel) (by decide +kernel), nv_gt_of 440 (by decide +kernel) (by decide +kernel)⟩
set_option maxRecDepth 100000 in
theorem y_qX6_type : nv_Yv qX6_type 2 := ⟨⟨nv_gt_of 445 rfl rfl, wi_X6, ⟨by decide, by decide, by decide +kernel⟩, by decide⟩, nv_gt_of 443 (by decide +kernel) (by decide +kernel), nv_gt_of 444 (by decide +kernel) (by decide +kernel)⟩
set_option maxRecDepth 100000 in
theorem y_qX6_wipe : nv_Yv qX6_wipe 1 := ⟨⟨nv_gt_of 456 rfl rfl, wi_X6, ⟨by decide, by decide, by decide +kernel⟩, by decide⟩, nv_gt_of 454 (by decide +kernel) (by decide +kernel), nv_gt_of 455 (by decide +kernel) (by decide +kernel)⟩
set_option maxRecDepth 100000 in
theorem y_qX6_fault : nv_Yv qX6_fault 1 := ⟨⟨nv_gt_of 464 rfl rfl, wi_X6, ⟨by decide, by decide, by decide +kernel⟩, by decide⟩, nv_gt_of 462 (by decide +kernel) (by decide +kernel), nv_gt_of 463 (by decide +kernel) (by decide +kernel)⟩
set_option maxRecDepth 100000 in
theorem y_qX6_law : nv_Yv qX6_law 2 := ⟨⟨nv_gt_of 468 rfl rfl, wi_X6, ⟨by decide, by decide, by decide +kernel⟩, by decide⟩, nv_gt_of 466 (by decide +kernel) (by decide +kernel), nv_gt_of 467 (by decide +kernel) (by decide +kernel)⟩
set_option maxRecDepth 100000 in
theorem y_qX6_reaches : nv_Yv qX6_reaches 4 := ⟨⟨nv_gt_of 472 rfl rfl, wi_X6, ⟨by decide, by decide, by decide +kernel⟩, by decide⟩, nv_gt_of 470 (by decide +kernel) (by decide +kernel), nv_gt_of 471 (by decide +kernel) (by decide +kernel)⟩
set_option maxRecDepth 100000 in
theorem y_qX6_bound : nv_Yv qX6_bound 3 := ⟨⟨nv_gt_of 506 rfl rfl, wi_X6, ⟨by decide, by decide, by decide +kernel⟩, by decide⟩, nv_gt_of 504 (by decide +kernel) (by decide +kernel), nv_gt_of 505 (by decide +kernel) (by decide +kernel)⟩
set_option maxRecDepth 100000 in
theorem y_qX6_till : nv_Yv qX6_till 2 := ⟨⟨nv_gt_of 533 rfl rfl, wi_X6, ⟨by decide, by decide, by decide +kernel⟩, by decide⟩, nv_gt_of 531 (by decide +kernel) (by decide +kernel), nv_gt_of 532 (by decide +kernel) (by decide +kernel)⟩
set_option maxRecDepth 100000 in
theorem y_qX6_hearingDay : nv_Yv qX6_hearingDay 2 := ⟨⟨nv_gt_of 502 rfl rfl, wi_X6, ⟨by decide, by decide, by decide +kernel⟩, by decide⟩, nv_gt_of 501 (by decide +kernel) (by decide +kernel), nv_gt_of 16 (by decide +kernel) (by decide +kernel)⟩
set_option maxRecDepth 100000 in
theorem y_qX6_isEnded : nv_Yv qX6_isEnded 4 := ⟨⟨nv_gt_of 495 rfl rfl, wi_X6, ⟨by decide, by decide, by decide +kernel⟩, by decide⟩, nv_gt_of 494 (by decide +kernel) (by decide +kernel), nv_gt_of 15 (by decide +kernel) (by decide +kernel)⟩
set_option maxRecDepth 100000 in
theorem y_qX6_hearerOf : nv_Ys qX6_hearerOf 3 := ⟨⟨nv_gt_of 498 rfl rfl, wi_X6, ⟨by decide, by decide, by decide +kernel⟩, by decide⟩, nv_gt_of 497 (by decide +kernel) (by decide +kernel)⟩
set_option maxRecDepth 100000 in
theorem y_qX6_limitOf : nv_Ys qX6_limitOf 2 := ⟨⟨nv_gt_of 488 rfl rfl, wi_X6, ⟨by decide, by decide, by decide +kernel⟩, by decide⟩, nv_gt_of 487 (by decide +kernel) (by decide +kernel)⟩
set_option maxRecDepth 100000 in
theorem y_qX6_stretched : nv_Ys qX6_stretched 2 := ⟨⟨nv_gt_of 491 rfl rfl, wi_X6, ⟨by decide, by decide, by decide +kernel⟩, by decide⟩, nv_gt_of 490 (by decide +kernel) (by decide +kernel)⟩
set_option maxRecDepth 100000 in
theorem y_qX6_hasRoomFor : nv_Ys qX6_hasRoomFor 3 := ⟨⟨nv_gt_of 482 rfl rfl, wi_X6, ⟨by decide, by decide, by decide +kernel⟩, by decide⟩, nv_gt_of 481 (by decide +kernel) (by decide +kernel)⟩
set_option maxRecDepth 100000 in
theorem y_qX6_isAimedAt : nv_Ys qX6_isAimedAt 3 := ⟨⟨nv_gt_of 479 rfl rfl, wi_X6, ⟨by decide, by decide, by decide +kernel⟩, by decide⟩, nv_gt_of 478 (by decide +kernel) (by decide +kernel)⟩
set_option maxRecDepth 100000 in
theorem y_qX6_reachesIn : nv_Yv qX6_reachesIn 4 := ⟨⟨nv_gt_of 476 rfl rfl, wi_X6, ⟨by decide, by decide, by decide +kernel⟩, by decide⟩, nv_gt_of 475 (by decide +kernel) (by decide +kernel), nv_gt_of 14 (by decide +kernel) (by decide +kernel)⟩
set_option maxRecDepth 100000 in
theorem y_qX6_isWell : nv_Yv qX6_isWell 2 := ⟨⟨nv_gt_of 518 rfl rfl, wi_X6, ⟨by decide, by decide, by decide +kernel⟩, by decide⟩, nv_gt_of 517 (by decide +kernel) (by decide +kernel), nv_gt_of 19 (by decide +kernel) (by decide +kernel)⟩
set_option maxRecDepth 100000 in
theorem y_qX6_isSaidByNamed : nv_Ys qX6_isSaidByNamed 2 := ⟨⟨nv_gt_of 521 rfl rfl, wi_X6, ⟨by decide, by decide, by decide +kernel⟩, by decide⟩, nv_gt_of 520 (by decide +kernel) (by decide +kernel)⟩
set_option maxRecDepth 100000 in
theorem y_qX6_wasRefusedAhead : nv_Yv qX6_wasRefusedAhead 2 := ⟨⟨nv_gt_of 525 rfl rfl, wi_X6, ⟨by decide, by decide, by decide +kernel⟩, by decide⟩, nv_gt_of 524 (by decide +kernel) (by decide +kernel), nv_gt_of 20 (by decide +kernel) (by decide +kernel)⟩
set_option maxRecDepth 100000 in
theorem y_qX6_reasonIn : nv_Yv qX6_reasonIn 3 := ⟨⟨nv_gt_of 514 rfl rfl, wi_X6, ⟨by decide, by decide, by decide +kernel⟩, by decide⟩, nv_gt_of 513 (by decide +kernel) (by decide +kernel), nv_gt_of 18 (by decide +kernel) (by decide +kernel)⟩
set_option maxRecDepth 100000 in
theorem y_qX6_boundBits : nv_Yv qX6_boundBits 3 := ⟨⟨nv_gt_of 510 rfl rfl, wi_X6, ⟨by decide, by decide, by decide +kernel⟩, by decide⟩, nv_gt_of 509 (by decide +kernel) (by decide +kernel), nv_gt_of 17 (by decide +kernel) (by decide +kernel)⟩
set_option maxRecDepth 100000 in
theorem y_qX6_bitsOfReason : nv_Yv qX6_bitsOfReason 3 := ⟨⟨nv_gt_of 529 rfl rfl, wi_X6, ⟨by decide, by decide, by decide +kernel⟩, by decide⟩, nv_gt_of 528 (by decide +kernel) (by decide +kernel), nv_gt_of 21 (by decide +kernel) (by decide +kernel)⟩
set_option maxRecDepth 100000 in
theorem y_qX6_ask : nv_Yv qX6_ask 3 := ⟨⟨nv_gt_of 544 rfl rfl, wi_X6, ⟨by decide, by decide, by decide +kernel⟩, by decide⟩, nv_gt_of 542 (by decide +kernel) (by decide +kernel), nv_gt_of 543 (by decide +kernel) (by decide +kernel)⟩
set_option maxRecDepth 100000 in
theorem y_qX6_owes : nv_Yv qX6_owes 2 := ⟨⟨nv_gt_of 551 rfl rfl, wi_X6, ⟨by decide, by decide, by decide +kernel⟩, by decide⟩, nv_gt_of 549 (by decide +kernel) (by decide +kernel), nv_gt_of 550 (by decide +kernel) (by decide +kernel)⟩
set_option maxRecDepth 100000 in
theorem y_qX6_end : nv_Yv qX6_end 3 := ⟨⟨nv_gt_of 562 rfl rfl, wi_X6, ⟨by decide, by decide, by decide +kernel⟩, by decide⟩, nv_gt_of 560 (by decide +kernel) (by decide +kernel), nv_gt_of 561 (by decide +kernel) (by decide +kernel)⟩
set_option maxRecDepth 100000 in
theorem y_qX6_askOf : nv_Ys qX6_askOf 4 := ⟨⟨nv_gt_of 547 rfl rfl, wi_X6, ⟨by decide, by decide, by decide +kernel⟩, by decide⟩, nv_gt_of 546 (by decide +kernel) (by decide +kernel)⟩
set_option maxRecDepth 100000 in
theorem y_qX6_owedBy : nv_Yv qX6_owedBy 3 := ⟨⟨nv_gt_of 555 rfl rfl, wi_X6, ⟨by decide, by decide, by decide +kernel⟩, by decide⟩, nv_gt_of 554 (by decide +kernel) (by decide +kernel), nv_gt_of 22 (by decide +kernel) (by decide +kernel)⟩
set_option maxRecDepth 100000 in
theorem y_qX6_settle : nv_Yv qX6_settle 1 := ⟨⟨nv_gt_of 566 rfl rfl, wi_X6, ⟨by decide, by decide, by decide +kernel⟩, by decide⟩, nv_gt_of 565 (by decide +kernel) (by decide +kernel), nv_gt_of 23 (by decide +kernel) (by decide +kernel)⟩
set_option maxRecDepth 100000 in
theorem y_qX6_settleBargain : nv_Yv qX6_settleBargain 2 := ⟨⟨nv_gt_of 571 rfl rfl, wi_X6, ⟨by decide, by decide, by decide +kernel⟩, by decide⟩, nv_gt_of 570 (by decide +kernel) (by decide +kernel), nv_gt_of 24 (by decide +kernel) (by decide +kernel)⟩
set_option maxRecDepth 100000 in
theorem y_qX6_pay : nv_Yv qX6_pay 3 := ⟨⟨nv_gt_of 575 rfl rfl, wi_X6, ⟨by decide, by decide, by decide +kernel⟩, by decide⟩, nv_gt_of 574 (by decide +kernel) (by decide +kernel), nv_gt_of 25 (by decide +kernel) (by decide +kernel)⟩
set_option maxRecDepth 100000 in
theorem y_qX6_sure : nv_Yv qX6_sure 3 := ⟨⟨nv_gt_of 582 rfl rfl, wi_X6, ⟨by decide, by decide, by decide +kernel⟩, by decide⟩, nv_gt_of 580 (by decide +kernel) (by decide +kernel), nv_gt_of 581 (by decide +kernel) (by decide +kernel)⟩
set_option maxRecDepth 100000 in
theorem y_qX6_hangs : nv_Yv qX6_hangs 3 := ⟨⟨nv_gt_of 598 rfl rfl, wi_X6, ⟨by decide, by decide, by decide +kernel⟩, by decide⟩, nv_gt_of 596 (by decide +kernel) (by decide +kernel), nv_gt_of 597 (by decide +kernel) (by decide +kernel)⟩
set_option maxRecDepth 100000 in
theorem y_qX6_wanted : nv_Yv qX6_wanted 2 := ⟨⟨nv_gt_of 606 rfl rfl, wi_X6, ⟨by decide, by decide, by decide +kernel⟩, by decide⟩, nv_gt_of 604 (by decide +kernel) (by decide +kernel), nv_gt_of 605 (by decide +kernel) (by decide +kernel)⟩
set_option maxRecDepth 100000 in
theorem y_qX6_turned : nv_Yv qX6_turned 1 := ⟨⟨nv_gt_of 610 rfl rfl, wi_X6, ⟨by decide, by decide, by decide +kernel⟩, by decide⟩, nv_gt_of 608 (by decide +kernel) (by decide +kernel), nv_gt_of 609 (by decide +kernel) (by decide +kernel)⟩
set_option maxRecDepth 100000 in
theorem y_qX6_letter : nv_Yv qX6_letter 4 := ⟨⟨nv_gt_of 632 rfl rfl, wi_X6, ⟨by decide, by decide, by decide +kernel⟩, by decide⟩, nv_gt_of 630 (by decide +kernel) (by decide +kernel), nv_gt_of 631 (by decide +kernel) (by decide +kernel)⟩
set_option maxRecDepth 100000 in
theorem y_qX6_findOpenBacks : nv_Yv qX6_findOpenBacks 0 := ⟨⟨nv_gt_of 590 rfl rfl, wi_X6, ⟨by decide, by decide, by decide +kernel⟩, by decide⟩, nv_gt_of 589 (by decide +kernel) (by decide +kernel), nv_gt_of 27 (by decide +kernel) (by decide +kernel)⟩
set_option maxRecDepth 100000 in
theorem y_qX6_tryWays : nv_Yv qX6_tryWays 2 := ⟨⟨nv_gt_of 586 rfl rfl, wi_X6, ⟨by decide, by decide, by decide +kernel⟩, by decide⟩, nv_gt_of 585 (by decide +kernel) (by decide +kernel), nv_gt_of 26 (by decide +kernel) (by decide +kernel)⟩
set_option maxRecDepth 100000 in
theorem y_qX6_wayOf : nv_Yv qX6_wayOf 1 := ⟨⟨nv_gt_of 594 rfl rfl, wi_X6, ⟨by decide, by decide, by decide +kernel⟩, by decide⟩, nv_gt_of 593 (by decide +kernel) (by decide +kernel), nv_gt_of 28 (by decide +kernel) (by decide +kernel)⟩
set_option maxRecDepth 100000 in
theorem y_qX6_isTurnedBy : nv_Yv qX6_isTurnedBy 2 := ⟨⟨nv_gt_of 602 rfl rfl, wi_X6, ⟨by decide, by decide, by decide +kernel⟩, by decide⟩, nv_gt_of 601 (by decide +kernel) (by decide +kernel), nv_gt_of 29 (by decide +kernel) (by decide +kernel)⟩
set_option maxRecDepth 100000 in
theorem y_qX6_fewestLetters : nv_Yv qX6_fewestLetters 1 := ⟨⟨nv_gt_of 614 rfl rfl, wi_X6, ⟨by decide, by decide, by decide +kernel⟩, by decide⟩, nv_gt_of 613 (by decide +kernel) (by decide +kernel), nv_gt_of 30 (by decide +kernel) (by decide +kernel)⟩
set_option maxRecDepth 100000 in
theorem y_qX6_unlikeLetters : nv_Yv qX6_unlikeLetters 0 := ⟨⟨nv_gt_of 618 rfl rfl, wi_X6, ⟨by decide, by decide, by decide +kernel⟩, by decide⟩, nv_gt_of 617 (by decide +kernel) (by decide +kernel), nv_gt_of 31 (by decide +kernel) (by decide +kernel)⟩
set_option maxRecDepth 100000 in
theorem y_qX6_mixLaws : nv_Yv qX6_mixLaws 1 := ⟨⟨nv_gt_of 628 rfl rfl, wi_X6, ⟨by decide, by decide, by decide +kernel⟩, by decide⟩, nv_gt_of 627 (by decide +kernel) (by decide +kernel), nv_gt_of 32 (by decide +kernel) (by decide +kernel)⟩
set_option maxRecDepth 100000 in
theorem y_qX6_bargainsBetween : nv_Yv qX6_bargainsBetween 2 := ⟨⟨nv_gt_of 636 rfl rfl, wi_X6, ⟨by decide, by decide, by decide +kernel⟩, by decide⟩, nv_gt_of 635 (by decide +kernel) (by decide +kernel), nv_gt_of 33 (by decide +kernel) (by decide +kernel)⟩
set_option maxRecDepth 100000 in
theorem y_qX6_boundAlready : nv_Yv qX6_boundAlready 2 := ⟨⟨nv_gt_of 640 rfl rfl, wi_X6, ⟨by decide, by decide, by decide +kernel⟩, by decide⟩, nv_gt_of 639 (by decide +kernel) (by decide +kernel), nv_gt_of 34 (by decide +kernel) (by decide +kernel)⟩
set_option maxRecDepth 100000 in
theorem y_qX6_reachedByLetter : nv_Yv qX6_reachedByLetter 4 := ⟨⟨nv_gt_of 646 rfl rfl, wi_X6, ⟨by decide, by decide, by decide +kernel⟩, by decide⟩, nv_gt_of 645 (by decide +kernel) (by decide +kernel), nv_gt_of 35 (by decide +kernel) (by decide +kernel)⟩
set_option maxRecDepth 100000 in
theorem y_qX6_sheet : nv_Yv qX6_sheet 3 := ⟨⟨nv_gt_of 650 rfl rfl, wi_X6, ⟨by decide, by decide, by decide +kernel⟩, by decide⟩, nv_gt_of 648 (by decide +kernel) (by decide +kernel), nv_gt_of 649 (by decide +kernel) (by decide +kernel)⟩
set_option maxRecDepth 100000 in
theorem y_qX6_lose : nv_Yv qX6_lose 1 := ⟨⟨nv_gt_of 661 rfl rfl, wi_X6, ⟨by decide, by decide, by decide +kernel⟩, by decide⟩, nv_gt_of 659 (by decide +kernel) (by decide +kernel), nv_gt_of 660 (by decide +kernel) (by decide +kernel)⟩
set_option maxRecDepth 100000 in
theorem y_qX6_lay : nv_Yv qX6_lay 4 := ⟨⟨nv_gt_of 665 rfl rfl, wi_X6, ⟨by decide, by decide, by decide +kernel⟩, by decide⟩, nv_gt_of 663 (by decide +kernel) (by decide +kernel), nv_gt_of 664 (by decide +kernel) (by decide +kernel)⟩
set_option maxRecDepth 100000 in
theorem y_qX6_get : nv_Yv qX6_get 3 := ⟨⟨nv_gt_of 681 rfl rfl, wi_X6, ⟨by decide, by decide, by decide +kernel⟩, by decide⟩, nv_gt_of 679 (by decide +kernel) (by decide +kernel), nv_gt_of 680 (by decide +kernel) (by decide +kernel)⟩
set_option maxRecDepth 100000 in
theorem y_qX6_copy : nv_Yv qX6_copy 5 := ⟨⟨nv_gt_of 686 rfl rfl, wi_X6, ⟨by decide, by decide, by decide +kernel⟩, by decide⟩, nv_gt_of 684 (by decide +kernel) (by decide +kernel), nv_gt_of 685 (by decide +kernel) (by decide +kernel)⟩
set_option maxRecDepth 100000 in
theorem y_qX6_write : nv_Yv qX6_write 2 := ⟨⟨nv_gt_of 694 rfl rfl, wi_X6, ⟨by decide, by decide, by decide +kernel⟩, by decide⟩, nv_gt_of 692 (by decide +kernel) (by decide +kernel), nv_gt_of 693 (by decide +kernel) (by decide +kernel)⟩
set_option maxRecDepth 100000 in
theorem y_qX6_count : nv_Yv qX6_count 1 := ⟨⟨nv_gt_of 698 rfl rfl, wi_X6, ⟨by decide, by decide, by decide +kernel⟩, by decide⟩, nv_gt_of 696 (by decide +kernel) (by decide +kernel), nv_gt_of 697 (by decide +kernel) (by decide +kernel)⟩
set_option maxRecDepth 100000 in
theorem y_qX6_digest : nv_Yv qX6_digest 0 := ⟨⟨nv_gt_of 710 rfl rfl, wi_X6, ⟨by decide, by decide, by decide +kernel⟩, by decide⟩, nv_gt_of 708 (by decide +kernel) (by decide +kernel), nv_gt_of 709 (by decide +kernel) (by decide +kernel)⟩
set_option maxRecDepth 100000 in
theorem y_qX6_digestLaw : nv_Yv qX6_digestLaw 2 := ⟨⟨nv_gt_of 717 rfl rfl, wi_X6, ⟨by decide, by decide, by decide +kernel⟩, by decide⟩, nv_gt_of 716 (by decide +kernel) (by decide +kernel), nv_gt_of 39 (by decide +kernel) (by decide +kernel)⟩
set_option maxRecDepth 100000 in
theorem y_qX6_allOpen : nv_Yv qX6_allOpen 0 := ⟨⟨nv_gt_of 702 rfl rfl, wi_X6, ⟨by decide, by decide, by decide +kernel⟩, by decide⟩, nv_gt_of 701 (by decide +kernel) (by decide +kernel), nv_gt_of 37 (by decide +kernel) (by decide +kernel)⟩
set_option maxRecDepth 100000 in
theorem y_qX6_allPurses : nv_Yv qX6_allPurses 0 := ⟨⟨nv_gt_of 706 rfl rfl, wi_X6, ⟨by decide, by decide, by decide +kernel⟩, by decide⟩, nv_gt_of 705 (by decide +kernel) (by decide +kernel), nv_gt_of 38 (by decide +kernel) (by decide +kernel)⟩
set_option maxRecDepth 100000 in
theorem y_qX6_findingAt : nv_Ys qX6_findingAt 3 := ⟨⟨nv_gt_of 668 rfl rfl, wi_X6, ⟨by decide, by decide, by decide +kernel⟩, by decide⟩, nv_gt_of 667 (by decide +kernel) (by decide +kernel)⟩
set_option maxRecDepth 100000 in
theorem y_qX6_find : nv_Yv qX6_find 1 := ⟨⟨nv_gt_of 416 rfl rfl, wi_X6, ⟨by decide, by decide, by decide +kernel⟩, by decide⟩, nv_gt_of 415 (by decide +kernel) (by decide +kernel), nv_gt_of 12 (by decide +kernel) (by decide +kernel)⟩
set_option maxRecDepth 100000 in
theorem y_qX6_isWithin : nv_Ys qX6_isWithin 3 := ⟨⟨nv_gt_of 357 rfl rfl, wi_X6, ⟨by decide, by decide, by decide +kernel⟩, by decide⟩, nv_gt_of 356 (by decide +kernel) (by decide +kernel)⟩
set_option maxRecDepth 100000 in
theorem y_qX6_isFlag : nv_Ys qX6_isFlag 1 := ⟨⟨nv_gt_of 376 rfl rfl, wi_X6, ⟨by decide, by decide, by decide +kernel⟩, by decide⟩, nv_gt_of 375 (by decide +kernel) (by decide +kernel)⟩
set_option maxRecDepth 100000 in
theorem y_qX6_isPerson : nv_Ys qX6_isPerson 1 := ⟨⟨nv_gt_of 354 rfl rfl, wi_X6, ⟨by decide, by decide, by decide +kernel⟩, by decide⟩, nv_gt_of 353 (by decide +kernel) (by decide +kernel)⟩
set_option maxRecDepth 100000 in
theorem y_qX6_isDay : nv_Ys qX6_isDay 1 := ⟨⟨nv_gt_of 385 rfl rfl, wi_X6, ⟨by decide, by decide, by decide +kernel⟩, by decide⟩, nv_gt_of 384 (by decide +kernel) (by decide +kernel)⟩
set_option maxRecDepth 100000 in
theorem y_qX6_isAmount : nv_Ys qX6_isAmount 1 := ⟨⟨nv_gt_of 382 rfl rfl, wi_X6, ⟨by decide, by decide, by decide +kernel⟩, by decide⟩, nv_gt_of 381 (by decide +kernel) (by decide +kernel)⟩
set_option maxRecDepth 100000 in
theorem y_qX6_isLaw : nv_Ys qX6_isLaw 1 := ⟨⟨nv_gt_of 448 rfl rfl, wi_X6, ⟨by decide, by decide, by decide +kernel⟩, by decide⟩, nv_gt_of 447 (by decide +kernel) (by decide +kernel)⟩
set_option maxRecDepth 100000 in
theorem y_qX6_isSheet : nv_Ys qX6_isSheet 1 := ⟨⟨nv_gt_of 412 rfl rfl, wi_X6, ⟨by decide, by decide, by decide +kernel⟩, by decide⟩, nv_gt_of 411 (by decide +kernel) (by decide +kernel)⟩
set_option maxRecDepth 100000 in
theorem y_qX6_isKind : nv_Ys qX6_isKind 1 := ⟨⟨nv_gt_of 653 rfl rfl, wi_X6, ⟨by decide, by decide, by decide +kernel⟩, by decide⟩, nv_gt_of 652 (by decide +kernel) (by decide +kernel)⟩
set_option maxRecDepth 100000 in
theorem y_qX6_isLeave : nv_Yv qX6_isLeave 1 := ⟨⟨nv_gt_of 373 rfl rfl, wi_X6, ⟨by decide, by decide, by decide +kernel⟩, by decide⟩, nv_gt_of 372 (by decide +kernel) (by decide +kernel), nv_gt_of 9 (by decide +kernel) (by decide +kernel)⟩
set_option maxRecDepth 100000 in
theorem y_qX6_isBack : nv_Yv qX6_isBack 1 := ⟨⟨nv_gt_of 401 rfl rfl, wi_X6, ⟨by decide, by decide, by decide +kernel⟩, by decide⟩, nv_gt_of 400 (by decide +kernel) (by decide +kernel), nv_gt_of 11 (by decide +kernel) (by decide +kernel)⟩
set_option maxRecDepth 100000 in
theorem y_qX6_isBargain : nv_Yv qX6_isBargain 1 := ⟨⟨nv_gt_of 433 rfl rfl, wi_X6, ⟨by decide, by decide, by decide +kernel⟩, by decide⟩, nv_gt_of 432 (by decide +kernel) (by decide +kernel), nv_gt_of 13 (by decide +kernel) (by decide +kernel)⟩
set_option maxRecDepth 100000 in
theorem y_qX6_hasBit : nv_Ys qX6_hasBit 2 := ⟨⟨nv_gt_of 485 rfl rfl, wi_X6, ⟨by decide, by decide, by decide +kernel⟩, by decide⟩, nv_gt_of 484 (by decide +kernel) (by decide +kernel)⟩
set_option maxRecDepth 100000 in
theorem y_qX6_leastPerson : nv_Ys qX6_leastPerson 1 := ⟨⟨nv_gt_of 578 rfl rfl, wi_X6, ⟨by decide, by decide, by decide +kernel⟩, by decide⟩, nv_gt_of 577 (by decide +kernel) (by decide +kernel)⟩
set_option maxRecDepth 100000 in
theorem y_qX7_init : nv_Yi qX7_init 0 := ⟨⟨nv_gt_of 722 rfl rfl, wi_X7, ⟨by decide, by decide, by decide +kernel⟩, by decide⟩, nv_gt_of 721 (by decide +kernel) (by decide +kernel), rfl, rfl⟩
set_option maxRecDepth 100000 in
theorem y_qX7_in : nv_Ys qX7_in 3 := ⟨⟨nv_gt_of 876 rfl rfl, wi_X7, ⟨by decide, by decide, by decide +kernel⟩, by decide⟩, nv_gt_of 875 (by decide +kernel) (by decide +kernel)⟩
set_option maxRecDepth 100000 in
theorem y_qX7_isTwo : nv_Ys qX7_isTwo 1 := ⟨⟨nv_gt_of 929 rfl rfl, wi_X7, ⟨by decide, by decide, by decide +kernel⟩, by decide⟩, nv_gt_of 928 (by decide +kernel) (by decide +kernel)⟩
set_option maxRecDepth 100000 in
theorem y_qX7_met : nv_Yv qX7_met 1 := ⟨⟨nv_gt_of 881 rfl rfl, wi_X7, ⟨by decide, by decide, by decide +kernel⟩, by decide⟩, nv_gt_of 880 (by decide +kernel) (by decide +kernel), nv_gt_of 40 (by decide +kernel) (by decide +kernel)⟩
set_option maxRecDepth 100000 in
theorem y_qX7_isSheet : nv_Ys qX7_isSheet 1 := ⟨⟨nv_gt_of 872 rfl rfl, wi_X7, ⟨by decide, by decide, by decide +kernel⟩, by decide⟩, nv_gt_of 871 (by decide +kernel) (by decide +kernel)⟩
set_option maxRecDepth 100000 in
theorem y_qX7_sheet : nv_Yv qX7_sheet 3 := ⟨⟨nv_gt_of 869 rfl rfl, wi_X7, ⟨by decide, by decide, by decide +kernel⟩, by decide⟩, nv_gt_of 867 (by decide +kernel) (by decide +kernel), nv_gt_of 868 (by decide +kernel) (by decide +kernel)⟩
set_option maxRecDepth 100000 in
theorem y_qX7_lose : nv_Yv qX7_lose 1 := ⟨⟨nv_gt_of 885 rfl rfl, wi_X7, ⟨by decide, by decide, by decide +kernel⟩, by decide⟩, nv_gt_of 883 (by decide +kernel) (by decide +kernel), nv_gt_of 884 (by decide +kernel) (by decide +kernel)⟩
set_option maxRecDepth 100000 in
theorem y_qX7_lacks : nv_Yv qX7_lacks 3 := ⟨⟨nv_gt_of 893 rfl rfl, wi_X7, ⟨by decide, by decide, by decide +kernel⟩, by decide⟩, nv_gt_of 892 (by decide +kernel) (by decide +kernel), nv_gt_of 41 (by decide +kernel) (by decide +kernel)⟩
set_option maxRecDepth 100000 in
theorem y_qX7_cut : nv_Ys qX7_cut 2 := ⟨⟨nv_gt_of 896 rfl rfl, wi_X7, ⟨by decide, by decide, by decide +kernel⟩, by decide⟩, nv_gt_of 895 (by decide +kernel) (by decide +kernel)⟩
set_option maxRecDepth 100000 in
theorem y_qX7_lay : nv_Yv qX7_lay 4 := ⟨⟨nv_gt_of 889 rfl rfl, wi_X7, ⟨by decide, by decide, by decide +kernel⟩, by decide⟩, nv_gt_of 887 (by decide +kernel) (by decide +kernel), nv_gt_of 888 (by decide +kernel) (by decide +kernel)⟩
set_option maxRecDepth 100000 in
theorem y_qX7_get : nv_Yv qX7_get 3 := ⟨⟨nv_gt_of 900 rfl rfl, wi_X7, ⟨by decide, by decide, by decide +kernel⟩, by decide⟩, nv_gt_of 898 (by decide +kernel) (by decide +kernel), nv_gt_of 899 (by decide +kernel) (by decide +kernel)⟩
set_option maxRecDepth 100000 in
theorem y_qX7_copy : nv_Yv qX7_copy 5 := ⟨⟨nv_gt_of 905 rfl rfl, wi_X7, ⟨by decide, by decide, by decide +kernel⟩, by decide⟩, nv_gt_of 903 (by decide +kernel) (by decide +kernel), nv_gt_of 904 (by decide +kernel) (by decide +kernel)⟩
set_option maxRecDepth 100000 in
theorem y_qX7_isPerson : nv_Ys qX7_isPerson 1 := ⟨⟨nv_gt_of 912 rfl rfl, wi_X7, ⟨by decide, by decide, by decide +kernel⟩, by decide⟩, nv_gt_of 911 (by decide +kernel) (by decide +kernel)⟩
set_option maxRecDepth 100000 in
theorem y_qX7_isDay : nv_Ys qX7_isDay 1 := ⟨⟨nv_gt_of 934 rfl rfl, wi_X7, ⟨by decide, by decide, by decide +kernel⟩, by decide⟩, nv_gt_of 933 (by decide +kernel) (by decide +kernel)⟩
set_option maxRecDepth 100000 in
theorem y_qX7_purse : nv_Yv qX7_purse 2 := ⟨⟨nv_gt_of 909 rfl rfl, wi_X7, ⟨by decide, by decide, by decide +kernel⟩, by decide⟩, nv_gt_of 907 (by decide +kernel) (by decide +kernel), nv_gt_of 908 (by decide +kernel) (by decide +kernel)⟩
set_option maxRecDepth 100000 in
theorem y_qX7_isLeave : nv_Yv qX7_isLeave 1 := ⟨⟨nv_gt_of 926 rfl rfl, wi_X7, ⟨by decide, by decide, by decide +kernel⟩, by decide⟩, nv_gt_of 925 (by decide +kernel) (by decide +kernel), nv_gt_of 43 (by decide +kernel) (by decide +kernel)⟩
set_option maxRecDepth 100000 in
theorem y_qX7_isGiven : nv_Yv qX7_isGiven 4 := ⟨⟨nv_gt_of 922 rfl rfl, wi_X7, ⟨by decide, by decide, by decide +kernel⟩, by decide⟩, nv_gt_of 921 (by decide +kernel) (by decide +kernel), nv_gt_of 42 (by decide +kernel) (by decide +kernel)⟩
set_option maxRecDepth 100000 in
theorem y_qX7_lays : nv_Yv qX7_lays 8 := ⟨⟨nv_gt_of 939 rfl rfl, wi_X7, ⟨by decide, by decide, by decide +kernel⟩, by decide⟩, nv_gt_of 938 (by decide +kernel) (by decide +kernel), nv_gt_of 44 (by decide +kernel) (by decide +kernel)⟩
set_option maxRecDepth 100000 in
theorem y_qX7_leave : nv_Yv qX7_leave 8 := ⟨⟨nv_gt_of 918 rfl rfl, wi_X7, ⟨by decide, by decide, by decide +kernel⟩, by decide⟩, nv_gt_of 916 (by decide +kernel) (by decide +kernel), nv_gt_of 917 (by decide +kernel) (by decide +kernel)⟩
set_option maxRecDepth 100000 in
theorem y_qX7_leaveIs : nv_Yv qX7_leaveIs 2 := ⟨⟨nv_gt_of 943 rfl rfl, wi_X7, ⟨by decide, by decide, by decide +kernel⟩, by decide⟩, nv_gt_of 941 (by decide +kernel) (by decide +kernel), nv_gt_of 942 (by decide +kernel) (by decide +kernel)⟩
set_option maxRecDepth 100000 in
theorem y_qX7_isBack : nv_Yv qX7_isBack 1 := ⟨⟨nv_gt_of 956 rfl rfl, wi_X7, ⟨by decide, by decide, by decide +kernel⟩, by decide⟩, nv_gt_of 955 (by decide +kernel) (by decide +kernel), nv_gt_of 45 (by decide +kernel) (by decide +kernel)⟩
set_option maxRecDepth 100000 in
theorem y_qX7_back : nv_Yv qX7_back 4 := ⟨⟨nv_gt_of 947 rfl rfl, wi_X7, ⟨by decide, by decide, by decide +kernel⟩, by decide⟩, nv_gt_of 945 (by decide +kernel) (by decide +kernel), nv_gt_of 946 (by decide +kernel) (by decide +kernel)⟩
set_option maxRecDepth 100000 in
theorem y_qX7_heard : nv_Yv qX7_heard 2 := ⟨⟨nv_gt_of 952 rfl rfl, wi_X7, ⟨by decide, by decide, by decide +kernel⟩, by decide⟩, nv_gt_of 950 (by decide +kernel) (by decide +kernel), nv_gt_of 951 (by decide +kernel) (by decide +kernel)⟩
set_option maxRecDepth 100000 in
theorem y_qX7_isBargain : nv_Yv qX7_isBargain 1 := ⟨⟨nv_gt_of 973 rfl rfl, wi_X7, ⟨by decide, by decide, by decide +kernel⟩, by decide⟩, nv_gt_of 972 (by decide +kernel) (by decide +kernel), nv_gt_of 46 (by decide +kernel) (by decide +kernel)⟩
set_option maxRecDepth 100000 in
theorem y_qX7_bargain : nv_Yv qX7_bargain 6 := ⟨⟨nv_gt_of 960 rfl rfl, wi_X7, ⟨by decide, by decide, by decide +kernel⟩, by decide⟩, nv_gt_of 958 (by decide +kernel) (by decide +kernel), nv_gt_of 959 (by decide +kernel) (by decide +kernel)⟩
set_option maxRecDepth 100000 in
theorem y_qX7_read : nv_Yv qX7_read 1 := ⟨⟨nv_gt_of 964 rfl rfl, wi_X7, ⟨by decide, by decide, by decide +kernel⟩, by decide⟩, nv_gt_of 962 (by decide +kernel) (by decide +kernel), nv_gt_of 963 (by decide +kernel) (by decide +kernel)⟩
set_option maxRecDepth 100000 in
theorem y_qX7_after : nv_Yv qX7_after 5 := ⟨⟨nv_gt_of 969 rfl rfl, wi_X7, ⟨by decide, by decide, by decide +kernel⟩, by decide⟩, nv_gt_of 967 (by decide +kernel) (by decide +kernel), nv_gt_of 968 (by decide +kernel) (by decide +kernel)⟩
set_option maxRecDepth 100000 in
theorem y_qX7_bargainIs : nv_Yv qX7_bargainIs 2 := ⟨⟨nv_gt_of 977 rfl rfl, wi_X7, ⟨by decide, by decide, by decide +kernel⟩, by decide⟩, nv_gt_of 975 (by decide +kernel) (by decide +kernel), nv_gt_of 976 (by decide +kernel) (by decide +kernel)⟩
set_option maxRecDepth 100000 in
theorem y_qX7_type : nv_Yv qX7_type 2 := ⟨⟨nv_gt_of 981 rfl rfl, wi_X7, ⟨by decide, by decide, by decide +kernel⟩, by decide⟩, nv_gt_of 979 (by decide +kernel) (by decide +kernel), nv_gt_of 980 (by decide +kernel) (by decide +kernel)⟩
set_option maxRecDepth 100000 in
theorem y_qX7_wipe : nv_Yv qX7_wipe 1 := ⟨⟨nv_gt_of 986 rfl rfl, wi_X7, ⟨by decide, by decide, by decide +kernel⟩, by decide⟩, nv_gt_of 984 (by decide +kernel) (by decide +kernel), nv_gt_of 985 (by decide +kernel) (by decide +kernel)⟩
set_option maxRecDepth 100000 in
theorem y_qX7_here : nv_Yv qX7_here 1 := ⟨⟨nv_gt_of 1009 rfl rfl, wi_X7, ⟨by decide, by decide, by decide +kernel⟩, by decide⟩, nv_gt_of 1008 (by decide +kernel) (by decide +kernel), nv_gt_of 50 (by decide +kernel) (by decide +kernel)⟩
set_option maxRecDepth 100000 in
theorem y_qX7_usual : nv_Ys qX7_usual 1 := ⟨⟨nv_gt_of 1001 rfl rfl, wi_X7, ⟨by decide, by decide, by decide +kernel⟩, by decide⟩, nv_gt_of 1000 (by decide +kernel) (by decide +kernel)⟩
set_option maxRecDepth 100000 in
theorem y_qX7_greatest : nv_Ys qX7_greatest 1 := ⟨⟨nv_gt_of 1017 rfl rfl, wi_X7, ⟨by decide, by decide, by decide +kernel⟩, by decide⟩, nv_gt_of 1016 (by decide +kernel) (by decide +kernel)⟩
set_option maxRecDepth 100000 in
theorem y_qX7_letterOf : nv_Ys qX7_letterOf 1 := ⟨⟨nv_gt_of 1012 rfl rfl, wi_X7, ⟨by decide, by decide, by decide +kernel⟩, by decide⟩, nv_gt_of 1011 (by decide +kernel) (by decide +kernel)⟩
set_option maxRecDepth 100000 in
theorem y_qX7_clears : nv_Yv qX7_clears 1 := ⟨⟨nv_gt_of 998 rfl rfl, wi_X7, ⟨by decide, by decide, by decide +kernel⟩, by decide⟩, nv_gt_of 997 (by decide +kernel) (by decide +kernel), nv_gt_of 48 (by decide +kernel) (by decide +kernel)⟩
set_option maxRecDepth 100000 in
theorem y_qX7_readsPart : nv_Yv qX7_readsPart 1 := ⟨⟨nv_gt_of 1005 rfl rfl, wi_X7, ⟨by decide, by decide, by decide +kernel⟩, by decide⟩, nv_gt_of 1004 (by decide +kernel) (by decide +kernel), nv_gt_of 49 (by decide +kernel) (by decide +kernel)⟩
set_option maxRecDepth 100000 in
theorem y_qX7_reads : nv_Yv qX7_reads 1 := ⟨⟨nv_gt_of 994 rfl rfl, wi_X7, ⟨by decide, by decide, by decide +kernel⟩, by decide⟩, nv_gt_of 993 (by decide +kernel) (by decide +kernel), nv_gt_of 47 (by decide +kernel) (by decide +kernel)⟩
set_option maxRecDepth 100000 in
theorem y_qX7_fault : nv_Yv qX7_fault 1 := ⟨⟨nv_gt_of 990 rfl rfl, wi_X7, ⟨by decide, by decide, by decide +kernel⟩, by decide⟩, nv_gt_of 988 (by decide +kernel) (by decide +kernel), nv_gt_of 989 (by decide +kernel) (by decide +kernel)⟩
set_option maxRecDepth 100000 in
theorem y_qX7_lawOf : nv_Yv qX7_lawOf 2 := ⟨⟨nv_gt_of 1026 rfl rfl, wi_X7, ⟨by decide, by decide, by decide +kernel⟩, by decide⟩, nv_gt_of 1025 (by decide +kernel) (by decide +kernel), nv_gt_of 51 (by decide +kernel) (by decide +kernel)⟩
set_option maxRecDepth 100000 in
theorem y_qX7_law : nv_Yv qX7_law 2 := ⟨⟨nv_gt_of 1021 rfl rfl, wi_X7, ⟨by decide, by decide, by decide +kernel⟩, by decide⟩, nv_gt_of 1019 (by decide +kernel) (by decide +kernel), nv_gt_of 1020 (by decide +kernel) (by decide +kernel)⟩
set_option maxRecDepth 100000 in
theorem y_qX7_goes : nv_Yv qX7_goes 1 := ⟨⟨nv_gt_of 1034 rfl rfl, wi_X7, ⟨by decide, by decide, by decide +kernel⟩, by decide⟩, nv_gt_of 1033 (by decide +kernel) (by decide +kernel), nv_gt_of 52 (by decide +kernel) (by decide +kernel)⟩
set_option maxRecDepth 100000 in
theorem y_qX7_isEnded : nv_Yv qX7_isEnded 2 := ⟨⟨nv_gt_of 1050 rfl rfl, wi_X7, ⟨by decide, by decide, by decide +kernel⟩, by decide⟩, nv_gt_of 1049 (by decide +kernel) (by decide +kernel), nv_gt_of 56 (by decide +kernel) (by decide +kernel)⟩
set_option maxRecDepth 100000 in
theorem y_qX7_limitOf : nv_Yv qX7_limitOf 1 := ⟨⟨nv_gt_of 1046 rfl rfl, wi_X7, ⟨by decide, by decide, by decide +kernel⟩, by decide⟩, nv_gt_of 1045 (by decide +kernel) (by decide +kernel), nv_gt_of 55 (by decide +kernel) (by decide +kernel)⟩
set_option maxRecDepth 100000 in
theorem y_qX7_has : nv_Yv qX7_has 2 := ⟨⟨nv_gt_of 1042 rfl rfl, wi_X7, ⟨by decide, by decide, by decide +kernel⟩, by decide⟩, nv_gt_of 1041 (by decide +kernel) (by decide +kernel), nv_gt_of 54 (by decide +kernel) (by decide +kernel)⟩
set_option maxRecDepth 100000 in
theorem y_qX7_reachesNow : nv_Yv qX7_reachesNow 2 := ⟨⟨nv_gt_of 1038 rfl rfl, wi_X7, ⟨by decide, by decide, by decide +kernel⟩, by decide⟩, nv_gt_of 1037 (by decide +kernel) (by decide +kernel), nv_gt_of 53 (by decide +kernel) (by decide +kernel)⟩
set_option maxRecDepth 100000 in
theorem y_qX7_firstLeave : nv_Yv qX7_firstLeave 1 := ⟨⟨nv_gt_of 1066 rfl rfl, wi_X7, ⟨by decide, by decide, by decide +kernel⟩, by decide⟩, nv_gt_of 1065 (by decide +kernel) (by decide +kernel), nv_gt_of 59 (by decide +kernel) (by decide +kernel)⟩
set_option maxRecDepth 100000 in
theorem y_qX7_isWell : nv_Yv qX7_isWell 1 := ⟨⟨nv_gt_of 1070 rfl rfl, wi_X7, ⟨by decide, by decide, by decide +kernel⟩, by decide⟩, nv_gt_of 1069 (by decide +kernel) (by decide +kernel), nv_gt_of 60 (by decide +kernel) (by decide +kernel)⟩
set_option maxRecDepth 100000 in
theorem y_qX7_boundNow : nv_Yv qX7_boundNow 1 := ⟨⟨nv_gt_of 1062 rfl rfl, wi_X7, ⟨by decide, by decide, by decide +kernel⟩, by decide⟩, nv_gt_of 1061 (by decide +kernel) (by decide +kernel), nv_gt_of 58 (by decide +kernel) (by decide +kernel)⟩
set_option maxRecDepth 100000 in
theorem y_qX7_reaches : nv_Yv qX7_reaches 4 := ⟨⟨nv_gt_of 1030 rfl rfl, wi_X7, ⟨by decide, by decide, by decide +kernel⟩, by decide⟩, nv_gt_of 1028 (by decide +kernel) (by decide +kernel), nv_gt_of 1029 (by decide +kernel) (by decide +kernel)⟩
set_option maxRecDepth 100000 in
theorem y_qX7_boundOf : nv_Yv qX7_boundOf 3 := ⟨⟨nv_gt_of 1058 rfl rfl, wi_X7, ⟨by decide, by decide, by decide +kernel⟩, by decide⟩, nv_gt_of 1057 (by decide +kernel) (by decide +kernel), nv_gt_of 57 (by decide +kernel) (by decide +kernel)⟩
set_option maxRecDepth 100000 in
theorem y_qX7_bound : nv_Yv qX7_bound 3 := ⟨⟨nv_gt_of 1054 rfl rfl, wi_X7, ⟨by decide, by decide, by decide +kernel⟩, by decide⟩, nv_gt_of 1052 (by decide +kernel) (by decide +kernel), nv_gt_of 1053 (by decide +kernel) (by decide +kernel)⟩
set_option maxRecDepth 100000 in
theorem y_qX7_till : nv_Yv qX7_till 2 := ⟨⟨nv_gt_of 1074 rfl rfl, wi_X7, ⟨by decide, by decide, by decide +kernel⟩, by decide⟩, nv_gt_of 1072 (by decide +kernel) (by decide +kernel), nv_gt_of 1073 (by decide +kernel) (by decide +kernel)⟩
set_option maxRecDepth 100000 in
theorem y_qX7_askNow : nv_Yv qX7_askNow 2 := ⟨⟨nv_gt_of 1082 rfl rfl, wi_X7, ⟨by decide, by decide, by decide +kernel⟩, by decide⟩, nv_gt_of 1081 (by decide +kernel) (by decide +kernel), nv_gt_of 61 (by decide +kernel) (by decide +kernel)⟩
set_option maxRecDepth 100000 in
theorem y_qX7_ask : nv_Yv qX7_ask 3 := ⟨⟨nv_gt_of 1078 rfl rfl, wi_X7, ⟨by decide, by decide, by decide +kernel⟩, by decide⟩, nv_gt_of 1076 (by decide +kernel) (by decide +kernel), nv_gt_of 1077 (by decide +kernel) (by decide +kernel)⟩
set_option maxRecDepth 100000 in
theorem y_qX7_owesNow : nv_Yv qX7_owesNow 1 := ⟨⟨nv_gt_of 1094 rfl rfl, wi_X7, ⟨by decide, by decide, by decide +kernel⟩, by decide⟩, nv_gt_of 1093 (by decide +kernel) (by decide +kernel), nv_gt_of 63 (by decide +kernel) (by decide +kernel)⟩
set_option maxRecDepth 100000 in
theorem y_qX7_owesOf : nv_Yv qX7_owesOf 2 := ⟨⟨nv_gt_of 1090 rfl rfl, wi_X7, ⟨by decide, by decide, by decide +kernel⟩, by decide⟩, nv_gt_of 1089 (by decide +kernel) (by decide +kernel), nv_gt_of 62 (by decide +kernel) (by decide +kernel)⟩
set_option maxRecDepth 100000 in
theorem y_qX7_owes : nv_Yv qX7_owes 2 := ⟨⟨nv_gt_of 1086 rfl rfl, wi_X7, ⟨by decide, by decide, by decide +kernel⟩, by decide⟩, nv_gt_of 1084 (by decide +kernel) (by decide +kernel), nv_gt_of 1085 (by decide +kernel) (by decide +kernel)⟩
set_option maxRecDepth 100000 in
theorem y_qX7_pays : nv_Yv qX7_pays 3 := ⟨⟨nv_gt_of 1110 rfl rfl, wi_X7, ⟨by decide, by decide, by decide +kernel⟩, by decide⟩, nv_gt_of 1109 (by decide +kernel) (by decide +kernel), nv_gt_of 66 (by decide +kernel) (by decide +kernel)⟩
set_option maxRecDepth 100000 in
theorem y_qX7_settles : nv_Yv qX7_settles 1 := ⟨⟨nv_gt_of 1106 rfl rfl, wi_X7, ⟨by decide, by decide, by decide +kernel⟩, by decide⟩, nv_gt_of 1105 (by decide +kernel) (by decide +kernel), nv_gt_of 65 (by decide +kernel) (by decide +kernel)⟩
set_option maxRecDepth 100000 in
theorem y_qX7_findEnd : nv_Yv qX7_findEnd 1 := ⟨⟨nv_gt_of 1102 rfl rfl, wi_X7, ⟨by decide, by decide, by decide +kernel⟩, by decide⟩, nv_gt_of 1101 (by decide +kernel) (by decide +kernel), nv_gt_of 64 (by decide +kernel) (by decide +kernel)⟩
set_option maxRecDepth 100000 in
theorem y_qX7_end : nv_Yv qX7_end 3 := ⟨⟨nv_gt_of 1098 rfl rfl, wi_X7, ⟨by decide, by decide, by decide +kernel⟩, by decide⟩, nv_gt_of 1096 (by decide +kernel) (by decide +kernel), nv_gt_of 1097 (by decide +kernel) (by decide +kernel)⟩
set_option maxRecDepth 100000 in
theorem y_qX7_findOpen : nv_Yv qX7_findOpen 0 := ⟨⟨nv_gt_of 1122 rfl rfl, wi_X7, ⟨by decide, by decide, by decide +kernel⟩, by decide⟩, nv_gt_of 1121 (by decide +kernel) (by decide +kernel), nv_gt_of 68 (by decide +kernel) (by decide +kernel)⟩
set_option maxRecDepth 100000 in
theorem y_qX7_findWays : nv_Yv qX7_findWays 2 := ⟨⟨nv_gt_of 1118 rfl rfl, wi_X7, ⟨by decide, by decide, by decide +kernel⟩, by decide⟩, nv_gt_of 1117 (by decide +kernel) (by decide +kernel), nv_gt_of 67 (by decide +kernel) (by decide +kernel)⟩
set_option maxRecDepth 100000 in
theorem y_qX7_sure : nv_Yv qX7_sure 3 := ⟨⟨nv_gt_of 1114 rfl rfl, wi_X7, ⟨by decide, by decide, by decide +kernel⟩, by decide⟩, nv_gt_of 1112 (by decide +kernel) (by decide +kernel), nv_gt_of 1113 (by decide +kernel) (by decide +kernel)⟩
set_option maxRecDepth 100000 in
theorem y_qX7_hangs : nv_Yv qX7_hangs 3 := ⟨⟨nv_gt_of 1126 rfl rfl, wi_X7, ⟨by decide, by decide, by decide +kernel⟩, by decide⟩, nv_gt_of 1124 (by decide +kernel) (by decide +kernel), nv_gt_of 1125 (by decide +kernel) (by decide +kernel)⟩
set_option maxRecDepth 100000 in
theorem y_qX7_ones : nv_Ys qX7_ones 1 := ⟨⟨nv_gt_of 1133 rfl rfl, wi_X7, ⟨by decide, by decide, by decide +kernel⟩, by decide⟩, nv_gt_of 1132 (by decide +kernel) (by decide +kernel)⟩
set_option maxRecDepth 100000 in
theorem y_qX7_isEnough : nv_Yv qX7_isEnough 1 := ⟨⟨nv_gt_of 1137 rfl rfl, wi_X7, ⟨by decide, by decide, by decide +kernel⟩, by decide⟩, nv_gt_of 1136 (by decide +kernel) (by decide +kernel), nv_gt_of 69 (by decide +kernel) (by decide +kernel)⟩
set_option maxRecDepth 100000 in
theorem y_qX7_wanted : nv_Yv qX7_wanted 2 := ⟨⟨nv_gt_of 1130 rfl rfl, wi_X7, ⟨by decide, by decide, by decide +kernel⟩, by decide⟩, nv_gt_of 1128 (by decide +kernel) (by decide +kernel), nv_gt_of 1129 (by decide +kernel) (by decide +kernel)⟩
set_option maxRecDepth 100000 in
theorem y_qX7_turnedOf : nv_Yv qX7_turnedOf 1 := ⟨⟨nv_gt_of 1145 rfl rfl, wi_X7, ⟨by decide, by decide, by decide +kernel⟩, by decide⟩, nv_gt_of 1144 (by decide +kernel) (by decide +kernel), nv_gt_of 70 (by decide +kernel) (by decide +kernel)⟩
set_option maxRecDepth 100000 in
theorem y_qX7_turned : nv_Yv qX7_turned 1 := ⟨⟨nv_gt_of 1141 rfl rfl, wi_X7, ⟨by decide, by decide, by decide +kernel⟩, by decide⟩, nv_gt_of 1139 (by decide +kernel) (by decide +kernel), nv_gt_of 1140 (by decide +kernel) (by decide +kernel)⟩
set_option maxRecDepth 100000 in
theorem y_qX7_isJust : nv_Yv qX7_isJust 4 := ⟨⟨nv_gt_of 1157 rfl rfl, wi_X7, ⟨by decide, by decide, by decide +kernel⟩, by decide⟩, nv_gt_of 1156 (by decide +kernel) (by decide +kernel), nv_gt_of 72 (by decide +kernel) (by decide +kernel)⟩
set_option maxRecDepth 100000 in
theorem y_qX7_isOfBoth : nv_Yv qX7_isOfBoth 3 := ⟨⟨nv_gt_of 1153 rfl rfl, wi_X7, ⟨by decide, by decide, by decide +kernel⟩, by decide⟩, nv_gt_of 1152 (by decide +kernel) (by decide +kernel), nv_gt_of 71 (by decide +kernel) (by decide +kernel)⟩
set_option maxRecDepth 100000 in
theorem y_qX7_letter : nv_Yv qX7_letter 4 := ⟨⟨nv_gt_of 1149 rfl rfl, wi_X7, ⟨by decide, by decide, by decide +kernel⟩, by decide⟩, nv_gt_of 1147 (by decide +kernel) (by decide +kernel), nv_gt_of 1148 (by decide +kernel) (by decide +kernel)⟩
set_option maxRecDepth 100000 in
theorem y_qX7_write : nv_Yv qX7_write 2 := ⟨⟨nv_gt_of 1161 rfl rfl, wi_X7, ⟨by decide, by decide, by decide +kernel⟩, by decide⟩, nv_gt_of 1159 (by decide +kernel) (by decide +kernel), nv_gt_of 1160 (by decide +kernel) (by decide +kernel)⟩
set_option maxRecDepth 100000 in
theorem y_qX7_count : nv_Yv qX7_count 1 := ⟨⟨nv_gt_of 1165 rfl rfl, wi_X7, ⟨by decide, by decide, by decide +kernel⟩, by decide⟩, nv_gt_of 1163 (by decide +kernel) (by decide +kernel), nv_gt_of 1164 (by decide +kernel) (by decide +kernel)⟩
set_option maxRecDepth 100000 in
theorem y_qX7_digest : nv_Yv qX7_digest 0 := ⟨⟨nv_gt_of 1169 rfl rfl, wi_X7, ⟨by decide, by decide, by decide +kernel⟩, by decide⟩, nv_gt_of 1167 (by decide +kernel) (by decide +kernel), nv_gt_of 1168 (by decide +kernel) (by decide +kernel)⟩
set_option maxRecDepth 100000 in
theorem y_qJ6_bitCount : nv_Ys qJ6_bitCount 1 := ⟨⟨nv_gt_of 621 rfl rfl, wi_J6, ⟨by decide, by decide, by decide +kernel⟩, by decide⟩, nv_gt_of 620 (by decide +kernel) (by decide +kernel)⟩
theorem ko_0 : 0 < nv_NN ∧ nv_shp 0 = .inr (6, [some 1, some 2, some 3, some 4, some 5, some 6, some 7, none, none, none, none, none, some 8, some 9, some 10, some 11, some 12, none]) := ⟨by decide, rfl⟩
theorem ka_1 : nv_A 8 1 := ⟨by decide, rfl⟩
theorem kr_2 : 2 < nv_NN ∧ nv_shp 2 = .inl (12, some (1, 13, 1)) := ⟨by decide, rfl⟩
theorem kr_3 : 3 < nv_NN ∧ nv_shp 3 = .inl (12, some (2, 25, 1)) := ⟨by decide, rfl⟩
theorem kr_4 : 4 < nv_NN ∧ nv_shp 4 = .inl (10, some (3, 37, 1)) := ⟨by decide, rfl⟩
theorem kr_5 : 5 < nv_NN ∧ nv_shp 5 = .inl (12, some (4, 47, 1)) := ⟨by decide, rfl⟩
theorem kr_6 : 6 < nv_NN ∧ nv_shp 6 = .inl (2, some (5, 59, 3)) := ⟨by decide, rfl⟩
theorem kr_7 : 7 < nv_NN ∧ nv_shp 7 = .inl (4, some (6, 65, 2)) := ⟨by decide, rfl⟩
theorem ka_8 : nv_A 8 8 := ⟨by decide, rfl⟩
theorem ka_9 : nv_A 10 9 := ⟨by decide, rfl⟩
theorem ka_10 : nv_A 9 10 := ⟨by decide, rfl⟩
theorem ka_11 : nv_A 6 11 := ⟨by decide, rfl⟩
theorem ka_12 : nv_A 64 12 := ⟨by decide, rfl⟩
theorem ka_60 : nv_A 60 60 := ⟨by decide, rfl⟩
theorem ka_61 : nv_A 9 61 := ⟨by decide, rfl⟩
theorem ka_63 : nv_A 60 63 := ⟨by decide, rfl⟩
theorem ka_64 : nv_A 9 64 := ⟨by decide, rfl⟩
theorem ka_66 : nv_A 60 66 := ⟨by decide, rfl⟩
theorem ka_68 : nv_A 60 68 := ⟨by decide, rfl⟩
theorem ka_70 : nv_A 60 70 := ⟨by decide, rfl⟩
theorem ka_72 : nv_A 60 72 := ⟨by decide, rfl⟩
theorem ko_73 : 73 < nv_NN ∧ nv_shp 73 = .inr (7, [some 74, some 75, some 76, some 77, none, some 78, none, some 79, some 80, some 81, some 82, some 83, some 84, some 85, some 86, some 87, some 88, none, some 89, some 90, some 91, some 92, some 93, none, some 94, some 95, some 96, some 97, some 98, some 99, none, some 100, some 101, some 102, some 103, some 104, some 105, some 106, none, some 107, some 108, none, some 109, some 110, some 111, none, some 112]) := ⟨by decide, rfl⟩
theorem ka_74 : nv_A 4 74 := ⟨by decide, rfl⟩
theorem ka_75 : nv_A 4 75 := ⟨by decide, rfl⟩
theorem ka_76 : nv_A 240 76 := ⟨by decide, rfl⟩
theorem ka_77 : nv_A 60 77 := ⟨by decide, rfl⟩
theorem ka_78 : nv_A 8 78 := ⟨by decide, rfl⟩
theorem ka_79 : nv_A 13 79 := ⟨by decide, rfl⟩
theorem ka_80 : nv_A 13 80 := ⟨by decide, rfl⟩
theorem ka_81 : nv_A 13 81 := ⟨by decide, rfl⟩
theorem ka_82 : nv_A 13 82 := ⟨by decide, rfl⟩
theorem ka_83 : nv_A 13 83 := ⟨by decide, rfl⟩
theorem ka_84 : nv_A 13 84 := ⟨by decide, rfl⟩
theorem ka_85 : nv_A 13 85 := ⟨by decide, rfl⟩
theorem ka_86 : nv_A 13 86 := ⟨by decide, rfl⟩
theorem ka_87 : nv_A 13 87 := ⟨by decide, rfl⟩
theorem ka_88 : nv_A 13 88 := ⟨by decide, rfl⟩
theorem ka_89 : nv_A 12 89 := ⟨by decide, rfl⟩
theorem ka_90 : nv_A 12 90 := ⟨by decide, rfl⟩
theorem ka_91 : nv_A 12 91 := ⟨by decide, rfl⟩
theorem ka_92 : nv_A 12 92 := ⟨by decide, rfl⟩
theorem ka_93 : nv_A 12 93 := ⟨by decide, rfl⟩
theorem ka_94 : nv_A 10 94 := ⟨by decide, rfl⟩
theorem ka_95 : nv_A 10 95 := ⟨by decide, rfl⟩
theorem ka_96 : nv_A 10 96 := ⟨by decide, rfl⟩
theorem ka_97 : nv_A 10 97 := ⟨by decide, rfl⟩
theorem ka_98 : nv_A 10 98 := ⟨by decide, rfl⟩
theorem ka_99 : nv_A 10 99 := ⟨by decide, rfl⟩
theorem ka_100 : nv_A 12 100 := ⟨by decide, rfl⟩
theorem ka_101 : nv_A 12 101 := ⟨by decide, rfl⟩
theorem ka_102 : nv_A 12 102 := ⟨by decide, rfl⟩
theorem ka_103 : nv_A 12 103 := ⟨by decide, rfl⟩
theorem ka_104 : nv_A 12 104 := ⟨by decide, rfl⟩
theorem ka_105 : nv_A 120 105 := ⟨by decide, rfl⟩
theorem ka_106 : nv_A 2 106 := ⟨by decide, rfl⟩
theorem ka_107 : nv_A 18 107 := ⟨by decide, rfl⟩
theorem ka_108 : nv_A 9 108 := ⟨by decide, rfl⟩
theorem ka_109 : nv_A 8 109 := ⟨by decide, rfl⟩
theorem ka_110 : nv_A 10 110 := ⟨by decide, rfl⟩
theorem ka_111 : nv_A 6 111 := ⟨by decide, rfl⟩
theorem ka_112 : nv_A 64 112 := ⟨by decide, rfl⟩
theorem nv_ltX {α β : Type} {a : α} {f : α → β} {r : β} (hf : nv_lt a f = r) : ∃ x, a = x ∧ f x = r := ⟨a, rfl, hf⟩
