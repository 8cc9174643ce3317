def ML : Mx := (x, code, maxLocals, ret, 500)
theorem kb_31 : (Int8.ofInt 31).toInt32 = 31 := by decide +kernel
theorem ki_6 : Int32.ofInt 6 = 6 := by decide +kernel
theorem pn_RL : plainName RL = true := by decide +kernel
theorem cv_RL_17_X12_feed : CV RL 17 MX12_feed 5 := ⟨tb7 34 (by decide +kernel) (by decide +kernel), tb7 35 (by decide +kernel) (by decide +kernel), tb7 36 (by decide +kernel) (by decide +kernel), tb1 17 (by decide +kernel) (by decide +kernel), tb7 37 (by decide +kernel) (by decide +kernel), ⟨by decide, by decide, by decide +kernel⟩⟩
theorem cv_RL_13_X11_feed : CV RL 13 MX11_feed 5 := ⟨tb3 92 (by decide +kernel) (by decide +kernel), tb3 93 (by decide +kernel) (by decide +kernel), tb3 94 (by decide +kernel) (by decide +kernel), tb1 1 (by decide +kernel) (by decide +kernel), tb3 95 (by decide +kernel) (by decide +kernel), ⟨by decide, by decide, by decide +kernel⟩⟩
theorem cv_RL_22_X12_end : CV RL 22 MX12_end 1 := ⟨tb7 42 (by decide +kernel) (by decide +kernel), tb7 43 (by decide +kernel) (by decide +kernel), tb7 44 (by decide +kernel) (by decide +kernel), tb1 17 (by decide +kernel) (by decide +kernel), tb7 45 (by decide +kernel) (by decide +kernel), ⟨by decide, by decide, by decide +kernel⟩⟩
theorem cv_RL_18_X11_end : CV RL 18 MX11_end 1 := ⟨tb3 100 (by decide +kernel) (by decide +kernel), tb3 101 (by decide +kernel) (by decide +kernel), tb3 102 (by decide +kernel) (by decide +kernel), tb1 1 (by decide +kernel) (by decide +kernel), tb3 103 (by decide +kernel) (by decide +kernel), ⟨by decide, by decide, by decide +kernel⟩⟩
theorem cv_RL_27_X12_valley : CV RL 27 MX12_valley 0 := ⟨tb7 46 (by decide +kernel) (by decide +kernel), tb7 47 (by decide +kernel) (by decide +kernel), tb7 48 (by decide +kernel) (by decide +kernel), tb1 17 (by decide +kernel) (by decide +kernel), tb7 49 (by decide +kernel) (by decide +kernel), ⟨by decide, by decide, by decide +kernel⟩⟩
theorem cv_RL_23_X11_valley : CV RL 23 MX11_valley 0 := ⟨tb3 104 (by decide +kernel) (by decide +kernel), tb3 105 (by decide +kernel) (by decide +kernel), tb3 106 (by decide +kernel) (by decide +kernel), tb1 1 (by decide +kernel) (by decide +kernel), tb3 107 (by decide +kernel) (by decide +kernel), ⟨by decide, by decide, by decide +kernel⟩⟩
theorem cv_RL_31_X12_fault : CV RL 31 MX12_fault 1 := ⟨tb7 213 (by decide +kernel) (by decide +kernel), tb7 214 (by decide +kernel) (by decide +kernel), tb7 215 (by decide +kernel) (by decide +kernel), tb1 17 (by decide +kernel) (by decide +kernel), tb7 216 (by decide +kernel) (by decide +kernel), ⟨by decide, by decide, by decide +kernel⟩⟩
theorem cv_RL_28_X11_fault : CV RL 28 MX11_fault 1 := ⟨tb4 56 (by decide +kernel) (by decide +kernel), tb4 57 (by decide +kernel) (by decide +kernel), tb4 58 (by decide +kernel) (by decide +kernel), tb1 1 (by decide +kernel) (by decide +kernel), tb4 59 (by decide +kernel) (by decide +kernel), ⟨by decide, by decide, by decide +kernel⟩⟩
theorem cv_RL_35_X12_run : CV RL 35 MX12_run 1 := ⟨tb7 229 (by decide +kernel) (by decide +kernel), tb7 230 (by decide +kernel) (by decide +kernel), tb7 231 (by decide +kernel) (by decide +kernel), tb1 17 (by decide +kernel) (by decide +kernel), tb7 232 (by decide +kernel) (by decide +kernel), ⟨by decide, by decide, by decide +kernel⟩⟩
theorem cv_RL_32_X11_run : CV RL 32 MX11_run 1 := ⟨tb4 60 (by decide +kernel) (by decide +kernel), tb4 61 (by decide +kernel) (by decide +kernel), tb4 62 (by decide +kernel) (by decide +kernel), tb1 1 (by decide +kernel) (by decide +kernel), tb4 63 (by decide +kernel) (by decide +kernel), ⟨by decide, by decide, by decide +kernel⟩⟩
theorem cv_RL_40_X12_thing : CV RL 40 MX12_thing 2 := ⟨tb8 86 (by decide +kernel) (by decide +kernel), tb8 87 (by decide +kernel) (by decide +kernel), tb8 88 (by decide +kernel) (by decide +kernel), tb1 17 (by decide +kernel) (by decide +kernel), tb8 89 (by decide +kernel) (by decide +kernel), ⟨by decide, by decide, by decide +kernel⟩⟩
theorem cv_RL_36_X11_thing : CV RL 36 MX11_thing 2 := ⟨tb4 155 (by decide +kernel) (by decide +kernel), tb4 156 (by decide +kernel) (by decide +kernel), tb4 157 (by decide +kernel) (by decide +kernel), tb1 1 (by decide +kernel) (by decide +kernel), tb4 158 (by decide +kernel) (by decide +kernel), ⟨by decide, by decide, by decide +kernel⟩⟩
theorem cv_RL_44_X12_person : CV RL 44 MX12_person 2 := ⟨tb8 94 (by decide +kernel) (by decide +kernel), tb8 95 (by decide +kernel) (by decide +kernel), tb8 96 (by decide +kernel) (by decide +kernel), tb1 17 (by decide +kernel) (by decide +kernel), tb8 97 (by decide +kernel) (by decide +kernel), ⟨by decide, by decide, by decide +kernel⟩⟩
theorem cv_RL_41_X11_person : CV RL 41 MX11_person 2 := ⟨tb4 163 (by decide +kernel) (by decide +kernel), tb4 164 (by decide +kernel) (by decide +kernel), tb4 165 (by decide +kernel) (by decide +kernel), tb1 1 (by decide +kernel) (by decide +kernel), tb4 166 (by decide +kernel) (by decide +kernel), ⟨by decide, by decide, by decide +kernel⟩⟩
theorem cv_RL_48_X12_far : CV RL 48 MX12_far 2 := ⟨tb7 217 (by decide +kernel) (by decide +kernel), tb7 218 (by decide +kernel) (by decide +kernel), tb7 219 (by decide +kernel) (by decide +kernel), tb1 17 (by decide +kernel) (by decide +kernel), tb7 220 (by decide +kernel) (by decide +kernel), ⟨by decide, by decide, by decide +kernel⟩⟩
theorem cv_RL_45_X11_far : CV RL 45 MX11_far 2 := ⟨tb4 177 (by decide +kernel) (by decide +kernel), tb4 178 (by decide +kernel) (by decide +kernel), tb4 179 (by decide +kernel) (by decide +kernel), tb1 1 (by decide +kernel) (by decide +kernel), tb4 180 (by decide +kernel) (by decide +kernel), ⟨by decide, by decide, by decide +kernel⟩⟩
theorem cv_RL_53_X12_give : CV RL 53 MX12_give 2 := ⟨tb8 106 (by decide +kernel) (by decide +kernel), tb8 107 (by decide +kernel) (by decide +kernel), tb8 108 (by decide +kernel) (by decide +kernel), tb1 17 (by decide +kernel) (by decide +kernel), tb8 109 (by decide +kernel) (by decide +kernel), ⟨by decide, by decide, by decide +kernel⟩⟩
theorem cv_RL_49_X11_give : CV RL 49 MX11_give 2 := ⟨tb4 186 (by decide +kernel) (by decide +kernel), tb4 187 (by decide +kernel) (by decide +kernel), tb4 188 (by decide +kernel) (by decide +kernel), tb1 1 (by decide +kernel) (by decide +kernel), tb4 189 (by decide +kernel) (by decide +kernel), ⟨by decide, by decide, by decide +kernel⟩⟩
theorem cv_RL_57_X12_chip : CV RL 57 MX12_chip 2 := ⟨tb8 110 (by decide +kernel) (by decide +kernel), tb8 111 (by decide +kernel) (by decide +kernel), tb8 112 (by decide +kernel) (by decide +kernel), tb1 17 (by decide +kernel) (by decide +kernel), tb8 113 (by decide +kernel) (by decide +kernel), ⟨by decide, by decide, by decide +kernel⟩⟩
theorem cv_RL_54_X11_chip : CV RL 54 MX11_chip 2 := ⟨tb4 194 (by decide +kernel) (by decide +kernel), tb4 195 (by decide +kernel) (by decide +kernel), tb4 196 (by decide +kernel) (by decide +kernel), tb1 1 (by decide +kernel) (by decide +kernel), tb4 197 (by decide +kernel) (by decide +kernel), ⟨by decide, by decide, by decide +kernel⟩⟩
theorem cv_RL_61_X12_asks : CV RL 61 MX12_asks 2 := ⟨tb8 114 (by decide +kernel) (by decide +kernel), tb8 115 (by decide +kernel) (by decide +kernel), tb8 116 (by decide +kernel) (by decide +kernel), tb1 17 (by decide +kernel) (by decide +kernel), tb8 117 (by decide +kernel) (by decide +kernel), ⟨by decide, by decide, by decide +kernel⟩⟩
theorem cv_RL_58_X11_asks : CV RL 58 MX11_asks 2 := ⟨tb4 198 (by decide +kernel) (by decide +kernel), tb4 199 (by decide +kernel) (by decide +kernel), tb4 200 (by decide +kernel) (by decide +kernel), tb1 1 (by decide +kernel) (by decide +kernel), tb4 201 (by decide +kernel) (by decide +kernel), ⟨by decide, by decide, by decide +kernel⟩⟩
theorem cv_RL_66_X12_chance : CV RL 66 MX12_chance 3 := ⟨tb8 119 (by decide +kernel) (by decide +kernel), tb8 120 (by decide +kernel) (by decide +kernel), tb8 121 (by decide +kernel) (by decide +kernel), tb1 17 (by decide +kernel) (by decide +kernel), tb8 122 (by decide +kernel) (by decide +kernel), ⟨by decide, by decide, by decide +kernel⟩⟩
theorem cv_RL_62_X11_chance : CV RL 62 MX11_chance 3 := ⟨tb4 204 (by decide +kernel) (by decide +kernel), tb4 205 (by decide +kernel) (by decide +kernel), tb4 206 (by decide +kernel) (by decide +kernel), tb1 1 (by decide +kernel) (by decide +kernel), tb4 207 (by decide +kernel) (by decide +kernel), ⟨by decide, by decide, by decide +kernel⟩⟩
theorem cv_RL_70_X12_rest : CV RL 70 MX12_rest 1 := ⟨tb8 151 (by decide +kernel) (by decide +kernel), tb8 152 (by decide +kernel) (by decide +kernel), tb8 153 (by decide +kernel) (by decide +kernel), tb1 17 (by decide +kernel) (by decide +kernel), tb8 154 (by decide +kernel) (by decide +kernel), ⟨by decide, by decide, by decide +kernel⟩⟩
theorem cv_RL_67_X11_rest : CV RL 67 MX11_rest 1 := ⟨tb4 239 (by decide +kernel) (by decide +kernel), tb5 0 (by decide +kernel) (by decide +kernel), tb5 1 (by decide +kernel) (by decide +kernel), tb1 1 (by decide +kernel) (by decide +kernel), tb5 2 (by decide +kernel) (by decide +kernel), ⟨by decide, by decide, by decide +kernel⟩⟩
theorem cv_RL_74_X12_stands : CV RL 74 MX12_stands 2 := ⟨tb8 187 (by decide +kernel) (by decide +kernel), tb8 188 (by decide +kernel) (by decide +kernel), tb8 189 (by decide +kernel) (by decide +kernel), tb1 17 (by decide +kernel) (by decide +kernel), tb8 190 (by decide +kernel) (by decide +kernel), ⟨by decide, by decide, by decide +kernel⟩⟩
theorem cv_RL_71_X11_stands : CV RL 71 MX11_stands 2 := ⟨tb5 59 (by decide +kernel) (by decide +kernel), tb5 60 (by decide +kernel) (by decide +kernel), tb5 61 (by decide +kernel) (by decide +kernel), tb1 1 (by decide +kernel) (by decide +kernel), tb5 62 (by decide +kernel) (by decide +kernel), ⟨by decide, by decide, by decide +kernel⟩⟩
theorem cv_RL_78_X12_made : CV RL 78 MX12_made 2 := ⟨tb8 191 (by decide +kernel) (by decide +kernel), tb8 192 (by decide +kernel) (by decide +kernel), tb8 193 (by decide +kernel) (by decide +kernel), tb1 17 (by decide +kernel) (by decide +kernel), tb8 194 (by decide +kernel) (by decide +kernel), ⟨by decide, by decide, by decide +kernel⟩⟩
theorem cv_RL_75_X11_made : CV RL 75 MX11_made 2 := ⟨tb5 63 (by decide +kernel) (by decide +kernel), tb5 64 (by decide +kernel) (by decide +kernel), tb5 65 (by decide +kernel) (by decide +kernel), tb1 1 (by decide +kernel) (by decide +kernel), tb5 66 (by decide +kernel) (by decide +kernel), ⟨by decide, by decide, by decide +kernel⟩⟩
theorem cv_RL_82_X12_law : CV RL 82 MX12_law 1 := ⟨tb8 202 (by decide +kernel) (by decide +kernel), tb8 203 (by decide +kernel) (by decide +kernel), tb8 204 (by decide +kernel) (by decide +kernel), tb1 17 (by decide +kernel) (by decide +kernel), tb8 205 (by decide +kernel) (by decide +kernel), ⟨by decide, by decide, by decide +kernel⟩⟩
theorem cv_RL_79_X11_law : CV RL 79 MX11_law 1 := ⟨tb5 76 (by decide +kernel) (by decide +kernel), tb5 77 (by decide +kernel) (by decide +kernel), tb5 78 (by decide +kernel) (by decide +kernel), tb1 1 (by decide +kernel) (by decide +kernel), tb5 79 (by decide +kernel) (by decide +kernel), ⟨by decide, by decide, by decide +kernel⟩⟩
theorem cv_RL_87_X12_used : CV RL 87 MX12_used 4 := ⟨tb8 206 (by decide +kernel) (by decide +kernel), tb8 207 (by decide +kernel) (by decide +kernel), tb8 208 (by decide +kernel) (by decide +kernel), tb1 17 (by decide +kernel) (by decide +kernel), tb8 209 (by decide +kernel) (by decide +kernel), ⟨by decide, by decide, by decide +kernel⟩⟩
theorem cv_RL_83_X11_used : CV RL 83 MX11_used 4 := ⟨tb5 80 (by decide +kernel) (by decide +kernel), tb5 81 (by decide +kernel) (by decide +kernel), tb5 82 (by decide +kernel) (by decide +kernel), tb1 1 (by decide +kernel) (by decide +kernel), tb5 83 (by decide +kernel) (by decide +kernel), ⟨by decide, by decide, by decide +kernel⟩⟩
theorem cv_RL_91_X12_keeps : CV RL 91 MX12_keeps 1 := ⟨tb8 147 (by decide +kernel) (by decide +kernel), tb8 148 (by decide +kernel) (by decide +kernel), tb8 149 (by decide +kernel) (by decide +kernel), tb1 17 (by decide +kernel) (by decide +kernel), tb8 150 (by decide +kernel) (by decide +kernel), ⟨by decide, by decide, by decide +kernel⟩⟩
theorem cv_RL_88_X11_keeps : CV RL 88 MX11_keeps 1 := ⟨tb5 95 (by decide +kernel) (by decide +kernel), tb5 96 (by decide +kernel) (by decide +kernel), tb5 97 (by decide +kernel) (by decide +kernel), tb1 1 (by decide +kernel) (by decide +kernel), tb5 98 (by decide +kernel) (by decide +kernel), ⟨by decide, by decide, by decide +kernel⟩⟩
theorem cv_RL_95_X12_lift : CV RL 95 MX12_lift 2 := ⟨tb8 221 (by decide +kernel) (by decide +kernel), tb8 222 (by decide +kernel) (by decide +kernel), tb8 223 (by decide +kernel) (by decide +kernel), tb1 17 (by decide +kernel) (by decide +kernel), tb8 224 (by decide +kernel) (by decide +kernel), ⟨by decide, by decide, by decide +kernel⟩⟩
theorem cv_RL_92_X11_lift : CV RL 92 MX11_lift 2 := ⟨tb5 99 (by decide +kernel) (by decide +kernel), tb5 100 (by decide +kernel) (by decide +kernel), tb5 101 (by decide +kernel) (by decide +kernel), tb1 1 (by decide +kernel) (by decide +kernel), tb5 102 (by decide +kernel) (by decide +kernel), ⟨by decide, by decide, by decide +kernel⟩⟩
theorem cv_RL_99_X12_tour : CV RL 99 MX12_tour 1 := ⟨tb8 225 (by decide +kernel) (by decide +kernel), tb8 226 (by decide +kernel) (by decide +kernel), tb8 227 (by decide +kernel) (by decide +kernel), tb1 17 (by decide +kernel) (by decide +kernel), tb8 228 (by decide +kernel) (by decide +kernel), ⟨by decide, by decide, by decide +kernel⟩⟩
theorem cv_RL_96_X11_tour : CV RL 96 MX11_tour 1 := ⟨tb5 103 (by decide +kernel) (by decide +kernel), tb5 104 (by decide +kernel) (by decide +kernel), tb5 105 (by decide +kernel) (by decide +kernel), tb1 1 (by decide +kernel) (by decide +kernel), tb5 106 (by decide +kernel) (by decide +kernel), ⟨by decide, by decide, by decide +kernel⟩⟩
theorem cv_RL_103_X12_since : CV RL 103 MX12_since 1 := ⟨tb8 233 (by decide +kernel) (by decide +kernel), tb8 234 (by decide +kernel) (by decide +kernel), tb8 235 (by decide +kernel) (by decide +kernel), tb1 17 (by decide +kernel) (by decide +kernel), tb8 236 (by decide +kernel) (by decide +kernel), ⟨by decide, by decide, by decide +kernel⟩⟩
theorem cv_RL_100_X11_since : CV RL 100 MX11_since 1 := ⟨tb5 112 (by decide +kernel) (by decide +kernel), tb5 113 (by decide +kernel) (by decide +kernel), tb5 114 (by decide +kernel) (by decide +kernel), tb1 1 (by decide +kernel) (by decide +kernel), tb5 115 (by decide +kernel) (by decide +kernel), ⟨by decide, by decide, by decide +kernel⟩⟩
theorem cv_RL_107_X12_tale : CV RL 107 MX12_tale 3 := ⟨tb8 237 (by decide +kernel) (by decide +kernel), tb8 238 (by decide +kernel) (by decide +kernel), tb8 239 (by decide +kernel) (by decide +kernel), tb1 17 (by decide +kernel) (by decide +kernel), tb9 0 (by decide +kernel) (by decide +kernel), ⟨by decide, by decide, by decide +kernel⟩⟩
theorem cv_RL_104_X11_tale : CV RL 104 MX11_tale 3 := ⟨tb5 120 (by decide +kernel) (by decide +kernel), tb5 121 (by decide +kernel) (by decide +kernel), tb5 122 (by decide +kernel) (by decide +kernel), tb1 1 (by decide +kernel) (by decide +kernel), tb5 123 (by decide +kernel) (by decide +kernel), ⟨by decide, by decide, by decide +kernel⟩⟩
theorem cv_RL_112_X12_untell : CV RL 112 MX12_untell 1 := ⟨tb9 1 (by decide +kernel) (by decide +kernel), tb9 2 (by decide +kernel) (by decide +kernel), tb9 3 (by decide +kernel) (by decide +kernel), tb1 17 (by decide +kernel) (by decide +kernel), tb9 4 (by decide +kernel) (by decide +kernel), ⟨by decide, by decide, by decide +kernel⟩⟩
theorem cv_RL_108_X11_untell : CV RL 108 MX11_untell 1 := ⟨tb5 128 (by decide +kernel) (by decide +kernel), tb5 129 (by decide +kernel) (by decide +kernel), tb5 130 (by decide +kernel) (by decide +kernel), tb1 1 (by decide +kernel) (by decide +kernel), tb5 131 (by decide +kernel) (by decide +kernel), ⟨by decide, by decide, by decide +kernel⟩⟩
theorem cv_RL_116_X12_later : CV RL 116 MX12_later 1 := ⟨tb9 5 (by decide +kernel) (by decide +kernel), tb9 6 (by decide +kernel) (by decide +kernel), tb9 7 (by decide +kernel) (by decide +kernel), tb1 17 (by decide +kernel) (by decide +kernel), tb9 8 (by decide +kernel) (by decide +kernel), ⟨by decide, by decide, by decide +kernel⟩⟩
theorem cv_RL_113_X11_later : CV RL 113 MX11_later 1 := ⟨tb5 136 (by decide +kernel) (by decide +kernel), tb5 137 (by decide +kernel) (by decide +kernel), tb5 138 (by decide +kernel) (by decide +kernel), tb1 1 (by decide +kernel) (by decide +kernel), tb5 139 (by decide +kernel) (by decide +kernel), ⟨by decide, by decide, by decide +kernel⟩⟩
theorem cv_RL_120_X12_judge : CV RL 120 MX12_judge 2 := ⟨tb9 10 (by decide +kernel) (by decide +kernel), tb9 11 (by decide +kernel) (by decide +kernel), tb9 12 (by decide +kernel) (by decide +kernel), tb1 17 (by decide +kernel) (by decide +kernel), tb9 13 (by decide +kernel) (by decide +kernel), ⟨by decide, by decide, by decide +kernel⟩⟩
theorem cv_RL_117_X11_judge : CV RL 117 MX11_judge 2 := ⟨tb5 141 (by decide +kernel) (by decide +kernel), tb5 142 (by decide +kernel) (by decide +kernel), tb5 143 (by decide +kernel) (by decide +kernel), tb1 1 (by decide +kernel) (by decide +kernel), tb5 144 (by decide +kernel) (by decide +kernel), ⟨by decide, by decide, by decide +kernel⟩⟩
theorem cv_RL_124_X12_seed : CV RL 124 MX12_seed 1 := ⟨tb9 26 (by decide +kernel) (by decide +kernel), tb9 27 (by decide +kernel) (by decide +kernel), tb9 28 (by decide +kernel) (by decide +kernel), tb1 17 (by decide +kernel) (by decide +kernel), tb9 29 (by decide +kernel) (by decide +kernel), ⟨by decide, by decide, by decide +kernel⟩⟩
theorem cv_RL_121_X11_seed : CV RL 121 MX11_seed 1 := ⟨tb5 174 (by decide +kernel) (by decide +kernel), tb5 175 (by decide +kernel) (by decide +kernel), tb5 176 (by decide +kernel) (by decide +kernel), tb1 1 (by decide +kernel) (by decide +kernel), tb5 177 (by decide +kernel) (by decide +kernel), ⟨by decide, by decide, by decide +kernel⟩⟩
theorem cv_RL_128_X12_image : CV RL 128 MX12_image 1 := ⟨tb9 30 (by decide +kernel) (by decide +kernel), tb9 31 (by decide +kernel) (by decide +kernel), tb9 32 (by decide +kernel) (by decide +kernel), tb1 17 (by decide +kernel) (by decide +kernel), tb9 33 (by decide +kernel) (by decide +kernel), ⟨by decide, by decide, by decide +kernel⟩⟩
theorem cv_RL_125_X11_image : CV RL 125 MX11_image 1 := ⟨tb5 178 (by decide +kernel) (by decide +kernel), tb5 179 (by decide +kernel) (by decide +kernel), tb5 180 (by decide +kernel) (by decide +kernel), tb1 1 (by decide +kernel) (by decide +kernel), tb5 181 (by decide +kernel) (by decide +kernel), ⟨by decide, by decide, by decide +kernel⟩⟩
theorem cv_RL_132_X12_back : CV RL 132 MX12_back 1 := ⟨tb9 37 (by decide +kernel) (by decide +kernel), tb9 38 (by decide +kernel) (by decide +kernel), tb9 39 (by decide +kernel) (by decide +kernel), tb1 17 (by decide +kernel) (by decide +kernel), tb9 40 (by decide +kernel) (by decide +kernel), ⟨by decide, by decide, by decide +kernel⟩⟩
theorem cv_RL_129_X11_back : CV RL 129 MX11_back 1 := ⟨tb5 183 (by decide +kernel) (by decide +kernel), tb5 184 (by decide +kernel) (by decide +kernel), tb5 185 (by decide +kernel) (by decide +kernel), tb1 1 (by decide +kernel) (by decide +kernel), tb5 186 (by decide +kernel) (by decide +kernel), ⟨by decide, by decide, by decide +kernel⟩⟩
theorem cv_RL_136_X12_about : CV RL 136 MX12_about 1 := ⟨tb9 41 (by decide +kernel) (by decide +kernel), tb9 42 (by decide +kernel) (by decide +kernel), tb9 43 (by decide +kernel) (by decide +kernel), tb1 17 (by decide +kernel) (by decide +kernel), tb9 44 (by decide +kernel) (by decide +kernel), ⟨by decide, by decide, by decide +kernel⟩⟩
theorem cv_RL_133_X11_about : CV RL 133 MX11_about 1 := ⟨tb5 187 (by decide +kernel) (by decide +kernel), tb5 188 (by decide +kernel) (by decide +kernel), tb5 189 (by decide +kernel) (by decide +kernel), tb1 1 (by decide +kernel) (by decide +kernel), tb5 190 (by decide +kernel) (by decide +kernel), ⟨by decide, by decide, by decide +kernel⟩⟩
abbrev Eg (G : Gx) (M : Mx) (Q : Qx) (pc : Nat) (ls : List (Nat × Value)) (st : List Value) (I : Ix) (L : Lx) : Prop := Ev G M 0 178 Q pc ls st 178 I L RF
section EG
variable {G : Gx} {M M' : Mx} {pc pc' : Nat} {ls : List (Nat × Value)} {st : List Value} {I : Ix} {L : Lx} {Q : Qx}
theorem Eg.callVI {k c idx np : Nat} {Q' : Int32 → Ix → Lx → Prop} (As rest : List Value) {stk : List Value} (hd : decode (mC M) pc = .ok (.invokevirtual idx, 3)) (hp : pc + 3 = pc') (cv : CV (mY M).cls idx M' np) (rm : RM M M') (ob : OB 178 k c) (hcl : (vwCl[c]?).map (fun q => q.1) = some (mY M').cls) (hn : As.length = np) (hst : stk = As.reverse ++ .ref k :: rest) (hW8 : (rest.map fun v => v.category).sum ≤ 8)
    (hM : Mf G M' (.ref k :: As) I L (qI Q')) (kk : ∀ (r : Int32) (I' : Ix) (L' : Lx), Q' r I' L' → Eg G M Q pc' ls (.int r :: rest) I' L') : Eg G M Q pc ls stk I L :=
  Ev.callV hd hp cv rm ob hcl hn hst hW8 (Nat.le_refl _) (Nat.le_refl _) hM fun v n' I' L' R' ⟨h1, h2, r, h3, h4⟩ => by subst h1; subst h2; subst h3; exact ⟨rfl, kk r I' L' h4⟩
theorem Eg.callVZ {k c idx np : Nat} {Q' : Bool → Ix → Lx → Prop} (As rest : List Value) {stk : List Value} (hd : decode (mC M) pc = .ok (.invokevirtual idx, 3)) (hp : pc + 3 = pc') (cv : CV (mY M).cls idx M' np) (rm : RM M M') (ob : OB 178 k c) (hcl : (vwCl[c]?).map (fun q => q.1) = some (mY M').cls) (hn : As.length = np) (hst : stk = As.reverse ++ .ref k :: rest) (hW8 : (rest.map fun v => v.category).sum ≤ 8)
    (hM : Mf G M' (.ref k :: As) I L (qZ Q')) (kk : ∀ (r : Bool) (I' : Ix) (L' : Lx), Q' r I' L' → Eg G M Q pc' ls (.int (b2i r) :: rest) I' L') : Eg G M Q pc ls stk I L :=
  Ev.callV hd hp cv rm ob hcl hn hst hW8 (Nat.le_refl _) (Nat.le_refl _) hM fun v n' I' L' R' ⟨h1, h2, r, h3, h4⟩ => by subst h1; subst h2; subst h3; exact ⟨rfl, kk r I' L' h4⟩
theorem Eg.zret {Q : Bool → Ix → Lx → Prop} {b : Bool} (hd : decode (mC M) pc = .ok (.ireturn, 1)) (hr : mR M = some .boolean) (hq : Q b I L) : Eg G M (qZ Q) pc ls [.int (b2i b)] I L := Ev.zret hd hr (b2i_n b) rfl ⟨rfl, rfl, b, rfl, hq⟩
end EG

def wpL_law_l18 (Ls : Nat) (xs : Nat → Int32) (Q : Bool → Ix → Lx → Prop) (P18 : Int32 → Ix → Lx → Prop) (v3 : Int32) (I : Ix) (L : Lx) : Prop := (((nI Ls) - 6) < v3 → Q true I L) ∧ (¬ ((nI Ls) - 6) < v3 → vp_in v3 Ls ∧ (((xs v3.toNatClampNeg) &&& 31) = 0 → vp_in (v3 + 1) Ls ∧ vp_in (v3 + 2) Ls ∧ vp_in (v3 + 3) Ls ∧ vp_in (v3 + 4) Ls ∧ vp_in (v3 + 5) Ls ∧ wpX11_feed (xs (v3 + 1).toNatClampNeg) (xs (v3 + 2).toNatClampNeg) (xs (v3 + 3).toNatClampNeg) (xs (v3 + 4).toNatClampNeg) (xs (v3 + 5).toNatClampNeg) I L (fun r3 I1 L2 => vp_in (v3 + 1) Ls ∧ vp_in (v3 + 2) Ls ∧ vp_in (v3 + 3) Ls ∧ vp_in (v3 + 4) Ls ∧ vp_in (v3 + 5) Ls ∧ wpX12_feed (xs (v3 + 1).toNatClampNeg) (xs (v3 + 2).toNatClampNeg) (xs (v3 + 3).toNatClampNeg) (xs (v3 + 4).toNatClampNeg) (xs (v3 + 5).toNatClampNeg) I1 L2 (fun r6 I4 L5 => (r3 = r6 → P18 (v3 + 6) I4 L5) ∧ (¬ r3 = r6 → Q false I4 L5)))) ∧ (((xs v3.toNatClampNeg) &&& 31) = 1 → vp_in (v3 + 1) Ls ∧ wpX11_end (xs (v3 + 1).toNatClampNeg) I L (fun r9 I7 L8 => vp_in (v3 + 1) Ls ∧ wpX12_end (xs (v3 + 1).toNatClampNeg) I7 L8 (fun r12 I10 L11 => (r9 = r12 → P18 (v3 + 6) I10 L11) ∧ (¬ r9 = r12 → Q false I10 L11)))) ∧ (((xs v3.toNatClampNeg) &&& 31) = 2 → wpX11_valley I L (fun r15 I13 L14 => wpX12_valley I13 L14 (fun r18 I16 L17 => (r15 = r18 → P18 (v3 + 6) I16 L17) ∧ (¬ r15 = r18 → Q false I16 L17)))) ∧ (((xs v3.toNatClampNeg) &&& 31) = 3 → vp_in (v3 + 1) Ls ∧ wpX11_fault (xs (v3 + 1).toNatClampNeg) I L (fun r21 I19 L20 => vp_in (v3 + 1) Ls ∧ wpX12_fault (xs (v3 + 1).toNatClampNeg) I19 L20 (fun r24 I22 L23 => (r21 = r24 → P18 (v3 + 6) I22 L23) ∧ (¬ r21 = r24 → Q false I22 L23)))) ∧ (((xs v3.toNatClampNeg) &&& 31) = 4 → vp_in (v3 + 1) Ls ∧ wpX11_run (xs (v3 + 1).toNatClampNeg) I L (fun r27 I25 L26 => vp_in (v3 + 1) Ls ∧ wpX12_run (xs (v3 + 1).toNatClampNeg) I25 L26 (fun r30 I28 L29 => (r27 = r30 → P18 (v3 + 6) I28 L29) ∧ (¬ r27 = r30 → Q false I28 L29)))) ∧ (((xs v3.toNatClampNeg) &&& 31) = 5 → vp_in (v3 + 1) Ls ∧ vp_in (v3 + 2) Ls ∧ wpX11_thing (xs (v3 + 1).toNatClampNeg) (xs (v3 + 2).toNatClampNeg) I L (fun r33 I31 L32 => vp_in (v3 + 1) Ls ∧ vp_in (v3 + 2) Ls ∧ wpX12_thing (xs (v3 + 1).toNatClampNeg) (xs (v3 + 2).toNatClampNeg) I31 L32 (fun r36 I34 L35 => (r33 = r36 → P18 (v3 + 6) I34 L35) ∧ (¬ r33 = r36 → Q false I34 L35)))) ∧ (((xs v3.toNatClampNeg) &&& 31) = 6 → vp_in (v3 + 1) Ls ∧ vp_in (v3 + 2) Ls ∧ wpX11_person (xs (v3 + 1).toNatClampNeg) (xs (v3 + 2).toNatClampNeg) I L (fun r39 I37 L38 => vp_in (v3 + 1) Ls ∧ vp_in (v3 + 2) Ls ∧ wpX12_person (xs (v3 + 1).toNatClampNeg) (xs (v3 + 2).toNatClampNeg) I37 L38 (fun r42 I40 L41 => (r39 = r42 → P18 (v3 + 6) I40 L41) ∧ (¬ r39 = r42 → Q false I40 L41)))) ∧ (((xs v3.toNatClampNeg) &&& 31) = 7 → vp_in (v3 + 1) Ls ∧ vp_in (v3 + 2) Ls ∧ wpX11_far (xs (v3 + 1).toNatClampNeg) (xs (v3 + 2).toNatClampNeg) I L (fun r45 I43 L44 => vp_in (v3 + 1) Ls ∧ vp_in (v3 + 2) Ls ∧ wpX12_far (xs (v3 + 1).toNatClampNeg) (xs (v3 + 2).toNatClampNeg) I43 L44 (fun r48 I46 L47 => (r45 = r48 → P18 (v3 + 6) I46 L47) ∧ (¬ r45 = r48 → Q false I46 L47)))) ∧ (((xs v3.toNatClampNeg) &&& 31) = 8 → vp_in (v3 + 1) Ls ∧ vp_in (v3 + 2) Ls ∧ wpX11_give (xs (v3 + 1).toNatClampNeg) (xs (v3 + 2).toNatClampNeg) I L (fun r51 I49 L50 => vp_in (v3 + 1) Ls ∧ vp_in (v3 + 2) Ls ∧ wpX12_give (xs (v3 + 1).toNatClampNeg) (xs (v3 + 2).toNatClampNeg) I49 L50 (fun r54 I52 L53 => ((b2i r51) = (b2i r54) → P18 (v3 + 6) I52 L53) ∧ (¬ (b2i r51) = (b2i r54) → Q false I52 L53)))) ∧ (((xs v3.toNatClampNeg) &&& 31) = 9 → vp_in (v3 + 1) Ls ∧ vp_in (v3 + 2) Ls ∧ wpX11_chip (xs (v3 + 1).toNatClampNeg) (xs (v3 + 2).toNatClampNeg) I L (fun r57 I55 L56 => vp_in (v3 + 1) Ls ∧ vp_in (v3 + 2) Ls ∧ wpX12_chip (xs (v3 + 1).toNatClampNeg) (xs (v3 + 2).toNatClampNeg) I55 L56 (fun r60 I58 L59 => (r57 = r60 → P18 (v3 + 6) I58 L59) ∧ (¬ r57 = r60 → Q false I58 L59)))) ∧ (((xs v3.toNatClampNeg) &&& 31) = 10 → vp_in (v3 + 1) Ls ∧ vp_in (v3 + 2) Ls ∧ wpX11_asks (xs (v3 + 1).toNatClampNeg) (xs (v3 + 2).toNatClampNeg) I L (fun r63 I61 L62 => vp_in (v3 + 1) Ls ∧ vp_in (v3 + 2) Ls ∧ wpX12_asks (xs (v3 + 1).toNatClampNeg) (xs (v3 + 2).toNatClampNeg) I61 L62 (fun r66 I64 L65 => (r63 = r66 → P18 (v3 + 6) I64 L65) ∧ (¬ r63 = r66 → Q false I64 L65)))) ∧ (((xs v3.toNatClampNeg) &&& 31) = 11 → vp_in (v3 + 1) Ls ∧ vp_in (v3 + 2) Ls ∧ vp_in (v3 + 3) Ls ∧ wpX11_chance (xs (v3 + 1).toNatClampNeg) (xs (v3 + 2).toNatClampNeg) (xs (v3 + 3).toNatClampNeg) I L (fun r69 I67 L68 => vp_in (v3 + 1) Ls ∧ vp_in (v3 + 2) Ls ∧ vp_in (v3 + 3) Ls ∧ wpX12_chance (xs (v3 + 1).toNatClampNeg) (xs (v3 + 2).toNatClampNeg) (xs (v3 + 3).toNatClampNeg) I67 L68 (fun r72 I70 L71 => (r69 = r72 → P18 (v3 + 6) I70 L71) ∧ (¬ r69 = r72 → Q false I70 L71)))) ∧ (((xs v3.toNatClampNeg) &&& 31) = 12 → vp_in (v3 + 1) Ls ∧ wpX11_rest (xs (v3 + 1).toNatClampNeg) I L (fun r75 I73 L74 => vp_in (v3 + 1) Ls ∧ wpX12_rest (xs (v3 + 1).toNatClampNeg) I73 L74 (fun r78 I76 L77 => (r75 = r78 → P18 (v3 + 6) I76 L77) ∧ (¬ r75 = r78 → Q false I76 L77)))) ∧ (((xs v3.toNatClampNeg) &&& 31) = 13 → vp_in (v3 + 1) Ls ∧ vp_in (v3 + 2) Ls ∧ wpX11_stands (xs (v3 + 1).toNatClampNeg) (xs (v3 + 2).toNatClampNeg) I L (fun r81 I79 L80 => vp_in (v3 + 1) Ls ∧ vp_in (v3 + 2) Ls ∧ wpX12_stands (xs (v3 + 1).toNatClampNeg) (xs (v3 + 2).toNatClampNeg) I79 L80 (fun r84 I82 L83 => (r81 = r84 → P18 (v3 + 6) I82 L83) ∧ (¬ r81 = r84 → Q false I82 L83)))) ∧ (((xs v3.toNatClampNeg) &&& 31) = 14 → vp_in (v3 + 1) Ls ∧ vp_in (v3 + 2) Ls ∧ wpX11_made (xs (v3 + 1).toNatClampNeg) (xs (v3 + 2).toNatClampNeg) I L (fun r87 I85 L86 => vp_in (v3 + 1) Ls ∧ vp_in (v3 + 2) Ls ∧ wpX12_made (xs (v3 + 1).toNatClampNeg) (xs (v3 + 2).toNatClampNeg) I85 L86 (fun r90 I88 L89 => (r87 = r90 → P18 (v3 + 6) I88 L89) ∧ (¬ r87 = r90 → Q false I88 L89)))) ∧ (((xs v3.toNatClampNeg) &&& 31) = 15 → vp_in (v3 + 1) Ls ∧ wpX11_law (xs (v3 + 1).toNatClampNeg) I L (fun r93 I91 L92 => vp_in (v3 + 1) Ls ∧ wpX12_law (xs (v3 + 1).toNatClampNeg) I91 L92 (fun r96 I94 L95 => (r93 = r96 → P18 (v3 + 6) I94 L95) ∧ (¬ r93 = r96 → Q false I94 L95)))) ∧ (((xs v3.toNatClampNeg) &&& 31) = 16 → vp_in (v3 + 1) Ls ∧ vp_in (v3 + 2) Ls ∧ vp_in (v3 + 3) Ls ∧ vp_in (v3 + 4) Ls ∧ wpX11_used (xs (v3 + 1).toNatClampNeg) (xs (v3 + 2).toNatClampNeg) (xs (v3 + 3).toNatClampNeg) (xs (v3 + 4).toNatClampNeg) I L (fun r99 I97 L98 => vp_in (v3 + 1) Ls ∧ vp_in (v3 + 2) Ls ∧ vp_in (v3 + 3) Ls ∧ vp_in (v3 + 4) Ls ∧ wpX12_used (xs (v3 + 1).toNatClampNeg) (xs (v3 + 2).toNatClampNeg) (xs (v3 + 3).toNatClampNeg) (xs (v3 + 4).toNatClampNeg) I97 L98 (fun r102 I100 L101 => (r99 = r102 → P18 (v3 + 6) I100 L101) ∧ (¬ r99 = r102 → Q false I100 L101)))) ∧ (((xs v3.toNatClampNeg) &&& 31) = 17 → vp_in (v3 + 1) Ls ∧ wpX11_keeps (xs (v3 + 1).toNatClampNeg) I L (fun r105 I103 L104 => vp_in (v3 + 1) Ls ∧ wpX12_keeps (xs (v3 + 1).toNatClampNeg) I103 L104 (fun r108 I106 L107 => (r105 = r108 → P18 (v3 + 6) I106 L107) ∧ (¬ r105 = r108 → Q false I106 L107)))) ∧ (((xs v3.toNatClampNeg) &&& 31) = 18 → vp_in (v3 + 1) Ls ∧ vp_in (v3 + 2) Ls ∧ wpX11_lift (xs (v3 + 1).toNatClampNeg) (xs (v3 + 2).toNatClampNeg) I L (fun r111 I109 L110 => vp_in (v3 + 1) Ls ∧ vp_in (v3 + 2) Ls ∧ wpX12_lift (xs (v3 + 1).toNatClampNeg) (xs (v3 + 2).toNatClampNeg) I109 L110 (fun r114 I112 L113 => (r111 = r114 → P18 (v3 + 6) I112 L113) ∧ (¬ r111 = r114 → Q false I112 L113)))) ∧ (((xs v3.toNatClampNeg) &&& 31) = 19 → vp_in (v3 + 1) Ls ∧ wpX11_tour (xs (v3 + 1).toNatClampNeg) I L (fun r117 I115 L116 => vp_in (v3 + 1) Ls ∧ wpX12_tour (xs (v3 + 1).toNatClampNeg) I115 L116 (fun r120 I118 L119 => (r117 = r120 → P18 (v3 + 6) I118 L119) ∧ (¬ r117 = r120 → Q false I118 L119)))) ∧ (((xs v3.toNatClampNeg) &&& 31) = 20 → vp_in (v3 + 1) Ls ∧ wpX11_since (xs (v3 + 1).toNatClampNeg) I L (fun r123 I121 L122 => vp_in (v3 + 1) Ls ∧ wpX12_since (xs (v3 + 1).toNatClampNeg) I121 L122 (fun r126 I124 L125 => (r123 = r126 → P18 (v3 + 6) I124 L125) ∧ (¬ r123 = r126 → Q false I124 L125)))) ∧ (((xs v3.toNatClampNeg) &&& 31) = 21 → vp_in (v3 + 1) Ls ∧ vp_in (v3 + 2) Ls ∧ vp_in (v3 + 3) Ls ∧ wpX11_tale (xs (v3 + 1).toNatClampNeg) (xs (v3 + 2).toNatClampNeg) (xs (v3 + 3).toNatClampNeg) I L (fun r129 I127 L128 => vp_in (v3 + 1) Ls ∧ vp_in (v3 + 2) Ls ∧ vp_in (v3 + 3) Ls ∧ wpX12_tale (xs (v3 + 1).toNatClampNeg) (xs (v3 + 2).toNatClampNeg) (xs (v3 + 3).toNatClampNeg) I127 L128 (fun r132 I130 L131 => (r129 = r132 → P18 (v3 + 6) I130 L131) ∧ (¬ r129 = r132 → Q false I130 L131)))) ∧ (((xs v3.toNatClampNeg) &&& 31) = 22 → vp_in (v3 + 1) Ls ∧ wpX11_untell (xs (v3 + 1).toNatClampNeg) I L (fun r135 I133 L134 => vp_in (v3 + 1) Ls ∧ wpX12_untell (xs (v3 + 1).toNatClampNeg) I133 L134 (fun r138 I136 L137 => ((b2i r135) = (b2i r138) → P18 (v3 + 6) I136 L137) ∧ (¬ (b2i r135) = (b2i r138) → Q false I136 L137)))) ∧ (((xs v3.toNatClampNeg) &&& 31) = 23 → vp_in (v3 + 1) Ls ∧ wpX11_later (xs (v3 + 1).toNatClampNeg) I L (fun r141 I139 L140 => vp_in (v3 + 1) Ls ∧ wpX12_later (xs (v3 + 1).toNatClampNeg) I139 L140 (fun r144 I142 L143 => (r141 = r144 → P18 (v3 + 6) I142 L143) ∧ (¬ r141 = r144 → Q false I142 L143)))) ∧ (((xs v3.toNatClampNeg) &&& 31) = 24 → vp_in (v3 + 1) Ls ∧ vp_in (v3 + 2) Ls ∧ wpX11_judge (xs (v3 + 1).toNatClampNeg) (xs (v3 + 2).toNatClampNeg) I L (fun r147 I145 L146 => vp_in (v3 + 1) Ls ∧ vp_in (v3 + 2) Ls ∧ wpX12_judge (xs (v3 + 1).toNatClampNeg) (xs (v3 + 2).toNatClampNeg) I145 L146 (fun r150 I148 L149 => (r147 = r150 → P18 (v3 + 6) I148 L149) ∧ (¬ r147 = r150 → Q false I148 L149)))) ∧ (((xs v3.toNatClampNeg) &&& 31) = 25 → vp_in (v3 + 1) Ls ∧ wpX11_seed (xs (v3 + 1).toNatClampNeg) I L (fun r153 I151 L152 => vp_in (v3 + 1) Ls ∧ wpX12_seed (xs (v3 + 1).toNatClampNeg) I151 L152 (fun r156 I154 L155 => (r153 = r156 → P18 (v3 + 6) I154 L155) ∧ (¬ r153 = r156 → Q false I154 L155)))) ∧ (((xs v3.toNatClampNeg) &&& 31) = 26 → vp_in (v3 + 1) Ls ∧ wpX11_image (xs (v3 + 1).toNatClampNeg) I L (fun r159 I157 L158 => vp_in (v3 + 1) Ls ∧ wpX12_image (xs (v3 + 1).toNatClampNeg) I157 L158 (fun r162 I160 L161 => (r159 = r162 → P18 (v3 + 6) I160 L161) ∧ (¬ r159 = r162 → Q false I160 L161)))) ∧ (((xs v3.toNatClampNeg) &&& 31) = 27 → vp_in (v3 + 1) Ls ∧ wpX11_back (xs (v3 + 1).toNatClampNeg) I L (fun r165 I163 L164 => vp_in (v3 + 1) Ls ∧ wpX12_back (xs (v3 + 1).toNatClampNeg) I163 L164 (fun r168 I166 L167 => (r165 = r168 → P18 (v3 + 6) I166 L167) ∧ (¬ r165 = r168 → Q false I166 L167)))) ∧ (((xs v3.toNatClampNeg) &&& 31) = 28 → vp_in (v3 + 1) Ls ∧ wpX11_about (xs (v3 + 1).toNatClampNeg) I L (fun r171 I169 L170 => vp_in (v3 + 1) Ls ∧ wpX12_about (xs (v3 + 1).toNatClampNeg) I169 L170 (fun r174 I172 L173 => (r171 = r174 → P18 (v3 + 6) I172 L173) ∧ (¬ r171 = r174 → Q false I172 L173)))) ∧ (¬ ((xs v3.toNatClampNeg) &&& 31) = 0 → ¬ ((xs v3.toNatClampNeg) &&& 31) = 1 → ¬ ((xs v3.toNatClampNeg) &&& 31) = 2 → ¬ ((xs v3.toNatClampNeg) &&& 31) = 3 → ¬ ((xs v3.toNatClampNeg) &&& 31) = 4 → ¬ ((xs v3.toNatClampNeg) &&& 31) = 5 → ¬ ((xs v3.toNatClampNeg) &&& 31) = 6 → ¬ ((xs v3.toNatClampNeg) &&& 31) = 7 → ¬ ((xs v3.toNatClampNeg) &&& 31) = 8 → ¬ ((xs v3.toNatClampNeg) &&& 31) = 9 → ¬ ((xs v3.toNatClampNeg) &&& 31) = 10 → ¬ ((xs v3.toNatClampNeg) &&& 31) = 11 → ¬ ((xs v3.toNatClampNeg) &&& 31) = 12 → ¬ ((xs v3.toNatClampNeg) &&& 31) = 13 → ¬ ((xs v3.toNatClampNeg) &&& 31) = 14 → ¬ ((xs v3.toNatClampNeg) &&& 31) = 15 → ¬ ((xs v3.toNatClampNeg) &&& 31) = 16 → ¬ ((xs v3.toNatClampNeg) &&& 31) = 17 → ¬ ((xs v3.toNatClampNeg) &&& 31) = 18 → ¬ ((xs v3.toNatClampNeg) &&& 31) = 19 → ¬ ((xs v3.toNatClampNeg) &&& 31) = 20 → ¬ ((xs v3.toNatClampNeg) &&& 31) = 21 → ¬ ((xs v3.toNatClampNeg) &&& 31) = 22 → ¬ ((xs v3.toNatClampNeg) &&& 31) = 23 → ¬ ((xs v3.toNatClampNeg) &&& 31) = 24 → ¬ ((xs v3.toNatClampNeg) &&& 31) = 25 → ¬ ((xs v3.toNatClampNeg) &&& 31) = 26 → ¬ ((xs v3.toNatClampNeg) &&& 31) = 27 → ¬ ((xs v3.toNatClampNeg) &&& 31) = 28 → P18 (v3 + 6) I L))
def wpL_law_h18 (Ls : Nat) (xs : Nat → Int32) (Q : Bool → Ix → Lx → Prop) (v3 : Int32) (I : Ix) (L : Lx) : Prop := Lfp (X := Int32 × Ix × Lx) (fun P z => wpL_law_l18 Ls xs Q (fun v3 I L => P (v3, I, L)) z.1 z.2.1 z.2.2) (v3, I, L)
theorem wpL_law_h18_fold {Ls : Nat} {xs : Nat → Int32} {Q : Bool → Ix → Lx → Prop} {v3 : Int32} {I : Ix} {L : Lx} (h : wpL_law_l18 Ls xs Q (wpL_law_h18 Ls xs Q) v3 I L) : wpL_law_h18 Ls xs Q v3 I L := Lfp.fold h
set_option maxRecDepth 20000 in
set_option maxHeartbeats 4000000 in
theorem okL_law_l18 {G : Gx} {Ls : Nat} {xs : Nat → Int32} (hO : Old G Ls xs) {Q : Bool → Ix → Lx → Prop} {P18 : Int32 → Ix → Lx → Prop} (hP18 : ∀ (v3 : Int32) (I : Ix) (L : Lx), P18 v3 I L → Eg G ML (qZ Q) 18 [(0, .ref 1004), (1, .ref 0), (2, .ref 120), (3, .int v3)] [] I L) {v3 : Int32} {I : Ix} {L : Lx} (h : wpL_law_l18 Ls xs Q P18 v3 I L) : Eg G ML (qZ Q) 18 [(0, .ref 1004), (1, .ref 0), (2, .ref 120), (3, .int v3)] [] I L := by
  unfold wpL_law_l18 at h
  refine Ev.iload_n (k := 3) (pc' := 19) dL_law_18 rfl rfl rfl ?_
  refine Ev.aload_n (k := 0) (pc' := 20) dL_law_19 rfl rfl rfl ?_
  refine Ev.lenO (k := 1004) (pc' := 21) dL_law_20 rfl (fun U hU => (hO U hU).2.2.2.2.1) ?_
  refine Ev.bipush (pc' := 23) dL_law_21 rfl kb_6 ?_
  refine Ev.isub (pc' := 24) dL_law_23 rfl ?_
  refine Ev.icmp_gt (pc' := 27) (tgt := 1037) dL_law_24 rfl rfl (fun hc => ?_) (fun hc => ?_)
  · have h := h.1 hc
    refine Ev.iconst (pc' := 1038) dL_law_1037 rfl ki_1 ?_
    exact Eg.zret (b := true) dL_law_1038 rfl h
  · have h := h.2 hc
    refine Ev.aload_n (k := 0) (pc' := 28) dL_law_27 rfl rfl rfl ?_
    refine Ev.iload_n (k := 3) (pc' := 29) dL_law_28 rfl rfl rfl ?_
    refine Ev.ialoadO (k := 1004) (f := xs) (pc' := 30) dL_law_29 rfl (fun U hU => (hO U hU).2.2.2.2.1) h.1 ?_
    have h := h.2
    refine Ev.bipush (pc' := 32) dL_law_30 rfl kb_31 ?_
    refine Ev.iand (pc' := 33) dL_law_32 rfl ?_
    by_cases e0 : ((xs v3.toNatClampNeg) &&& 31) = 0
    · refine Ev.tableIn (off := 131) (tgt := 164) dL_law_33 (by rw [e0]; decide) (by rw [e0]; decide) (by rw [e0]; decide) rfl ?_
      have h := h.1 e0
      refine Ev.aload_n (k := 1) (pc' := 165) dL_law_164 rfl rfl rfl ?_
      refine Ev.aload_n (k := 0) (pc' := 166) dL_law_165 rfl rfl rfl ?_
      refine Ev.iload_n (k := 3) (pc' := 167) dL_law_166 rfl rfl rfl ?_
      refine Ev.iconst (pc' := 168) dL_law_167 rfl ki_1 ?_
      refine Ev.iadd (pc' := 169) dL_law_168 rfl ?_
      refine Ev.ialoadO (k := 1004) (f := xs) (pc' := 170) dL_law_169 rfl (fun U hU => (hO U hU).2.2.2.2.1) h.1 ?_
      have h := h.2
      refine Ev.aload_n (k := 0) (pc' := 171) dL_law_170 rfl rfl rfl ?_
      refine Ev.iload_n (k := 3) (pc' := 172) dL_law_171 rfl rfl rfl ?_
      refine Ev.iconst (pc' := 173) dL_law_172 rfl ki_2 ?_
      refine Ev.iadd (pc' := 174) dL_law_173 rfl ?_
      refine Ev.ialoadO (k := 1004) (f := xs) (pc' := 175) dL_law_174 rfl (fun U hU => (hO U hU).2.2.2.2.1) h.1 ?_
      have h := h.2
      refine Ev.aload_n (k := 0) (pc' := 176) dL_law_175 rfl rfl rfl ?_
      refine Ev.iload_n (k := 3) (pc' := 177) dL_law_176 rfl rfl rfl ?_
      refine Ev.iconst (pc' := 178) dL_law_177 rfl ki_3 ?_
      refine Ev.iadd (pc' := 179) dL_law_178 rfl ?_
      refine Ev.ialoadO (k := 1004) (f := xs) (pc' := 180) dL_law_179 rfl (fun U hU => (hO U hU).2.2.2.2.1) h.1 ?_
      have h := h.2
      refine Ev.aload_n (k := 0) (pc' := 181) dL_law_180 rfl rfl rfl ?_
      refine Ev.iload_n (k := 3) (pc' := 182) dL_law_181 rfl rfl rfl ?_
      refine Ev.iconst (pc' := 183) dL_law_182 rfl ki_4 ?_
      refine Ev.iadd (pc' := 184) dL_law_183 rfl ?_
      refine Ev.ialoadO (k := 1004) (f := xs) (pc' := 185) dL_law_184 rfl (fun U hU => (hO U hU).2.2.2.2.1) h.1 ?_
      have h := h.2
      refine Ev.aload_n (k := 0) (pc' := 186) dL_law_185 rfl rfl rfl ?_
      refine Ev.iload_n (k := 3) (pc' := 187) dL_law_186 rfl rfl rfl ?_
      refine Ev.iconst (pc' := 188) dL_law_187 rfl ki_5 ?_
      refine Ev.iadd (pc' := 189) dL_law_188 rfl ?_
      refine Ev.ialoadO (k := 1004) (f := xs) (pc' := 190) dL_law_189 rfl (fun U hU => (hO U hU).2.2.2.2.1) h.1 ?_
      have h := h.2
      refine Eg.callVI [.int _, .int _, .int _, .int _, .int _] [] (pc' := 193) dL_law_190 rfl cv_RL_13_X11_feed ⟨Nat.le_of_ble_eq_true rfl, Nat.le_of_ble_eq_true rfl⟩ ob_0 rfl rfl rfl (Nat.le_of_ble_eq_true rfl) (okX11_feed h) (fun r3 I1 L2 h => ?_)
      refine Ev.aload_n (k := 2) (pc' := 194) dL_law_193 rfl rfl rfl ?_
      refine Ev.aload_n (k := 0) (pc' := 195) dL_law_194 rfl rfl rfl ?_
      refine Ev.iload_n (k := 3) (pc' := 196) dL_law_195 rfl rfl rfl ?_
      refine Ev.iconst (pc' := 197) dL_law_196 rfl ki_1 ?_
      refine Ev.iadd (pc' := 198) dL_law_197 rfl ?_
      refine Ev.ialoadO (k := 1004) (f := xs) (pc' := 199) dL_law_198 rfl (fun U hU => (hO U hU).2.2.2.2.1) h.1 ?_
      have h := h.2
      refine Ev.aload_n (k := 0) (pc' := 200) dL_law_199 rfl rfl rfl ?_
      refine Ev.iload_n (k := 3) (pc' := 201) dL_law_200 rfl rfl rfl ?_
      refine Ev.iconst (pc' := 202) dL_law_201 rfl ki_2 ?_
      refine Ev.iadd (pc' := 203) dL_law_202 rfl ?_
      refine Ev.ialoadO (k := 1004) (f := xs) (pc' := 204) dL_law_203 rfl (fun U hU => (hO U hU).2.2.2.2.1) h.1 ?_
      have h := h.2
      refine Ev.aload_n (k := 0) (pc' := 205) dL_law_204 rfl rfl rfl ?_
      refine Ev.iload_n (k := 3) (pc' := 206) dL_law_205 rfl rfl rfl ?_
      refine Ev.iconst (pc' := 207) dL_law_206 rfl ki_3 ?_
      refine Ev.iadd (pc' := 208) dL_law_207 rfl ?_
      refine Ev.ialoadO (k := 1004) (f := xs) (pc' := 209) dL_law_208 rfl (fun U hU => (hO U hU).2.2.2.2.1) h.1 ?_
      have h := h.2
      refine Ev.aload_n (k := 0) (pc' := 210) dL_law_209 rfl rfl rfl ?_
      refine Ev.iload_n (k := 3) (pc' := 211) dL_law_210 rfl rfl rfl ?_
      refine Ev.iconst (pc' := 212) dL_law_211 rfl ki_4 ?_
      refine Ev.iadd (pc' := 213) dL_law_212 rfl ?_
      refine Ev.ialoadO (k := 1004) (f := xs) (pc' := 214) dL_law_213 rfl (fun U hU => (hO U hU).2.2.2.2.1) h.1 ?_
      have h := h.2
      refine Ev.aload_n (k := 0) (pc' := 215) dL_law_214 rfl rfl rfl ?_
      refine Ev.iload_n (k := 3) (pc' := 216) dL_law_215 rfl rfl rfl ?_
      refine Ev.iconst (pc' := 217) dL_law_216 rfl ki_5 ?_
      refine Ev.iadd (pc' := 218) dL_law_217 rfl ?_
      refine Ev.ialoadO (k := 1004) (f := xs) (pc' := 219) dL_law_218 rfl (fun U hU => (hO U hU).2.2.2.2.1) h.1 ?_
      have h := h.2
      refine Eg.callVI [.int _, .int _, .int _, .int _, .int _] [.int _] (pc' := 222) dL_law_219 rfl cv_RL_17_X12_feed ⟨Nat.le_of_ble_eq_true rfl, Nat.le_of_ble_eq_true rfl⟩ ob_120 rfl rfl rfl (Nat.le_of_ble_eq_true rfl) (okX12_feed h) (fun r6 I4 L5 h => ?_)
      refine Ev.icmp_eq (pc' := 225) (tgt := 1031) dL_law_222 rfl rfl (fun hc => ?_) (fun hc => ?_)
      · have h := h.1 hc
        refine Ev.iinc (k := 3) (v := _) (ls' := [(3, .int _), (0, .ref _), (1, .ref _), (2, .ref _)]) (pc' := 1034) dL_law_1031 rfl rfl (congrArg (_ + ·) ki_6) (Nat.le_of_ble_eq_true rfl) rfl ?_
        refine Ev.goto (tgt := 18) dL_law_1034 rfl ?_
        exact Ev.sub [1, 2, 3, 0] rfl (hP18 _ _ _ h)
      · have h := h.2 hc
        refine Ev.iconst (pc' := 226) dL_law_225 rfl ki_0 ?_
        exact Eg.zret (b := false) dL_law_226 rfl h
    by_cases e1 : ((xs v3.toNatClampNeg) &&& 31) = 1
    · refine Ev.tableIn (off := 194) (tgt := 227) dL_law_33 (by rw [e1]; decide) (by rw [e1]; decide) (by rw [e1]; decide) rfl ?_
      have h := h.2.1 e1
      refine Ev.aload_n (k := 1) (pc' := 228) dL_law_227 rfl rfl rfl ?_
      refine Ev.aload_n (k := 0) (pc' := 229) dL_law_228 rfl rfl rfl ?_
      refine Ev.iload_n (k := 3) (pc' := 230) dL_law_229 rfl rfl rfl ?_
      refine Ev.iconst (pc' := 231) dL_law_230 rfl ki_1 ?_
      refine Ev.iadd (pc' := 232) dL_law_231 rfl ?_
      refine Ev.ialoadO (k := 1004) (f := xs) (pc' := 233) dL_law_232 rfl (fun U hU => (hO U hU).2.2.2.2.1) h.1 ?_
      have h := h.2
      refine Eg.callVI [.int _] [] (pc' := 236) dL_law_233 rfl cv_RL_18_X11_end ⟨Nat.le_of_ble_eq_true rfl, Nat.le_of_ble_eq_true rfl⟩ ob_0 rfl rfl rfl (Nat.le_of_ble_eq_true rfl) (okX11_end h) (fun r9 I7 L8 h => ?_)
      refine Ev.aload_n (k := 2) (pc' := 237) dL_law_236 rfl rfl rfl ?_
      refine Ev.aload_n (k := 0) (pc' := 238) dL_law_237 rfl rfl rfl ?_
      refine Ev.iload_n (k := 3) (pc' := 239) dL_law_238 rfl rfl rfl ?_
      refine Ev.iconst (pc' := 240) dL_law_239 rfl ki_1 ?_
      refine Ev.iadd (pc' := 241) dL_law_240 rfl ?_
      refine Ev.ialoadO (k := 1004) (f := xs) (pc' := 242) dL_law_241 rfl (fun U hU => (hO U hU).2.2.2.2.1) h.1 ?_
      have h := h.2
      refine Eg.callVI [.int _] [.int _] (pc' := 245) dL_law_242 rfl cv_RL_22_X12_end ⟨Nat.le_of_ble_eq_true rfl, Nat.le_of_ble_eq_true rfl⟩ ob_120 rfl rfl rfl (Nat.le_of_ble_eq_true rfl) (okX12_end h) (fun r12 I10 L11 h => ?_)
      refine Ev.icmp_eq (pc' := 248) (tgt := 1031) dL_law_245 rfl rfl (fun hc => ?_) (fun hc => ?_)
      · have h := h.1 hc
        refine Ev.iinc (k := 3) (v := _) (ls' := [(3, .int _), (0, .ref _), (1, .ref _), (2, .ref _)]) (pc' := 1034) dL_law_1031 rfl rfl (congrArg (_ + ·) ki_6) (Nat.le_of_ble_eq_true rfl) rfl ?_
        refine Ev.goto (tgt := 18) dL_law_1034 rfl ?_
        exact Ev.sub [1, 2, 3, 0] rfl (hP18 _ _ _ h)
      · have h := h.2 hc
        refine Ev.iconst (pc' := 249) dL_law_248 rfl ki_0 ?_
        exact Eg.zret (b := false) dL_law_249 rfl h
    by_cases e2 : ((xs v3.toNatClampNeg) &&& 31) = 2
    · refine Ev.tableIn (off := 217) (tgt := 250) dL_law_33 (by rw [e2]; decide) (by rw [e2]; decide) (by rw [e2]; decide) rfl ?_
      have h := h.2.2.1 e2
      refine Ev.aload_n (k := 1) (pc' := 251) dL_law_250 rfl rfl rfl ?_
      refine Eg.callVI [] [] (pc' := 254) dL_law_251 rfl cv_RL_23_X11_valley ⟨Nat.le_of_ble_eq_true rfl, Nat.le_of_ble_eq_true rfl⟩ ob_0 rfl rfl rfl (Nat.le_of_ble_eq_true rfl) (okX11_valley h) (fun r15 I13 L14 h => ?_)
      refine Ev.aload_n (k := 2) (pc' := 255) dL_law_254 rfl rfl rfl ?_
      refine Eg.callVI [] [.int _] (pc' := 258) dL_law_255 rfl cv_RL_27_X12_valley ⟨Nat.le_of_ble_eq_true rfl, Nat.le_of_ble_eq_true rfl⟩ ob_120 rfl rfl rfl (Nat.le_of_ble_eq_true rfl) (okX12_valley h) (fun r18 I16 L17 h => ?_)
      refine Ev.icmp_eq (pc' := 261) (tgt := 1031) dL_law_258 rfl rfl (fun hc => ?_) (fun hc => ?_)
      · have h := h.1 hc
        refine Ev.iinc (k := 3) (v := _) (ls' := [(3, .int _), (0, .ref _), (1, .ref _), (2, .ref _)]) (pc' := 1034) dL_law_1031 rfl rfl (congrArg (_ + ·) ki_6) (Nat.le_of_ble_eq_true rfl) rfl ?_
        refine Ev.goto (tgt := 18) dL_law_1034 rfl ?_
        exact Ev.sub [1, 2, 3, 0] rfl (hP18 _ _ _ h)
      · have h := h.2 hc
        refine Ev.iconst (pc' := 262) dL_law_261 rfl ki_0 ?_
        exact Eg.zret (b := false) dL_law_262 rfl h
    by_cases e3 : ((xs v3.toNatClampNeg) &&& 31) = 3
    · refine Ev.tableIn (off := 230) (tgt := 263) dL_law_33 (by rw [e3]; decide) (by rw [e3]; decide) (by rw [e3]; decide) rfl ?_
      have h := h.2.2.2.1 e3
      refine Ev.aload_n (k := 1) (pc' := 264) dL_law_263 rfl rfl rfl ?_
      refine Ev.aload_n (k := 0) (pc' := 265) dL_law_264 rfl rfl rfl ?_
      refine Ev.iload_n (k := 3) (pc' := 266) dL_law_265 rfl rfl rfl ?_
      refine Ev.iconst (pc' := 267) dL_law_266 rfl ki_1 ?_
      refine Ev.iadd (pc' := 268) dL_law_267 rfl ?_
      refine Ev.ialoadO (k := 1004) (f := xs) (pc' := 269) dL_law_268 rfl (fun U hU => (hO U hU).2.2.2.2.1) h.1 ?_
      have h := h.2
      refine Eg.callVI [.int _] [] (pc' := 272) dL_law_269 rfl cv_RL_28_X11_fault ⟨Nat.le_of_ble_eq_true rfl, Nat.le_of_ble_eq_true rfl⟩ ob_0 rfl rfl rfl (Nat.le_of_ble_eq_true rfl) (okX11_fault h) (fun r21 I19 L20 h => ?_)
      refine Ev.aload_n (k := 2) (pc' := 273) dL_law_272 rfl rfl rfl ?_
      refine Ev.aload_n (k := 0) (pc' := 274) dL_law_273 rfl rfl rfl ?_
      refine Ev.iload_n (k := 3) (pc' := 275) dL_law_274 rfl rfl rfl ?_
      refine Ev.iconst (pc' := 276) dL_law_275 rfl ki_1 ?_
      refine Ev.iadd (pc' := 277) dL_law_276 rfl ?_
      refine Ev.ialoadO (k := 1004) (f := xs) (pc' := 278) dL_law_277 rfl (fun U hU => (hO U hU).2.2.2.2.1) h.1 ?_
      have h := h.2
      refine Eg.callVI [.int _] [.int _] (pc' := 281) dL_law_278 rfl cv_RL_31_X12_fault ⟨Nat.le_of_ble_eq_true rfl, Nat.le_of_ble_eq_true rfl⟩ ob_120 rfl rfl rfl (Nat.le_of_ble_eq_true rfl) (okX12_fault h) (fun r24 I22 L23 h => ?_)
      refine Ev.icmp_eq (pc' := 284) (tgt := 1031) dL_law_281 rfl rfl (fun hc => ?_) (fun hc => ?_)
      · have h := h.1 hc
        refine Ev.iinc (k := 3) (v := _) (ls' := [(3, .int _), (0, .ref _), (1, .ref _), (2, .ref _)]) (pc' := 1034) dL_law_1031 rfl rfl (congrArg (_ + ·) ki_6) (Nat.le_of_ble_eq_true rfl) rfl ?_
        refine Ev.goto (tgt := 18) dL_law_1034 rfl ?_
        exact Ev.sub [1, 2, 3, 0] rfl (hP18 _ _ _ h)
      · have h := h.2 hc
        refine Ev.iconst (pc' := 285) dL_law_284 rfl ki_0 ?_
        exact Eg.zret (b := false) dL_law_285 rfl h
    by_cases e4 : ((xs v3.toNatClampNeg) &&& 31) = 4
    · refine Ev.tableIn (off := 253) (tgt := 286) dL_law_33 (by rw [e4]; decide) (by rw [e4]; decide) (by rw [e4]; decide) rfl ?_
      have h := h.2.2.2.2.1 e4
      refine Ev.aload_n (k := 1) (pc' := 287) dL_law_286 rfl rfl rfl ?_
      refine Ev.aload_n (k := 0) (pc' := 288) dL_law_287 rfl rfl rfl ?_
      refine Ev.iload_n (k := 3) (pc' := 289) dL_law_288 rfl rfl rfl ?_
      refine Ev.iconst (pc' := 290) dL_law_289 rfl ki_1 ?_
      refine Ev.iadd (pc' := 291) dL_law_290 rfl ?_
      refine Ev.ialoadO (k := 1004) (f := xs) (pc' := 292) dL_law_291 rfl (fun U hU => (hO U hU).2.2.2.2.1) h.1 ?_
      have h := h.2
      refine Eg.callVI [.int _] [] (pc' := 295) dL_law_292 rfl cv_RL_32_X11_run ⟨Nat.le_of_ble_eq_true rfl, Nat.le_of_ble_eq_true rfl⟩ ob_0 rfl rfl rfl (Nat.le_of_ble_eq_true rfl) (okX11_run h) (fun r27 I25 L26 h => ?_)
      refine Ev.aload_n (k := 2) (pc' := 296) dL_law_295 rfl rfl rfl ?_
      refine Ev.aload_n (k := 0) (pc' := 297) dL_law_296 rfl rfl rfl ?_
      refine Ev.iload_n (k := 3) (pc' := 298) dL_law_297 rfl rfl rfl ?_
      refine Ev.iconst (pc' := 299) dL_law_298 rfl ki_1 ?_
      refine Ev.iadd (pc' := 300) dL_law_299 rfl ?_
      refine Ev.ialoadO (k := 1004) (f := xs) (pc' := 301) dL_law_300 rfl (fun U hU => (hO U hU).2.2.2.2.1) h.1 ?_
      have h := h.2
      refine Eg.callVI [.int _] [.int _] (pc' := 304) dL_law_301 rfl cv_RL_35_X12_run ⟨Nat.le_of_ble_eq_true rfl, Nat.le_of_ble_eq_true rfl⟩ ob_120 rfl rfl rfl (Nat.le_of_ble_eq_true rfl) (okX12_run h) (fun r30 I28 L29 h => ?_)
      refine Ev.icmp_eq (pc' := 307) (tgt := 1031) dL_law_304 rfl rfl (fun hc => ?_) (fun hc => ?_)
      · have h := h.1 hc
        refine Ev.iinc (k := 3) (v := _) (ls' := [(3, .int _), (0, .ref _), (1, .ref _), (2, .ref _)]) (pc' := 1034) dL_law_1031 rfl rfl (congrArg (_ + ·) ki_6) (Nat.le_of_ble_eq_true rfl) rfl ?_
        refine Ev.goto (tgt := 18) dL_law_1034 rfl ?_
        exact Ev.sub [1, 2, 3, 0] rfl (hP18 _ _ _ h)
      · have h := h.2 hc
        refine Ev.iconst (pc' := 308) dL_law_307 rfl ki_0 ?_
        exact Eg.zret (b := false) dL_law_308 rfl h
    by_cases e5 : ((xs v3.toNatClampNeg) &&& 31) = 5
    · refine Ev.tableIn (off := 276) (tgt := 309) dL_law_33 (by rw [e5]; decide) (by rw [e5]; decide) (by rw [e5]; decide) rfl ?_
      have h := h.2.2.2.2.2.1 e5
      refine Ev.aload_n (k := 1) (pc' := 310) dL_law_309 rfl rfl rfl ?_
      refine Ev.aload_n (k := 0) (pc' := 311) dL_law_310 rfl rfl rfl ?_
      refine Ev.iload_n (k := 3) (pc' := 312) dL_law_311 rfl rfl rfl ?_
      refine Ev.iconst (pc' := 313) dL_law_312 rfl ki_1 ?_
      refine Ev.iadd (pc' := 314) dL_law_313 rfl ?_
      refine Ev.ialoadO (k := 1004) (f := xs) (pc' := 315) dL_law_314 rfl (fun U hU => (hO U hU).2.2.2.2.1) h.1 ?_
      have h := h.2
      refine Ev.aload_n (k := 0) (pc' := 316) dL_law_315 rfl rfl rfl ?_
      refine Ev.iload_n (k := 3) (pc' := 317) dL_law_316 rfl rfl rfl ?_
      refine Ev.iconst (pc' := 318) dL_law_317 rfl ki_2 ?_
      refine Ev.iadd (pc' := 319) dL_law_318 rfl ?_
      refine Ev.ialoadO (k := 1004) (f := xs) (pc' := 320) dL_law_319 rfl (fun U hU => (hO U hU).2.2.2.2.1) h.1 ?_
      have h := h.2
      refine Eg.callVI [.int _, .int _] [] (pc' := 323) dL_law_320 rfl cv_RL_36_X11_thing ⟨Nat.le_of_ble_eq_true rfl, Nat.le_of_ble_eq_true rfl⟩ ob_0 rfl rfl rfl (Nat.le_of_ble_eq_true rfl) (okX11_thing h) (fun r33 I31 L32 h => ?_)
      refine Ev.aload_n (k := 2) (pc' := 324) dL_law_323 rfl rfl rfl ?_
      refine Ev.aload_n (k := 0) (pc' := 325) dL_law_324 rfl rfl rfl ?_
      refine Ev.iload_n (k := 3) (pc' := 326) dL_law_325 rfl rfl rfl ?_
      refine Ev.iconst (pc' := 327) dL_law_326 rfl ki_1 ?_
      refine Ev.iadd (pc' := 328) dL_law_327 rfl ?_
      refine Ev.ialoadO (k := 1004) (f := xs) (pc' := 329) dL_law_328 rfl (fun U hU => (hO U hU).2.2.2.2.1) h.1 ?_
      have h := h.2
      refine Ev.aload_n (k := 0) (pc' := 330) dL_law_329 rfl rfl rfl ?_
      refine Ev.iload_n (k := 3) (pc' := 331) dL_law_330 rfl rfl rfl ?_
      refine Ev.iconst (pc' := 332) dL_law_331 rfl ki_2 ?_
      refine Ev.iadd (pc' := 333) dL_law_332 rfl ?_
      refine Ev.ialoadO (k := 1004) (f := xs) (pc' := 334) dL_law_333 rfl (fun U hU => (hO U hU).2.2.2.2.1) h.1 ?_
      have h := h.2
      refine Eg.callVI [.int _, .int _] [.int _] (pc' := 337) dL_law_334 rfl cv_RL_40_X12_thing ⟨Nat.le_of_ble_eq_true rfl, Nat.le_of_ble_eq_true rfl⟩ ob_120 rfl rfl rfl (Nat.le_of_ble_eq_true rfl) (okX12_thing h) (fun r36 I34 L35 h => ?_)
      refine Ev.icmp_eq (pc' := 340) (tgt := 1031) dL_law_337 rfl rfl (fun hc => ?_) (fun hc => ?_)
      · have h := h.1 hc
        refine Ev.iinc (k := 3) (v := _) (ls' := [(3, .int _), (0, .ref _), (1, .ref _), (2, .ref _)]) (pc' := 1034) dL_law_1031 rfl rfl (congrArg (_ + ·) ki_6) (Nat.le_of_ble_eq_true rfl) rfl ?_
        refine Ev.goto (tgt := 18) dL_law_1034 rfl ?_
        exact Ev.sub [1, 2, 3, 0] rfl (hP18 _ _ _ h)
      · have h := h.2 hc
        refine Ev.iconst (pc' := 341) dL_law_340 rfl ki_0 ?_
        exact Eg.zret (b := false) dL_law_341 rfl h
    by_cases e6 : ((xs v3.toNatClampNeg) &&& 31) = 6
    · refine Ev.tableIn (off := 309) (tgt := 342) dL_law_33 (by rw [e6]; decide) (by rw [e6]; decide) (by rw [e6]; decide) rfl ?_
      have h := h.2.2.2.2.2.2.1 e6
      refine Ev.aload_n (k := 1) (pc' := 343) dL_law_342 rfl rfl rfl ?_
      refine Ev.aload_n (k := 0) (pc' := 344) dL_law_343 rfl rfl rfl ?_
      refine Ev.iload_n (k := 3) (pc' := 345) dL_law_344 rfl rfl rfl ?_
      refine Ev.iconst (pc' := 346) dL_law_345 rfl ki_1 ?_
      refine Ev.iadd (pc' := 347) dL_law_346 rfl ?_
      refine Ev.ialoadO (k := 1004) (f := xs) (pc' := 348) dL_law_347 rfl (fun U hU => (hO U hU).2.2.2.2.1) h.1 ?_
      have h := h.2
      refine Ev.aload_n (k := 0) (pc' := 349) dL_law_348 rfl rfl rfl ?_
      refine Ev.iload_n (k := 3) (pc' := 350) dL_law_349 rfl rfl rfl ?_
      refine Ev.iconst (pc' := 351) dL_law_350 rfl ki_2 ?_
      refine Ev.iadd (pc' := 352) dL_law_351 rfl ?_
      refine Ev.ialoadO (k := 1004) (f := xs) (pc' := 353) dL_law_352 rfl (fun U hU => (hO U hU).2.2.2.2.1) h.1 ?_
      have h := h.2
      refine Eg.callVI [.int _, .int _] [] (pc' := 356) dL_law_353 rfl cv_RL_41_X11_person ⟨Nat.le_of_ble_eq_true rfl, Nat.le_of_ble_eq_true rfl⟩ ob_0 rfl rfl rfl (Nat.le_of_ble_eq_true rfl) (okX11_person h) (fun r39 I37 L38 h => ?_)
      refine Ev.aload_n (k := 2) (pc' := 357) dL_law_356 rfl rfl rfl ?_
      refine Ev.aload_n (k := 0) (pc' := 358) dL_law_357 rfl rfl rfl ?_
      refine Ev.iload_n (k := 3) (pc' := 359) dL_law_358 rfl rfl rfl ?_
      refine Ev.iconst (pc' := 360) dL_law_359 rfl ki_1 ?_
      refine Ev.iadd (pc' := 361) dL_law_360 rfl ?_
      refine Ev.ialoadO (k := 1004) (f := xs) (pc' := 362) dL_law_361 rfl (fun U hU => (hO U hU).2.2.2.2.1) h.1 ?_
      have h := h.2
      refine Ev.aload_n (k := 0) (pc' := 363) dL_law_362 rfl rfl rfl ?_
      refine Ev.iload_n (k := 3) (pc' := 364) dL_law_363 rfl rfl rfl ?_
      refine Ev.iconst (pc' := 365) dL_law_364 rfl ki_2 ?_
      refine Ev.iadd (pc' := 366) dL_law_365 rfl ?_
      refine Ev.ialoadO (k := 1004) (f := xs) (pc' := 367) dL_law_366 rfl (fun U hU => (hO U hU).2.2.2.2.1) h.1 ?_
      have h := h.2
      refine Eg.callVI [.int _, .int _] [.int _] (pc' := 370) dL_law_367 rfl cv_RL_44_X12_person ⟨Nat.le_of_ble_eq_true rfl, Nat.le_of_ble_eq_true rfl⟩ ob_120 rfl rfl rfl (Nat.le_of_ble_eq_true rfl) (okX12_person h) (fun r42 I40 L41 h => ?_)
      refine Ev.icmp_eq (pc' := 373) (tgt := 1031) dL_law_370 rfl rfl (fun hc => ?_) (fun hc => ?_)
      · have h := h.1 hc
        refine Ev.iinc (k := 3) (v := _) (ls' := [(3, .int _), (0, .ref _), (1, .ref _), (2, .ref _)]) (pc' := 1034) dL_law_1031 rfl rfl (congrArg (_ + ·) ki_6) (Nat.le_of_ble_eq_true rfl) rfl ?_
        refine Ev.goto (tgt := 18) dL_law_1034 rfl ?_
        exact Ev.sub [1, 2, 3, 0] rfl (hP18 _ _ _ h)
      · have h := h.2 hc
        refine Ev.iconst (pc' := 374) dL_law_373 rfl ki_0 ?_
        exact Eg.zret (b := false) dL_law_374 rfl h
    by_cases e7 : ((xs v3.toNatClampNeg) &&& 31) = 7
    · refine Ev.tableIn (off := 342) (tgt := 375) dL_law_33 (by rw [e7]; decide) (by rw [e7]; decide) (by rw [e7]; decide) rfl ?_
      have h := h.2.2.2.2.2.2.2.1 e7
      refine Ev.aload_n (k := 1) (pc' := 376) dL_law_375 rfl rfl rfl ?_
      refine Ev.aload_n (k := 0) (pc' := 377) dL_law_376 rfl rfl rfl ?_
      refine Ev.iload_n (k := 3) (pc' := 378) dL_law_377 rfl rfl rfl ?_
      refine Ev.iconst (pc' := 379) dL_law_378 rfl ki_1 ?_
      refine Ev.iadd (pc' := 380) dL_law_379 rfl ?_
      refine Ev.ialoadO (k := 1004) (f := xs) (pc' := 381) dL_law_380 rfl (fun U hU => (hO U hU).2.2.2.2.1) h.1 ?_
      have h := h.2
      refine Ev.aload_n (k := 0) (pc' := 382) dL_law_381 rfl rfl rfl ?_
      refine Ev.iload_n (k := 3) (pc' := 383) dL_law_382 rfl rfl rfl ?_
      refine Ev.iconst (pc' := 384) dL_law_383 rfl ki_2 ?_
      refine Ev.iadd (pc' := 385) dL_law_384 rfl ?_
      refine Ev.ialoadO (k := 1004) (f := xs) (pc' := 386) dL_law_385 rfl (fun U hU => (hO U hU).2.2.2.2.1) h.1 ?_
      have h := h.2
      refine Eg.callVI [.int _, .int _] [] (pc' := 389) dL_law_386 rfl cv_RL_45_X11_far ⟨Nat.le_of_ble_eq_true rfl, Nat.le_of_ble_eq_true rfl⟩ ob_0 rfl rfl rfl (Nat.le_of_ble_eq_true rfl) (okX11_far h) (fun r45 I43 L44 h => ?_)
      refine Ev.aload_n (k := 2) (pc' := 390) dL_law_389 rfl rfl rfl ?_
      refine Ev.aload_n (k := 0) (pc' := 391) dL_law_390 rfl rfl rfl ?_
      refine Ev.iload_n (k := 3) (pc' := 392) dL_law_391 rfl rfl rfl ?_
      refine Ev.iconst (pc' := 393) dL_law_392 rfl ki_1 ?_
      refine Ev.iadd (pc' := 394) dL_law_393 rfl ?_
      refine Ev.ialoadO (k := 1004) (f := xs) (pc' := 395) dL_law_394 rfl (fun U hU => (hO U hU).2.2.2.2.1) h.1 ?_
      have h := h.2
      refine Ev.aload_n (k := 0) (pc' := 396) dL_law_395 rfl rfl rfl ?_
      refine Ev.iload_n (k := 3) (pc' := 397) dL_law_396 rfl rfl rfl ?_
      refine Ev.iconst (pc' := 398) dL_law_397 rfl ki_2 ?_
      refine Ev.iadd (pc' := 399) dL_law_398 rfl ?_
      refine Ev.ialoadO (k := 1004) (f := xs) (pc' := 400) dL_law_399 rfl (fun U hU => (hO U hU).2.2.2.2.1) h.1 ?_
      have h := h.2
      refine Eg.callVI [.int _, .int _] [.int _] (pc' := 403) dL_law_400 rfl cv_RL_48_X12_far ⟨Nat.le_of_ble_eq_true rfl, Nat.le_of_ble_eq_true rfl⟩ ob_120 rfl rfl rfl (Nat.le_of_ble_eq_true rfl) (okX12_far h) (fun r48 I46 L47 h => ?_)
      refine Ev.icmp_eq (pc' := 406) (tgt := 1031) dL_law_403 rfl rfl (fun hc => ?_) (fun hc => ?_)
      · have h := h.1 hc
        refine Ev.iinc (k := 3) (v := _) (ls' := [(3, .int _), (0, .ref _), (1, .ref _), (2, .ref _)]) (pc' := 1034) dL_law_1031 rfl rfl (congrArg (_ + ·) ki_6) (Nat.le_of_ble_eq_true rfl) rfl ?_
        refine Ev.goto (tgt := 18) dL_law_1034 rfl ?_
        exact Ev.sub [1, 2, 3, 0] rfl (hP18 _ _ _ h)
      · have h := h.2 hc
        refine Ev.iconst (pc' := 407) dL_law_406 rfl ki_0 ?_
        exact Eg.zret (b := false) dL_law_407 rfl h
    by_cases e8 : ((xs v3.toNatClampNeg) &&& 31) = 8
    · refine Ev.tableIn (off := 375) (tgt := 408) dL_law_33 (by rw [e8]; decide) (by rw [e8]; decide) (by rw [e8]; decide) rfl ?_
      have h := h.2.2.2.2.2.2.2.2.1 e8
      refine Ev.aload_n (k := 1) (pc' := 409) dL_law_408 rfl rfl rfl ?_
      refine Ev.aload_n (k := 0) (pc' := 410) dL_law_409 rfl rfl rfl ?_
      refine Ev.iload_n (k := 3) (pc' := 411) dL_law_410 rfl rfl rfl ?_
      refine Ev.iconst (pc' := 412) dL_law_411 rfl ki_1 ?_
      refine Ev.iadd (pc' := 413) dL_law_412 rfl ?_
      refine Ev.ialoadO (k := 1004) (f := xs) (pc' := 414) dL_law_413 rfl (fun U hU => (hO U hU).2.2.2.2.1) h.1 ?_
      have h := h.2
      refine Ev.aload_n (k := 0) (pc' := 415) dL_law_414 rfl rfl rfl ?_
      refine Ev.iload_n (k := 3) (pc' := 416) dL_law_415 rfl rfl rfl ?_
      refine Ev.iconst (pc' := 417) dL_law_416 rfl ki_2 ?_
      refine Ev.iadd (pc' := 418) dL_law_417 rfl ?_
      refine Ev.ialoadO (k := 1004) (f := xs) (pc' := 419) dL_law_418 rfl (fun U hU => (hO U hU).2.2.2.2.1) h.1 ?_
      have h := h.2
      refine Eg.callVZ [.int _, .int _] [] (pc' := 422) dL_law_419 rfl cv_RL_49_X11_give ⟨Nat.le_of_ble_eq_true rfl, Nat.le_of_ble_eq_true rfl⟩ ob_0 rfl rfl rfl (Nat.le_of_ble_eq_true rfl) (okX11_give h) (fun r51 I49 L50 h => ?_)
      refine Ev.aload_n (k := 2) (pc' := 423) dL_law_422 rfl rfl rfl ?_
      refine Ev.aload_n (k := 0) (pc' := 424) dL_law_423 rfl rfl rfl ?_
      refine Ev.iload_n (k := 3) (pc' := 425) dL_law_424 rfl rfl rfl ?_
      refine Ev.iconst (pc' := 426) dL_law_425 rfl ki_1 ?_
      refine Ev.iadd (pc' := 427) dL_law_426 rfl ?_
      refine Ev.ialoadO (k := 1004) (f := xs) (pc' := 428) dL_law_427 rfl (fun U hU => (hO U hU).2.2.2.2.1) h.1 ?_
      have h := h.2
      refine Ev.aload_n (k := 0) (pc' := 429) dL_law_428 rfl rfl rfl ?_
      refine Ev.iload_n (k := 3) (pc' := 430) dL_law_429 rfl rfl rfl ?_
      refine Ev.iconst (pc' := 431) dL_law_430 rfl ki_2 ?_
      refine Ev.iadd (pc' := 432) dL_law_431 rfl ?_
      refine Ev.ialoadO (k := 1004) (f := xs) (pc' := 433) dL_law_432 rfl (fun U hU => (hO U hU).2.2.2.2.1) h.1 ?_
      have h := h.2
      refine Eg.callVZ [.int _, .int _] [.int _] (pc' := 436) dL_law_433 rfl cv_RL_53_X12_give ⟨Nat.le_of_ble_eq_true rfl, Nat.le_of_ble_eq_true rfl⟩ ob_120 rfl rfl rfl (Nat.le_of_ble_eq_true rfl) (okX12_give h) (fun r54 I52 L53 h => ?_)
      refine Ev.icmp_eq (pc' := 439) (tgt := 1031) dL_law_436 rfl rfl (fun hc => ?_) (fun hc => ?_)
      · have h := h.1 hc
        refine Ev.iinc (k := 3) (v := _) (ls' := [(3, .int _), (0, .ref _), (1, .ref _), (2, .ref _)]) (pc' := 1034) dL_law_1031 rfl rfl (congrArg (_ + ·) ki_6) (Nat.le_of_ble_eq_true rfl) rfl ?_
        refine Ev.goto (tgt := 18) dL_law_1034 rfl ?_
        exact Ev.sub [1, 2, 3, 0] rfl (hP18 _ _ _ h)
      · have h := h.2 hc
        refine Ev.iconst (pc' := 440) dL_law_439 rfl ki_0 ?_
        exact Eg.zret (b := false) dL_law_440 rfl h
    by_cases e9 : ((xs v3.toNatClampNeg) &&& 31) = 9
    · refine Ev.tableIn (off := 408) (tgt := 441) dL_law_33 (by rw [e9]; decide) (by rw [e9]; decide) (by rw [e9]; decide) rfl ?_
      have h := h.2.2.2.2.2.2.2.2.2.1 e9
      refine Ev.aload_n (k := 1) (pc' := 442) dL_law_441 rfl rfl rfl ?_
      refine Ev.aload_n (k := 0) (pc' := 443) dL_law_442 rfl rfl rfl ?_
      refine Ev.iload_n (k := 3) (pc' := 444) dL_law_443 rfl rfl rfl ?_
      refine Ev.iconst (pc' := 445) dL_law_444 rfl ki_1 ?_
      refine Ev.iadd (pc' := 446) dL_law_445 rfl ?_
      refine Ev.ialoadO (k := 1004) (f := xs) (pc' := 447) dL_law_446 rfl (fun U hU => (hO U hU).2.2.2.2.1) h.1 ?_
      have h := h.2
      refine Ev.aload_n (k := 0) (pc' := 448) dL_law_447 rfl rfl rfl ?_
      refine Ev.iload_n (k := 3) (pc' := 449) dL_law_448 rfl rfl rfl ?_
      refine Ev.iconst (pc' := 450) dL_law_449 rfl ki_2 ?_
      refine Ev.iadd (pc' := 451) dL_law_450 rfl ?_
      refine Ev.ialoadO (k := 1004) (f := xs) (pc' := 452) dL_law_451 rfl (fun U hU => (hO U hU).2.2.2.2.1) h.1 ?_
      have h := h.2
      refine Eg.callVI [.int _, .int _] [] (pc' := 455) dL_law_452 rfl cv_RL_54_X11_chip ⟨Nat.le_of_ble_eq_true rfl, Nat.le_of_ble_eq_true rfl⟩ ob_0 rfl rfl rfl (Nat.le_of_ble_eq_true rfl) (okX11_chip h) (fun r57 I55 L56 h => ?_)
      refine Ev.aload_n (k := 2) (pc' := 456) dL_law_455 rfl rfl rfl ?_
      refine Ev.aload_n (k := 0) (pc' := 457) dL_law_456 rfl rfl rfl ?_
      refine Ev.iload_n (k := 3) (pc' := 458) dL_law_457 rfl rfl rfl ?_
      refine Ev.iconst (pc' := 459) dL_law_458 rfl ki_1 ?_
      refine Ev.iadd (pc' := 460) dL_law_459 rfl ?_
      refine Ev.ialoadO (k := 1004) (f := xs) (pc' := 461) dL_law_460 rfl (fun U hU => (hO U hU).2.2.2.2.1) h.1 ?_
      have h := h.2
      refine Ev.aload_n (k := 0) (pc' := 462) dL_law_461 rfl rfl rfl ?_
      refine Ev.iload_n (k := 3) (pc' := 463) dL_law_462 rfl rfl rfl ?_
      refine Ev.iconst (pc' := 464) dL_law_463 rfl ki_2 ?_
      refine Ev.iadd (pc' := 465) dL_law_464 rfl ?_
      refine Ev.ialoadO (k := 1004) (f := xs) (pc' := 466) dL_law_465 rfl (fun U hU => (hO U hU).2.2.2.2.1) h.1 ?_
      have h := h.2
      refine Eg.callVI [.int _, .int _] [.int _] (pc' := 469) dL_law_466 rfl cv_RL_57_X12_chip ⟨Nat.le_of_ble_eq_true rfl, Nat.le_of_ble_eq_true rfl⟩ ob_120 rfl rfl rfl (Nat.le_of_ble_eq_true rfl) (okX12_chip h) (fun r60 I58 L59 h => ?_)
      refine Ev.icmp_eq (pc' := 472) (tgt := 1031) dL_law_469 rfl rfl (fun hc => ?_) (fun hc => ?_)
      · have h := h.1 hc
        refine Ev.iinc (k := 3) (v := _) (ls' := [(3, .int _), (0, .ref _), (1, .ref _), (2, .ref _)]) (pc' := 1034) dL_law_1031 rfl rfl (congrArg (_ + ·) ki_6) (Nat.le_of_ble_eq_true rfl) rfl ?_
        refine Ev.goto (tgt := 18) dL_law_1034 rfl ?_
        exact Ev.sub [1, 2, 3, 0] rfl (hP18 _ _ _ h)
      · have h := h.2 hc
        refine Ev.iconst (pc' := 473) dL_law_472 rfl ki_0 ?_
        exact Eg.zret (b := false) dL_law_473 rfl h
    by_cases e10 : ((xs v3.toNatClampNeg) &&& 31) = 10
    · refine Ev.tableIn (off := 441) (tgt := 474) dL_law_33 (by rw [e10]; decide) (by rw [e10]; decide) (by rw [e10]; decide) rfl ?_
      have h := h.2.2.2.2.2.2.2.2.2.2.1 e10
      refine Ev.aload_n (k := 1) (pc' := 475) dL_law_474 rfl rfl rfl ?_
      refine Ev.aload_n (k := 0) (pc' := 476) dL_law_475 rfl rfl rfl ?_
      refine Ev.iload_n (k := 3) (pc' := 477) dL_law_476 rfl rfl rfl ?_
      refine Ev.iconst (pc' := 478) dL_law_477 rfl ki_1 ?_
      refine Ev.iadd (pc' := 479) dL_law_478 rfl ?_
      refine Ev.ialoadO (k := 1004) (f := xs) (pc' := 480) dL_law_479 rfl (fun U hU => (hO U hU).2.2.2.2.1) h.1 ?_
      have h := h.2
      refine Ev.aload_n (k := 0) (pc' := 481) dL_law_480 rfl rfl rfl ?_
      refine Ev.iload_n (k := 3) (pc' := 482) dL_law_481 rfl rfl rfl ?_
      refine Ev.iconst (pc' := 483) dL_law_482 rfl ki_2 ?_
      refine Ev.iadd (pc' := 484) dL_law_483 rfl ?_
      refine Ev.ialoadO (k := 1004) (f := xs) (pc' := 485) dL_law_484 rfl (fun U hU => (hO U hU).2.2.2.2.1) h.1 ?_
      have h := h.2
      refine Eg.callVI [.int _, .int _] [] (pc' := 488) dL_law_485 rfl cv_RL_58_X11_asks ⟨Nat.le_of_ble_eq_true rfl, Nat.le_of_ble_eq_true rfl⟩ ob_0 rfl rfl rfl (Nat.le_of_ble_eq_true rfl) (okX11_asks h) (fun r63 I61 L62 h => ?_)
      refine Ev.aload_n (k := 2) (pc' := 489) dL_law_488 rfl rfl rfl ?_
      refine Ev.aload_n (k := 0) (pc' := 490) dL_law_489 rfl rfl rfl ?_
      refine Ev.iload_n (k := 3) (pc' := 491) dL_law_490 rfl rfl rfl ?_
      refine Ev.iconst (pc' := 492) dL_law_491 rfl ki_1 ?_
      refine Ev.iadd (pc' := 493) dL_law_492 rfl ?_
      refine Ev.ialoadO (k := 1004) (f := xs) (pc' := 494) dL_law_493 rfl (fun U hU => (hO U hU).2.2.2.2.1) h.1 ?_
      have h := h.2
      refine Ev.aload_n (k := 0) (pc' := 495) dL_law_494 rfl rfl rfl ?_
      refine Ev.iload_n (k := 3) (pc' := 496) dL_law_495 rfl rfl rfl ?_
      refine Ev.iconst (pc' := 497) dL_law_496 rfl ki_2 ?_
      refine Ev.iadd (pc' := 498) dL_law_497 rfl ?_
      refine Ev.ialoadO (k := 1004) (f := xs) (pc' := 499) dL_law_498 rfl (fun U hU => (hO U hU).2.2.2.2.1) h.1 ?_
      have h := h.2
      refine Eg.callVI [.int _, .int _] [.int _] (pc' := 502) dL_law_499 rfl cv_RL_61_X12_asks ⟨Nat.le_of_ble_eq_true rfl, Nat.le_of_ble_eq_true rfl⟩ ob_120 rfl rfl rfl (Nat.le_of_ble_eq_true rfl) (okX12_asks h) (fun r66 I64 L65 h => ?_)
      refine Ev.icmp_eq (pc' := 505) (tgt := 1031) dL_law_502 rfl rfl (fun hc => ?_) (fun hc => ?_)
      · have h := h.1 hc
        refine Ev.iinc (k := 3) (v := _) (ls' := [(3, .int _), (0, .ref _), (1, .ref _), (2, .ref _)]) (pc' := 1034) dL_law_1031 rfl rfl (congrArg (_ + ·) ki_6) (Nat.le_of_ble_eq_true rfl) rfl ?_
        refine Ev.goto (tgt := 18) dL_law_1034 rfl ?_
        exact Ev.sub [1, 2, 3, 0] rfl (hP18 _ _ _ h)
      · have h := h.2 hc
        refine Ev.iconst (pc' := 506) dL_law_505 rfl ki_0 ?_
        exact Eg.zret (b := false) dL_law_506 rfl h
    by_cases e11 : ((xs v3.toNatClampNeg) &&& 31) = 11
    · refine Ev.tableIn (off := 474) (tgt := 507) dL_law_33 (by rw [e11]; decide) (by rw [e11]; decide) (by rw [e11]; decide) rfl ?_
      have h := h.2.2.2.2.2.2.2.2.2.2.2.1 e11
      refine Ev.aload_n (k := 1) (pc' := 508) dL_law_507 rfl rfl rfl ?_
      refine Ev.aload_n (k := 0) (pc' := 509) dL_law_508 rfl rfl rfl ?_
      refine Ev.iload_n (k := 3) (pc' := 510) dL_law_509 rfl rfl rfl ?_
      refine Ev.iconst (pc' := 511) dL_law_510 rfl ki_1 ?_
      refine Ev.iadd (pc' := 512) dL_law_511 rfl ?_
      refine Ev.ialoadO (k := 1004) (f := xs) (pc' := 513) dL_law_512 rfl (fun U hU => (hO U hU).2.2.2.2.1) h.1 ?_
      have h := h.2
      refine Ev.aload_n (k := 0) (pc' := 514) dL_law_513 rfl rfl rfl ?_
      refine Ev.iload_n (k := 3) (pc' := 515) dL_law_514 rfl rfl rfl ?_
      refine Ev.iconst (pc' := 516) dL_law_515 rfl ki_2 ?_
      refine Ev.iadd (pc' := 517) dL_law_516 rfl ?_
      refine Ev.ialoadO (k := 1004) (f := xs) (pc' := 518) dL_law_517 rfl (fun U hU => (hO U hU).2.2.2.2.1) h.1 ?_
      have h := h.2
      refine Ev.aload_n (k := 0) (pc' := 519) dL_law_518 rfl rfl rfl ?_
      refine Ev.iload_n (k := 3) (pc' := 520) dL_law_519 rfl rfl rfl ?_
      refine Ev.iconst (pc' := 521) dL_law_520 rfl ki_3 ?_
      refine Ev.iadd (pc' := 522) dL_law_521 rfl ?_
      refine Ev.ialoadO (k := 1004) (f := xs) (pc' := 523) dL_law_522 rfl (fun U hU => (hO U hU).2.2.2.2.1) h.1 ?_
      have h := h.2
      refine Eg.callVI [.int _, .int _, .int _] [] (pc' := 526) dL_law_523 rfl cv_RL_62_X11_chance ⟨Nat.le_of_ble_eq_true rfl, Nat.le_of_ble_eq_true rfl⟩ ob_0 rfl rfl rfl (Nat.le_of_ble_eq_true rfl) (okX11_chance h) (fun r69 I67 L68 h => ?_)
      refine Ev.aload_n (k := 2) (pc' := 527) dL_law_526 rfl rfl rfl ?_
      refine Ev.aload_n (k := 0) (pc' := 528) dL_law_527 rfl rfl rfl ?_
      refine Ev.iload_n (k := 3) (pc' := 529) dL_law_528 rfl rfl rfl ?_
      refine Ev.iconst (pc' := 530) dL_law_529 rfl ki_1 ?_
      refine Ev.iadd (pc' := 531) dL_law_530 rfl ?_
      refine Ev.ialoadO (k := 1004) (f := xs) (pc' := 532) dL_law_531 rfl (fun U hU => (hO U hU).2.2.2.2.1) h.1 ?_
      have h := h.2
      refine Ev.aload_n (k := 0) (pc' := 533) dL_law_532 rfl rfl rfl ?_
      refine Ev.iload_n (k := 3) (pc' := 534) dL_law_533 rfl rfl rfl ?_
      refine Ev.iconst (pc' := 535) dL_law_534 rfl ki_2 ?_
      refine Ev.iadd (pc' := 536) dL_law_535 rfl ?_
      refine Ev.ialoadO (k := 1004) (f := xs) (pc' := 537) dL_law_536 rfl (fun U hU => (hO U hU).2.2.2.2.1) h.1 ?_
      have h := h.2
      refine Ev.aload_n (k := 0) (pc' := 538) dL_law_537 rfl rfl rfl ?_
      refine Ev.iload_n (k := 3) (pc' := 539) dL_law_538 rfl rfl rfl ?_
      refine Ev.iconst (pc' := 540) dL_law_539 rfl ki_3 ?_
      refine Ev.iadd (pc' := 541) dL_law_540 rfl ?_
      refine Ev.ialoadO (k := 1004) (f := xs) (pc' := 542) dL_law_541 rfl (fun U hU => (hO U hU).2.2.2.2.1) h.1 ?_
      have h := h.2
      refine Eg.callVI [.int _, .int _, .int _] [.int _] (pc' := 545) dL_law_542 rfl cv_RL_66_X12_chance ⟨Nat.le_of_ble_eq_true rfl, Nat.le_of_ble_eq_true rfl⟩ ob_120 rfl rfl rfl (Nat.le_of_ble_eq_true rfl) (okX12_chance h) (fun r72 I70 L71 h => ?_)
      refine Ev.icmp_eq (pc' := 548) (tgt := 1031) dL_law_545 rfl rfl (fun hc => ?_) (fun hc => ?_)
      · have h := h.1 hc
        refine Ev.iinc (k := 3) (v := _) (ls' := [(3, .int _), (0, .ref _), (1, .ref _), (2, .ref _)]) (pc' := 1034) dL_law_1031 rfl rfl (congrArg (_ + ·) ki_6) (Nat.le_of_ble_eq_true rfl) rfl ?_
        refine Ev.goto (tgt := 18) dL_law_1034 rfl ?_
        exact Ev.sub [1, 2, 3, 0] rfl (hP18 _ _ _ h)
      · have h := h.2 hc
        refine Ev.iconst (pc' := 549) dL_law_548 rfl ki_0 ?_
        exact Eg.zret (b := false) dL_law_549 rfl h
    by_cases e12 : ((xs v3.toNatClampNeg) &&& 31) = 12
    · refine Ev.tableIn (off := 517) (tgt := 550) dL_law_33 (by rw [e12]; decide) (by rw [e12]; decide) (by rw [e12]; decide) rfl ?_
      have h := h.2.2.2.2.2.2.2.2.2.2.2.2.1 e12
      refine Ev.aload_n (k := 1) (pc' := 551) dL_law_550 rfl rfl rfl ?_
      refine Ev.aload_n (k := 0) (pc' := 552) dL_law_551 rfl rfl rfl ?_
      refine Ev.iload_n (k := 3) (pc' := 553) dL_law_552 rfl rfl rfl ?_
      refine Ev.iconst (pc' := 554) dL_law_553 rfl ki_1 ?_
      refine Ev.iadd (pc' := 555) dL_law_554 rfl ?_
      refine Ev.ialoadO (k := 1004) (f := xs) (pc' := 556) dL_law_555 rfl (fun U hU => (hO U hU).2.2.2.2.1) h.1 ?_
      have h := h.2
      refine Eg.callVI [.int _] [] (pc' := 559) dL_law_556 rfl cv_RL_67_X11_rest ⟨Nat.le_of_ble_eq_true rfl, Nat.le_of_ble_eq_true rfl⟩ ob_0 rfl rfl rfl (Nat.le_of_ble_eq_true rfl) (okX11_rest h) (fun r75 I73 L74 h => ?_)
      refine Ev.aload_n (k := 2) (pc' := 560) dL_law_559 rfl rfl rfl ?_
      refine Ev.aload_n (k := 0) (pc' := 561) dL_law_560 rfl rfl rfl ?_
      refine Ev.iload_n (k := 3) (pc' := 562) dL_law_561 rfl rfl rfl ?_
      refine Ev.iconst (pc' := 563) dL_law_562 rfl ki_1 ?_
      refine Ev.iadd (pc' := 564) dL_law_563 rfl ?_
      refine Ev.ialoadO (k := 1004) (f := xs) (pc' := 565) dL_law_564 rfl (fun U hU => (hO U hU).2.2.2.2.1) h.1 ?_
      have h := h.2
      refine Eg.callVI [.int _] [.int _] (pc' := 568) dL_law_565 rfl cv_RL_70_X12_rest ⟨Nat.le_of_ble_eq_true rfl, Nat.le_of_ble_eq_true rfl⟩ ob_120 rfl rfl rfl (Nat.le_of_ble_eq_true rfl) (okX12_rest h) (fun r78 I76 L77 h => ?_)
      refine Ev.icmp_eq (pc' := 571) (tgt := 1031) dL_law_568 rfl rfl (fun hc => ?_) (fun hc => ?_)
      · have h := h.1 hc
        refine Ev.iinc (k := 3) (v := _) (ls' := [(3, .int _), (0, .ref _), (1, .ref _), (2, .ref _)]) (pc' := 1034) dL_law_1031 rfl rfl (congrArg (_ + ·) ki_6) (Nat.le_of_ble_eq_true rfl) rfl ?_
        refine Ev.goto (tgt := 18) dL_law_1034 rfl ?_
        exact Ev.sub [1, 2, 3, 0] rfl (hP18 _ _ _ h)
      · have h := h.2 hc
        refine Ev.iconst (pc' := 572) dL_law_571 rfl ki_0 ?_
        exact Eg.zret (b := false) dL_law_572 rfl h
    by_cases e13 : ((xs v3.toNatClampNeg) &&& 31) = 13
    · refine Ev.tableIn (off := 540) (tgt := 573) dL_law_33 (by rw [e13]; decide) (by rw [e13]; decide) (by rw [e13]; decide) rfl ?_
      have h := h.2.2.2.2.2.2.2.2.2.2.2.2.2.1 e13
      refine Ev.aload_n (k := 1) (pc' := 574) dL_law_573 rfl rfl rfl ?_
      refine Ev.aload_n (k := 0) (pc' := 575) dL_law_574 rfl rfl rfl ?_
      refine Ev.iload_n (k := 3) (pc' := 576) dL_law_575 rfl rfl rfl ?_
      refine Ev.iconst (pc' := 577) dL_law_576 rfl ki_1 ?_
      refine Ev.iadd (pc' := 578) dL_law_577 rfl ?_
      refine Ev.ialoadO (k := 1004) (f := xs) (pc' := 579) dL_law_578 rfl (fun U hU => (hO U hU).2.2.2.2.1) h.1 ?_
      have h := h.2
      refine Ev.aload_n (k := 0) (pc' := 580) dL_law_579 rfl rfl rfl ?_
      refine Ev.iload_n (k := 3) (pc' := 581) dL_law_580 rfl rfl rfl ?_
      refine Ev.iconst (pc' := 582) dL_law_581 rfl ki_2 ?_
      refine Ev.iadd (pc' := 583) dL_law_582 rfl ?_
      refine Ev.ialoadO (k := 1004) (f := xs) (pc' := 584) dL_law_583 rfl (fun U hU => (hO U hU).2.2.2.2.1) h.1 ?_
      have h := h.2
      refine Eg.callVI [.int _, .int _] [] (pc' := 587) dL_law_584 rfl cv_RL_71_X11_stands ⟨Nat.le_of_ble_eq_true rfl, Nat.le_of_ble_eq_true rfl⟩ ob_0 rfl rfl rfl (Nat.le_of_ble_eq_true rfl) (okX11_stands h) (fun r81 I79 L80 h => ?_)
      refine Ev.aload_n (k := 2) (pc' := 588) dL_law_587 rfl rfl rfl ?_
      refine Ev.aload_n (k := 0) (pc' := 589) dL_law_588 rfl rfl rfl ?_
      refine Ev.iload_n (k := 3) (pc' := 590) dL_law_589 rfl rfl rfl ?_
      refine Ev.iconst (pc' := 591) dL_law_590 rfl ki_1 ?_
      refine Ev.iadd (pc' := 592) dL_law_591 rfl ?_
      refine Ev.ialoadO (k := 1004) (f := xs) (pc' := 593) dL_law_592 rfl (fun U hU => (hO U hU).2.2.2.2.1) h.1 ?_
      have h := h.2
      refine Ev.aload_n (k := 0) (pc' := 594) dL_law_593 rfl rfl rfl ?_
      refine Ev.iload_n (k := 3) (pc' := 595) dL_law_594 rfl rfl rfl ?_
      refine Ev.iconst (pc' := 596) dL_law_595 rfl ki_2 ?_
      refine Ev.iadd (pc' := 597) dL_law_596 rfl ?_
      refine Ev.ialoadO (k := 1004) (f := xs) (pc' := 598) dL_law_597 rfl (fun U hU => (hO U hU).2.2.2.2.1) h.1 ?_
      have h := h.2
      refine Eg.callVI [.int _, .int _] [.int _] (pc' := 601) dL_law_598 rfl cv_RL_74_X12_stands ⟨Nat.le_of_ble_eq_true rfl, Nat.le_of_ble_eq_true rfl⟩ ob_120 rfl rfl rfl (Nat.le_of_ble_eq_true rfl) (okX12_stands h) (fun r84 I82 L83 h => ?_)
      refine Ev.icmp_eq (pc' := 604) (tgt := 1031) dL_law_601 rfl rfl (fun hc => ?_) (fun hc => ?_)
      · have h := h.1 hc
        refine Ev.iinc (k := 3) (v := _) (ls' := [(3, .int _), (0, .ref _), (1, .ref _), (2, .ref _)]) (pc' := 1034) dL_law_1031 rfl rfl (congrArg (_ + ·) ki_6) (Nat.le_of_ble_eq_true rfl) rfl ?_
        refine Ev.goto (tgt := 18) dL_law_1034 rfl ?_
        exact Ev.sub [1, 2, 3, 0] rfl (hP18 _ _ _ h)
      · have h := h.2 hc
        refine Ev.iconst (pc' := 605) dL_law_604 rfl ki_0 ?_
        exact Eg.zret (b := false) dL_law_605 rfl h
    by_cases e14 : ((xs v3.toNatClampNeg) &&& 31) = 14
    · refine Ev.tableIn (off := 573) (tgt := 606) dL_law_33 (by rw [e14]; decide) (by rw [e14]; decide) (by rw [e14]; decide) rfl ?_
      have h := h.2.2.2.2.2.2.2.2.2.2.2.2.2.2.1 e14
      refine Ev.aload_n (k := 1) (pc' := 607) dL_law_606 rfl rfl rfl ?_
      refine Ev.aload_n (k := 0) (pc' := 608) dL_law_607 rfl rfl rfl ?_
      refine Ev.iload_n (k := 3) (pc' := 609) dL_law_608 rfl rfl rfl ?_
      refine Ev.iconst (pc' := 610) dL_law_609 rfl ki_1 ?_
      refine Ev.iadd (pc' := 611) dL_law_610 rfl ?_
      refine Ev.ialoadO (k := 1004) (f := xs) (pc' := 612) dL_law_611 rfl (fun U hU => (hO U hU).2.2.2.2.1) h.1 ?_
      have h := h.2
      refine Ev.aload_n (k := 0) (pc' := 613) dL_law_612 rfl rfl rfl ?_
      refine Ev.iload_n (k := 3) (pc' := 614) dL_law_613 rfl rfl rfl ?_
      refine Ev.iconst (pc' := 615) dL_law_614 rfl ki_2 ?_
      refine Ev.iadd (pc' := 616) dL_law_615 rfl ?_
      refine Ev.ialoadO (k := 1004) (f := xs) (pc' := 617) dL_law_616 rfl (fun U hU => (hO U hU).2.2.2.2.1) h.1 ?_
      have h := h.2
      refine Eg.callVI [.int _, .int _] [] (pc' := 620) dL_law_617 rfl cv_RL_75_X11_made ⟨Nat.le_of_ble_eq_true rfl, Nat.le_of_ble_eq_true rfl⟩ ob_0 rfl rfl rfl (Nat.le_of_ble_eq_true rfl) (okX11_made h) (fun r87 I85 L86 h => ?_)
      refine Ev.aload_n (k := 2) (pc' := 621) dL_law_620 rfl rfl rfl ?_
      refine Ev.aload_n (k := 0) (pc' := 622) dL_law_621 rfl rfl rfl ?_
      refine Ev.iload_n (k := 3) (pc' := 623) dL_law_622 rfl rfl rfl ?_
      refine Ev.iconst (pc' := 624) dL_law_623 rfl ki_1 ?_
      refine Ev.iadd (pc' := 625) dL_law_624 rfl ?_
      refine Ev.ialoadO (k := 1004) (f := xs) (pc' := 626) dL_law_625 rfl (fun U hU => (hO U hU).2.2.2.2.1) h.1 ?_
      have h := h.2
      refine Ev.aload_n (k := 0) (pc' := 627) dL_law_626 rfl rfl rfl ?_
      refine Ev.iload_n (k := 3) (pc' := 628) dL_law_627 rfl rfl rfl ?_
      refine Ev.iconst (pc' := 629) dL_law_628 rfl ki_2 ?_
      refine Ev.iadd (pc' := 630) dL_law_629 rfl ?_
      refine Ev.ialoadO (k := 1004) (f := xs) (pc' := 631) dL_law_630 rfl (fun U hU => (hO U hU).2.2.2.2.1) h.1 ?_
      have h := h.2
      refine Eg.callVI [.int _, .int _] [.int _] (pc' := 634) dL_law_631 rfl cv_RL_78_X12_made ⟨Nat.le_of_ble_eq_true rfl, Nat.le_of_ble_eq_true rfl⟩ ob_120 rfl rfl rfl (Nat.le_of_ble_eq_true rfl) (okX12_made h) (fun r90 I88 L89 h => ?_)
      refine Ev.icmp_eq (pc' := 637) (tgt := 1031) dL_law_634 rfl rfl (fun hc => ?_) (fun hc => ?_)
      · have h := h.1 hc
        refine Ev.iinc (k := 3) (v := _) (ls' := [(3, .int _), (0, .ref _), (1, .ref _), (2, .ref _)]) (pc' := 1034) dL_law_1031 rfl rfl (congrArg (_ + ·) ki_6) (Nat.le_of_ble_eq_true rfl) rfl ?_
        refine Ev.goto (tgt := 18) dL_law_1034 rfl ?_
        exact Ev.sub [1, 2, 3, 0] rfl (hP18 _ _ _ h)
      · have h := h.2 hc
        refine Ev.iconst (pc' := 638) dL_law_637 rfl ki_0 ?_
        exact Eg.zret (b := false) dL_law_638 rfl h
    by_cases e15 : ((xs v3.toNatClampNeg) &&& 31) = 15
    · refine Ev.tableIn (off := 606) (tgt := 639) dL_law_33 (by rw [e15]; decide) (by rw [e15]; decide) (by rw [e15]; decide) rfl ?_
      have h := h.2.2.2.2.2.2.2.2.2.2.2.2.2.2.2.1 e15
      refine Ev.aload_n (k := 1) (pc' := 640) dL_law_639 rfl rfl rfl ?_
      refine Ev.aload_n (k := 0) (pc' := 641) dL_law_640 rfl rfl rfl ?_
      refine Ev.iload_n (k := 3) (pc' := 642) dL_law_641 rfl rfl rfl ?_
      refine Ev.iconst (pc' := 643) dL_law_642 rfl ki_1 ?_
      refine Ev.iadd (pc' := 644) dL_law_643 rfl ?_
      refine Ev.ialoadO (k := 1004) (f := xs) (pc' := 645) dL_law_644 rfl (fun U hU => (hO U hU).2.2.2.2.1) h.1 ?_
      have h := h.2
      refine Eg.callVI [.int _] [] (pc' := 648) dL_law_645 rfl cv_RL_79_X11_law ⟨Nat.le_of_ble_eq_true rfl, Nat.le_of_ble_eq_true rfl⟩ ob_0 rfl rfl rfl (Nat.le_of_ble_eq_true rfl) (okX11_law h) (fun r93 I91 L92 h => ?_)
      refine Ev.aload_n (k := 2) (pc' := 649) dL_law_648 rfl rfl rfl ?_
      refine Ev.aload_n (k := 0) (pc' := 650) dL_law_649 rfl rfl rfl ?_
      refine Ev.iload_n (k := 3) (pc' := 651) dL_law_650 rfl rfl rfl ?_
      refine Ev.iconst (pc' := 652) dL_law_651 rfl ki_1 ?_
      refine Ev.iadd (pc' := 653) dL_law_652 rfl ?_
      refine Ev.ialoadO (k := 1004) (f := xs) (pc' := 654) dL_law_653 rfl (fun U hU => (hO U hU).2.2.2.2.1) h.1 ?_
      have h := h.2
      refine Eg.callVI [.int _] [.int _] (pc' := 657) dL_law_654 rfl cv_RL_82_X12_law ⟨Nat.le_of_ble_eq_true rfl, Nat.le_of_ble_eq_true rfl⟩ ob_120 rfl rfl rfl (Nat.le_of_ble_eq_true rfl) (okX12_law h) (fun r96 I94 L95 h => ?_)
      refine Ev.icmp_eq (pc' := 660) (tgt := 1031) dL_law_657 rfl rfl (fun hc => ?_) (fun hc => ?_)
      · have h := h.1 hc
        refine Ev.iinc (k := 3) (v := _) (ls' := [(3, .int _), (0, .ref _), (1, .ref _), (2, .ref _)]) (pc' := 1034) dL_law_1031 rfl rfl (congrArg (_ + ·) ki_6) (Nat.le_of_ble_eq_true rfl) rfl ?_
        refine Ev.goto (tgt := 18) dL_law_1034 rfl ?_
        exact Ev.sub [1, 2, 3, 0] rfl (hP18 _ _ _ h)
      · have h := h.2 hc
        refine Ev.iconst (pc' := 661) dL_law_660 rfl ki_0 ?_
        exact Eg.zret (b := false) dL_law_661 rfl h
    by_cases e16 : ((xs v3.toNatClampNeg) &&& 31) = 16
    · refine Ev.tableIn (off := 629) (tgt := 662) dL_law_33 (by rw [e16]; decide) (by rw [e16]; decide) (by rw [e16]; decide) rfl ?_
      have h := h.2.2.2.2.2.2.2.2.2.2.2.2.2.2.2.2.1 e16
      refine Ev.aload_n (k := 1) (pc' := 663) dL_law_662 rfl rfl rfl ?_
      refine Ev.aload_n (k := 0) (pc' := 664) dL_law_663 rfl rfl rfl ?_
      refine Ev.iload_n (k := 3) (pc' := 665) dL_law_664 rfl rfl rfl ?_
      refine Ev.iconst (pc' := 666) dL_law_665 rfl ki_1 ?_
      refine Ev.iadd (pc' := 667) dL_law_666 rfl ?_
      refine Ev.ialoadO (k := 1004) (f := xs) (pc' := 668) dL_law_667 rfl (fun U hU => (hO U hU).2.2.2.2.1) h.1 ?_
      have h := h.2
      refine Ev.aload_n (k := 0) (pc' := 669) dL_law_668 rfl rfl rfl ?_
      refine Ev.iload_n (k := 3) (pc' := 670) dL_law_669 rfl rfl rfl ?_
      refine Ev.iconst (pc' := 671) dL_law_670 rfl ki_2 ?_
      refine Ev.iadd (pc' := 672) dL_law_671 rfl ?_
      refine Ev.ialoadO (k := 1004) (f := xs) (pc' := 673) dL_law_672 rfl (fun U hU => (hO U hU).2.2.2.2.1) h.1 ?_
      have h := h.2
      refine Ev.aload_n (k := 0) (pc' := 674) dL_law_673 rfl rfl rfl ?_
      refine Ev.iload_n (k := 3) (pc' := 675) dL_law_674 rfl rfl rfl ?_
      refine Ev.iconst (pc' := 676) dL_law_675 rfl ki_3 ?_
      refine Ev.iadd (pc' := 677) dL_law_676 rfl ?_
      refine Ev.ialoadO (k := 1004) (f := xs) (pc' := 678) dL_law_677 rfl (fun U hU => (hO U hU).2.2.2.2.1) h.1 ?_
      have h := h.2
      refine Ev.aload_n (k := 0) (pc' := 679) dL_law_678 rfl rfl rfl ?_
      refine Ev.iload_n (k := 3) (pc' := 680) dL_law_679 rfl rfl rfl ?_
      refine Ev.iconst (pc' := 681) dL_law_680 rfl ki_4 ?_
      refine Ev.iadd (pc' := 682) dL_law_681 rfl ?_
      refine Ev.ialoadO (k := 1004) (f := xs) (pc' := 683) dL_law_682 rfl (fun U hU => (hO U hU).2.2.2.2.1) h.1 ?_
      have h := h.2
      refine Eg.callVI [.int _, .int _, .int _, .int _] [] (pc' := 686) dL_law_683 rfl cv_RL_83_X11_used ⟨Nat.le_of_ble_eq_true rfl, Nat.le_of_ble_eq_true rfl⟩ ob_0 rfl rfl rfl (Nat.le_of_ble_eq_true rfl) (okX11_used h) (fun r99 I97 L98 h => ?_)
      refine Ev.aload_n (k := 2) (pc' := 687) dL_law_686 rfl rfl rfl ?_
      refine Ev.aload_n (k := 0) (pc' := 688) dL_law_687 rfl rfl rfl ?_
      refine Ev.iload_n (k := 3) (pc' := 689) dL_law_688 rfl rfl rfl ?_
      refine Ev.iconst (pc' := 690) dL_law_689 rfl ki_1 ?_
      refine Ev.iadd (pc' := 691) dL_law_690 rfl ?_
      refine Ev.ialoadO (k := 1004) (f := xs) (pc' := 692) dL_law_691 rfl (fun U hU => (hO U hU).2.2.2.2.1) h.1 ?_
      have h := h.2
      refine Ev.aload_n (k := 0) (pc' := 693) dL_law_692 rfl rfl rfl ?_
      refine Ev.iload_n (k := 3) (pc' := 694) dL_law_693 rfl rfl rfl ?_
      refine Ev.iconst (pc' := 695) dL_law_694 rfl ki_2 ?_
      refine Ev.iadd (pc' := 696) dL_law_695 rfl ?_
      refine Ev.ialoadO (k := 1004) (f := xs) (pc' := 697) dL_law_696 rfl (fun U hU => (hO U hU).2.2.2.2.1) h.1 ?_
      have h := h.2
      refine Ev.aload_n (k := 0) (pc' := 698) dL_law_697 rfl rfl rfl ?_
      refine Ev.iload_n (k := 3) (pc' := 699) dL_law_698 rfl rfl rfl ?_
      refine Ev.iconst (pc' := 700) dL_law_699 rfl ki_3 ?_
      refine Ev.iadd (pc' := 701) dL_law_700 rfl ?_
      refine Ev.ialoadO (k := 1004) (f := xs) (pc' := 702) dL_law_701 rfl (fun U hU => (hO U hU).2.2.2.2.1) h.1 ?_
      have h := h.2
      refine Ev.aload_n (k := 0) (pc' := 703) dL_law_702 rfl rfl rfl ?_
      refine Ev.iload_n (k := 3) (pc' := 704) dL_law_703 rfl rfl rfl ?_
      refine Ev.iconst (pc' := 705) dL_law_704 rfl ki_4 ?_
      refine Ev.iadd (pc' := 706) dL_law_705 rfl ?_
      refine Ev.ialoadO (k := 1004) (f := xs) (pc' := 707) dL_law_706 rfl (fun U hU => (hO U hU).2.2.2.2.1) h.1 ?_
      have h := h.2
      refine Eg.callVI [.int _, .int _, .int _, .int _] [.int _] (pc' := 710) dL_law_707 rfl cv_RL_87_X12_used ⟨Nat.le_of_ble_eq_true rfl, Nat.le_of_ble_eq_true rfl⟩ ob_120 rfl rfl rfl (Nat.le_of_ble_eq_true rfl) (okX12_used h) (fun r102 I100 L101 h => ?_)
      refine Ev.icmp_eq (pc' := 713) (tgt := 1031) dL_law_710 rfl rfl (fun hc => ?_) (fun hc => ?_)
      · have h := h.1 hc
        refine Ev.iinc (k := 3) (v := _) (ls' := [(3, .int _), (0, .ref _), (1, .ref _), (2, .ref _)]) (pc' := 1034) dL_law_1031 rfl rfl (congrArg (_ + ·) ki_6) (Nat.le_of_ble_eq_true rfl) rfl ?_
        refine Ev.goto (tgt := 18) dL_law_1034 rfl ?_
        exact Ev.sub [1, 2, 3, 0] rfl (hP18 _ _ _ h)
      · have h := h.2 hc
        refine Ev.iconst (pc' := 714) dL_law_713 rfl ki_0 ?_
        exact Eg.zret (b := false) dL_law_714 rfl h
    by_cases e17 : ((xs v3.toNatClampNeg) &&& 31) = 17
    · refine Ev.tableIn (off := 682) (tgt := 715) dL_law_33 (by rw [e17]; decide) (by rw [e17]; decide) (by rw [e17]; decide) rfl ?_
      have h := h.2.2.2.2.2.2.2.2.2.2.2.2.2.2.2.2.2.1 e17
      refine Ev.aload_n (k := 1) (pc' := 716) dL_law_715 rfl rfl rfl ?_
      refine Ev.aload_n (k := 0) (pc' := 717) dL_law_716 rfl rfl rfl ?_
      refine Ev.iload_n (k := 3) (pc' := 718) dL_law_717 rfl rfl rfl ?_
      refine Ev.iconst (pc' := 719) dL_law_718 rfl ki_1 ?_
      refine Ev.iadd (pc' := 720) dL_law_719 rfl ?_
      refine Ev.ialoadO (k := 1004) (f := xs) (pc' := 721) dL_law_720 rfl (fun U hU => (hO U hU).2.2.2.2.1) h.1 ?_
      have h := h.2
      refine Eg.callVI [.int _] [] (pc' := 724) dL_law_721 rfl cv_RL_88_X11_keeps ⟨Nat.le_of_ble_eq_true rfl, Nat.le_of_ble_eq_true rfl⟩ ob_0 rfl rfl rfl (Nat.le_of_ble_eq_true rfl) (okX11_keeps h) (fun r105 I103 L104 h => ?_)
      refine Ev.aload_n (k := 2) (pc' := 725) dL_law_724 rfl rfl rfl ?_
      refine Ev.aload_n (k := 0) (pc' := 726) dL_law_725 rfl rfl rfl ?_
      refine Ev.iload_n (k := 3) (pc' := 727) dL_law_726 rfl rfl rfl ?_
      refine Ev.iconst (pc' := 728) dL_law_727 rfl ki_1 ?_
      refine Ev.iadd (pc' := 729) dL_law_728 rfl ?_
      refine Ev.ialoadO (k := 1004) (f := xs) (pc' := 730) dL_law_729 rfl (fun U hU => (hO U hU).2.2.2.2.1) h.1 ?_
      have h := h.2
      refine Eg.callVI [.int _] [.int _] (pc' := 733) dL_law_730 rfl cv_RL_91_X12_keeps ⟨Nat.le_of_ble_eq_true rfl, Nat.le_of_ble_eq_true rfl⟩ ob_120 rfl rfl rfl (Nat.le_of_ble_eq_true rfl) (okX12_keeps h) (fun r108 I106 L107 h => ?_)
      refine Ev.icmp_eq (pc' := 736) (tgt := 1031) dL_law_733 rfl rfl (fun hc => ?_) (fun hc => ?_)
      · have h := h.1 hc
        refine Ev.iinc (k := 3) (v := _) (ls' := [(3, .int _), (0, .ref _), (1, .ref _), (2, .ref _)]) (pc' := 1034) dL_law_1031 rfl rfl (congrArg (_ + ·) ki_6) (Nat.le_of_ble_eq_true rfl) rfl ?_
        refine Ev.goto (tgt := 18) dL_law_1034 rfl ?_
        exact Ev.sub [1, 2, 3, 0] rfl (hP18 _ _ _ h)
      · have h := h.2 hc
        refine Ev.iconst (pc' := 737) dL_law_736 rfl ki_0 ?_
        exact Eg.zret (b := false) dL_law_737 rfl h
    by_cases e18 : ((xs v3.toNatClampNeg) &&& 31) = 18
    · refine Ev.tableIn (off := 705) (tgt := 738) dL_law_33 (by rw [e18]; decide) (by rw [e18]; decide) (by rw [e18]; decide) rfl ?_
      have h := h.2.2.2.2.2.2.2.2.2.2.2.2.2.2.2.2.2.2.1 e18
      refine Ev.aload_n (k := 1) (pc' := 739) dL_law_738 rfl rfl rfl ?_
      refine Ev.aload_n (k := 0) (pc' := 740) dL_law_739 rfl rfl rfl ?_
      refine Ev.iload_n (k := 3) (pc' := 741) dL_law_740 rfl rfl rfl ?_
      refine Ev.iconst (pc' := 742) dL_law_741 rfl ki_1 ?_
      refine Ev.iadd (pc' := 743) dL_law_742 rfl ?_
      refine Ev.ialoadO (k := 1004) (f := xs) (pc' := 744) dL_law_743 rfl (fun U hU => (hO U hU).2.2.2.2.1) h.1 ?_
      have h := h.2
      refine Ev.aload_n (k := 0) (pc' := 745) dL_law_744 rfl rfl rfl ?_
      refine Ev.iload_n (k := 3) (pc' := 746) dL_law_745 rfl rfl rfl ?_
      refine Ev.iconst (pc' := 747) dL_law_746 rfl ki_2 ?_
      refine Ev.iadd (pc' := 748) dL_law_747 rfl ?_
      refine Ev.ialoadO (k := 1004) (f := xs) (pc' := 749) dL_law_748 rfl (fun U hU => (hO U hU).2.2.2.2.1) h.1 ?_
      have h := h.2
      refine Eg.callVI [.int _, .int _] [] (pc' := 752) dL_law_749 rfl cv_RL_92_X11_lift ⟨Nat.le_of_ble_eq_true rfl, Nat.le_of_ble_eq_true rfl⟩ ob_0 rfl rfl rfl (Nat.le_of_ble_eq_true rfl) (okX11_lift h) (fun r111 I109 L110 h => ?_)
      refine Ev.aload_n (k := 2) (pc' := 753) dL_law_752 rfl rfl rfl ?_
      refine Ev.aload_n (k := 0) (pc' := 754) dL_law_753 rfl rfl rfl ?_
      refine Ev.iload_n (k := 3) (pc' := 755) dL_law_754 rfl rfl rfl ?_
      refine Ev.iconst (pc' := 756) dL_law_755 rfl ki_1 ?_
      refine Ev.iadd (pc' := 757) dL_law_756 rfl ?_
      refine Ev.ialoadO (k := 1004) (f := xs) (pc' := 758) dL_law_757 rfl (fun U hU => (hO U hU).2.2.2.2.1) h.1 ?_
      have h := h.2
      refine Ev.aload_n (k := 0) (pc' := 759) dL_law_758 rfl rfl rfl ?_
      refine Ev.iload_n (k := 3) (pc' := 760) dL_law_759 rfl rfl rfl ?_
      refine Ev.iconst (pc' := 761) dL_law_760 rfl ki_2 ?_
      refine Ev.iadd (pc' := 762) dL_law_761 rfl ?_
      refine Ev.ialoadO (k := 1004) (f := xs) (pc' := 763) dL_law_762 rfl (fun U hU => (hO U hU).2.2.2.2.1) h.1 ?_
      have h := h.2
      refine Eg.callVI [.int _, .int _] [.int _] (pc' := 766) dL_law_763 rfl cv_RL_95_X12_lift ⟨Nat.le_of_ble_eq_true rfl, Nat.le_of_ble_eq_true rfl⟩ ob_120 rfl rfl rfl (Nat.le_of_ble_eq_true rfl) (okX12_lift h) (fun r114 I112 L113 h => ?_)
      refine Ev.icmp_eq (pc' := 769) (tgt := 1031) dL_law_766 rfl rfl (fun hc => ?_) (fun hc => ?_)
      · have h := h.1 hc
        refine Ev.iinc (k := 3) (v := _) (ls' := [(3, .int _), (0, .ref _), (1, .ref _), (2, .ref _)]) (pc' := 1034) dL_law_1031 rfl rfl (congrArg (_ + ·) ki_6) (Nat.le_of_ble_eq_true rfl) rfl ?_
        refine Ev.goto (tgt := 18) dL_law_1034 rfl ?_
        exact Ev.sub [1, 2, 3, 0] rfl (hP18 _ _ _ h)
      · have h := h.2 hc
        refine Ev.iconst (pc' := 770) dL_law_769 rfl ki_0 ?_
        exact Eg.zret (b := false) dL_law_770 rfl h
    by_cases e19 : ((xs v3.toNatClampNeg) &&& 31) = 19
    · refine Ev.tableIn (off := 738) (tgt := 771) dL_law_33 (by rw [e19]; decide) (by rw [e19]; decide) (by rw [e19]; decide) rfl ?_
      have h := h.2.2.2.2.2.2.2.2.2.2.2.2.2.2.2.2.2.2.2.1 e19
      refine Ev.aload_n (k := 1) (pc' := 772) dL_law_771 rfl rfl rfl ?_
      refine Ev.aload_n (k := 0) (pc' := 773) dL_law_772 rfl rfl rfl ?_
      refine Ev.iload_n (k := 3) (pc' := 774) dL_law_773 rfl rfl rfl ?_
      refine Ev.iconst (pc' := 775) dL_law_774 rfl ki_1 ?_
      refine Ev.iadd (pc' := 776) dL_law_775 rfl ?_
      refine Ev.ialoadO (k := 1004) (f := xs) (pc' := 777) dL_law_776 rfl (fun U hU => (hO U hU).2.2.2.2.1) h.1 ?_
      have h := h.2
      refine Eg.callVI [.int _] [] (pc' := 780) dL_law_777 rfl cv_RL_96_X11_tour ⟨Nat.le_of_ble_eq_true rfl, Nat.le_of_ble_eq_true rfl⟩ ob_0 rfl rfl rfl (Nat.le_of_ble_eq_true rfl) (okX11_tour h) (fun r117 I115 L116 h => ?_)
      refine Ev.aload_n (k := 2) (pc' := 781) dL_law_780 rfl rfl rfl ?_
      refine Ev.aload_n (k := 0) (pc' := 782) dL_law_781 rfl rfl rfl ?_
      refine Ev.iload_n (k := 3) (pc' := 783) dL_law_782 rfl rfl rfl ?_
      refine Ev.iconst (pc' := 784) dL_law_783 rfl ki_1 ?_
      refine Ev.iadd (pc' := 785) dL_law_784 rfl ?_
      refine Ev.ialoadO (k := 1004) (f := xs) (pc' := 786) dL_law_785 rfl (fun U hU => (hO U hU).2.2.2.2.1) h.1 ?_
      have h := h.2
      refine Eg.callVI [.int _] [.int _] (pc' := 789) dL_law_786 rfl cv_RL_99_X12_tour ⟨Nat.le_of_ble_eq_true rfl, Nat.le_of_ble_eq_true rfl⟩ ob_120 rfl rfl rfl (Nat.le_of_ble_eq_true rfl) (okX12_tour h) (fun r120 I118 L119 h => ?_)
      refine Ev.icmp_eq (pc' := 792) (tgt := 1031) dL_law_789 rfl rfl (fun hc => ?_) (fun hc => ?_)
      · have h := h.1 hc
        refine Ev.iinc (k := 3) (v := _) (ls' := [(3, .int _), (0, .ref _), (1, .ref _), (2, .ref _)]) (pc' := 1034) dL_law_1031 rfl rfl (congrArg (_ + ·) ki_6) (Nat.le_of_ble_eq_true rfl) rfl ?_
        refine Ev.goto (tgt := 18) dL_law_1034 rfl ?_
        exact Ev.sub [1, 2, 3, 0] rfl (hP18 _ _ _ h)
      · have h := h.2 hc
        refine Ev.iconst (pc' := 793) dL_law_792 rfl ki_0 ?_
        exact Eg.zret (b := false) dL_law_793 rfl h
    by_cases e20 : ((xs v3.toNatClampNeg) &&& 31) = 20
    · refine Ev.tableIn (off := 761) (tgt := 794) dL_law_33 (by rw [e20]; decide) (by rw [e20]; decide) (by rw [e20]; decide) rfl ?_
      have h := h.2.2.2.2.2.2.2.2.2.2.2.2.2.2.2.2.2.2.2.2.1 e20
      refine Ev.aload_n (k := 1) (pc' := 795) dL_law_794 rfl rfl rfl ?_
      refine Ev.aload_n (k := 0) (pc' := 796) dL_law_795 rfl rfl rfl ?_
      refine Ev.iload_n (k := 3) (pc' := 797) dL_law_796 rfl rfl rfl ?_
      refine Ev.iconst (pc' := 798) dL_law_797 rfl ki_1 ?_
      refine Ev.iadd (pc' := 799) dL_law_798 rfl ?_
      refine Ev.ialoadO (k := 1004) (f := xs) (pc' := 800) dL_law_799 rfl (fun U hU => (hO U hU).2.2.2.2.1) h.1 ?_
      have h := h.2
      refine Eg.callVI [.int _] [] (pc' := 803) dL_law_800 rfl cv_RL_100_X11_since ⟨Nat.le_of_ble_eq_true rfl, Nat.le_of_ble_eq_true rfl⟩ ob_0 rfl rfl rfl (Nat.le_of_ble_eq_true rfl) (okX11_since h) (fun r123 I121 L122 h => ?_)
      refine Ev.aload_n (k := 2) (pc' := 804) dL_law_803 rfl rfl rfl ?_
      refine Ev.aload_n (k := 0) (pc' := 805) dL_law_804 rfl rfl rfl ?_
      refine Ev.iload_n (k := 3) (pc' := 806) dL_law_805 rfl rfl rfl ?_
      refine Ev.iconst (pc' := 807) dL_law_806 rfl ki_1 ?_
      refine Ev.iadd (pc' := 808) dL_law_807 rfl ?_
      refine Ev.ialoadO (k := 1004) (f := xs) (pc' := 809) dL_law_808 rfl (fun U hU => (hO U hU).2.2.2.2.1) h.1 ?_
      have h := h.2
      refine Eg.callVI [.int _] [.int _] (pc' := 812) dL_law_809 rfl cv_RL_103_X12_since ⟨Nat.le_of_ble_eq_true rfl, Nat.le_of_ble_eq_true rfl⟩ ob_120 rfl rfl rfl (Nat.le_of_ble_eq_true rfl) (okX12_since h) (fun r126 I124 L125 h => ?_)
      refine Ev.icmp_eq (pc' := 815) (tgt := 1031) dL_law_812 rfl rfl (fun hc => ?_) (fun hc => ?_)
      · have h := h.1 hc
        refine Ev.iinc (k := 3) (v := _) (ls' := [(3, .int _), (0, .ref _), (1, .ref _), (2, .ref _)]) (pc' := 1034) dL_law_1031 rfl rfl (congrArg (_ + ·) ki_6) (Nat.le_of_ble_eq_true rfl) rfl ?_
        refine Ev.goto (tgt := 18) dL_law_1034 rfl ?_
        exact Ev.sub [1, 2, 3, 0] rfl (hP18 _ _ _ h)
      · have h := h.2 hc
        refine Ev.iconst (pc' := 816) dL_law_815 rfl ki_0 ?_
        exact Eg.zret (b := false) dL_law_816 rfl h
    by_cases e21 : ((xs v3.toNatClampNeg) &&& 31) = 21
    · refine Ev.tableIn (off := 784) (tgt := 817) dL_law_33 (by rw [e21]; decide) (by rw [e21]; decide) (by rw [e21]; decide) rfl ?_
      have h := h.2.2.2.2.2.2.2.2.2.2.2.2.2.2.2.2.2.2.2.2.2.1 e21
      refine Ev.aload_n (k := 1) (pc' := 818) dL_law_817 rfl rfl rfl ?_
      refine Ev.aload_n (k := 0) (pc' := 819) dL_law_818 rfl rfl rfl ?_
      refine Ev.iload_n (k := 3) (pc' := 820) dL_law_819 rfl rfl rfl ?_
      refine Ev.iconst (pc' := 821) dL_law_820 rfl ki_1 ?_
      refine Ev.iadd (pc' := 822) dL_law_821 rfl ?_
      refine Ev.ialoadO (k := 1004) (f := xs) (pc' := 823) dL_law_822 rfl (fun U hU => (hO U hU).2.2.2.2.1) h.1 ?_
      have h := h.2
      refine Ev.aload_n (k := 0) (pc' := 824) dL_law_823 rfl rfl rfl ?_
      refine Ev.iload_n (k := 3) (pc' := 825) dL_law_824 rfl rfl rfl ?_
      refine Ev.iconst (pc' := 826) dL_law_825 rfl ki_2 ?_
      refine Ev.iadd (pc' := 827) dL_law_826 rfl ?_
      refine Ev.ialoadO (k := 1004) (f := xs) (pc' := 828) dL_law_827 rfl (fun U hU => (hO U hU).2.2.2.2.1) h.1 ?_
      have h := h.2
      refine Ev.aload_n (k := 0) (pc' := 829) dL_law_828 rfl rfl rfl ?_
      refine Ev.iload_n (k := 3) (pc' := 830) dL_law_829 rfl rfl rfl ?_
      refine Ev.iconst (pc' := 831) dL_law_830 rfl ki_3 ?_
      refine Ev.iadd (pc' := 832) dL_law_831 rfl ?_
      refine Ev.ialoadO (k := 1004) (f := xs) (pc' := 833) dL_law_832 rfl (fun U hU => (hO U hU).2.2.2.2.1) h.1 ?_
      have h := h.2
      refine Eg.callVI [.int _, .int _, .int _] [] (pc' := 836) dL_law_833 rfl cv_RL_104_X11_tale ⟨Nat.le_of_ble_eq_true rfl, Nat.le_of_ble_eq_true rfl⟩ ob_0 rfl rfl rfl (Nat.le_of_ble_eq_true rfl) (okX11_tale h) (fun r129 I127 L128 h => ?_)
      refine Ev.aload_n (k := 2) (pc' := 837) dL_law_836 rfl rfl rfl ?_
      refine Ev.aload_n (k := 0) (pc' := 838) dL_law_837 rfl rfl rfl ?_
      refine Ev.iload_n (k := 3) (pc' := 839) dL_law_838 rfl rfl rfl ?_
      refine Ev.iconst (pc' := 840) dL_law_839 rfl ki_1 ?_
      refine Ev.iadd (pc' := 841) dL_law_840 rfl ?_
      refine Ev.ialoadO (k := 1004) (f := xs) (pc' := 842) dL_law_841 rfl (fun U hU => (hO U hU).2.2.2.2.1) h.1 ?_
      have h := h.2
      refine Ev.aload_n (k := 0) (pc' := 843) dL_law_842 rfl rfl rfl ?_
      refine Ev.iload_n (k := 3) (pc' := 844) dL_law_843 rfl rfl rfl ?_
      refine Ev.iconst (pc' := 845) dL_law_844 rfl ki_2 ?_
      refine Ev.iadd (pc' := 846) dL_law_845 rfl ?_
      refine Ev.ialoadO (k := 1004) (f := xs) (pc' := 847) dL_law_846 rfl (fun U hU => (hO U hU).2.2.2.2.1) h.1 ?_
      have h := h.2
      refine Ev.aload_n (k := 0) (pc' := 848) dL_law_847 rfl rfl rfl ?_
      refine Ev.iload_n (k := 3) (pc' := 849) dL_law_848 rfl rfl rfl ?_
      refine Ev.iconst (pc' := 850) dL_law_849 rfl ki_3 ?_
      refine Ev.iadd (pc' := 851) dL_law_850 rfl ?_
      refine Ev.ialoadO (k := 1004) (f := xs) (pc' := 852) dL_law_851 rfl (fun U hU => (hO U hU).2.2.2.2.1) h.1 ?_
      have h := h.2
      refine Eg.callVI [.int _, .int _, .int _] [.int _] (pc' := 855) dL_law_852 rfl cv_RL_107_X12_tale ⟨Nat.le_of_ble_eq_true rfl, Nat.le_of_ble_eq_true rfl⟩ ob_120 rfl rfl rfl (Nat.le_of_ble_eq_true rfl) (okX12_tale h) (fun r132 I130 L131 h => ?_)
      refine Ev.icmp_eq (pc' := 858) (tgt := 1031) dL_law_855 rfl rfl (fun hc => ?_) (fun hc => ?_)
      · have h := h.1 hc
        refine Ev.iinc (k := 3) (v := _) (ls' := [(3, .int _), (0, .ref _), (1, .ref _), (2, .ref _)]) (pc' := 1034) dL_law_1031 rfl rfl (congrArg (_ + ·) ki_6) (Nat.le_of_ble_eq_true rfl) rfl ?_
        refine Ev.goto (tgt := 18) dL_law_1034 rfl ?_
        exact Ev.sub [1, 2, 3, 0] rfl (hP18 _ _ _ h)
      · have h := h.2 hc
        refine Ev.iconst (pc' := 859) dL_law_858 rfl ki_0 ?_
        exact Eg.zret (b := false) dL_law_859 rfl h
    by_cases e22 : ((xs v3.toNatClampNeg) &&& 31) = 22
    · refine Ev.tableIn (off := 827) (tgt := 860) dL_law_33 (by rw [e22]; decide) (by rw [e22]; decide) (by rw [e22]; decide) rfl ?_
      have h := h.2.2.2.2.2.2.2.2.2.2.2.2.2.2.2.2.2.2.2.2.2.2.1 e22
      refine Ev.aload_n (k := 1) (pc' := 861) dL_law_860 rfl rfl rfl ?_
      refine Ev.aload_n (k := 0) (pc' := 862) dL_law_861 rfl rfl rfl ?_
      refine Ev.iload_n (k := 3) (pc' := 863) dL_law_862 rfl rfl rfl ?_
      refine Ev.iconst (pc' := 864) dL_law_863 rfl ki_1 ?_
      refine Ev.iadd (pc' := 865) dL_law_864 rfl ?_
      refine Ev.ialoadO (k := 1004) (f := xs) (pc' := 866) dL_law_865 rfl (fun U hU => (hO U hU).2.2.2.2.1) h.1 ?_
      have h := h.2
      refine Eg.callVZ [.int _] [] (pc' := 869) dL_law_866 rfl cv_RL_108_X11_untell ⟨Nat.le_of_ble_eq_true rfl, Nat.le_of_ble_eq_true rfl⟩ ob_0 rfl rfl rfl (Nat.le_of_ble_eq_true rfl) (okX11_untell h) (fun r135 I133 L134 h => ?_)
      refine Ev.aload_n (k := 2) (pc' := 870) dL_law_869 rfl rfl rfl ?_
      refine Ev.aload_n (k := 0) (pc' := 871) dL_law_870 rfl rfl rfl ?_
      refine Ev.iload_n (k := 3) (pc' := 872) dL_law_871 rfl rfl rfl ?_
      refine Ev.iconst (pc' := 873) dL_law_872 rfl ki_1 ?_
      refine Ev.iadd (pc' := 874) dL_law_873 rfl ?_
      refine Ev.ialoadO (k := 1004) (f := xs) (pc' := 875) dL_law_874 rfl (fun U hU => (hO U hU).2.2.2.2.1) h.1 ?_
      have h := h.2
      refine Eg.callVZ [.int _] [.int _] (pc' := 878) dL_law_875 rfl cv_RL_112_X12_untell ⟨Nat.le_of_ble_eq_true rfl, Nat.le_of_ble_eq_true rfl⟩ ob_120 rfl rfl rfl (Nat.le_of_ble_eq_true rfl) (okX12_untell h) (fun r138 I136 L137 h => ?_)
      refine Ev.icmp_eq (pc' := 881) (tgt := 1031) dL_law_878 rfl rfl (fun hc => ?_) (fun hc => ?_)
      · have h := h.1 hc
        refine Ev.iinc (k := 3) (v := _) (ls' := [(3, .int _), (0, .ref _), (1, .ref _), (2, .ref _)]) (pc' := 1034) dL_law_1031 rfl rfl (congrArg (_ + ·) ki_6) (Nat.le_of_ble_eq_true rfl) rfl ?_
        refine Ev.goto (tgt := 18) dL_law_1034 rfl ?_
        exact Ev.sub [1, 2, 3, 0] rfl (hP18 _ _ _ h)
      · have h := h.2 hc
        refine Ev.iconst (pc' := 882) dL_law_881 rfl ki_0 ?_
        exact Eg.zret (b := false) dL_law_882 rfl h
    by_cases e23 : ((xs v3.toNatClampNeg) &&& 31) = 23
    · refine Ev.tableIn (off := 850) (tgt := 883) dL_law_33 (by rw [e23]; decide) (by rw [e23]; decide) (by rw [e23]; decide) rfl ?_
      have h := h.2.2.2.2.2.2.2.2.2.2.2.2.2.2.2.2.2.2.2.2.2.2.2.1 e23
      refine Ev.aload_n (k := 1) (pc' := 884) dL_law_883 rfl rfl rfl ?_
      refine Ev.aload_n (k := 0) (pc' := 885) dL_law_884 rfl rfl rfl ?_
      refine Ev.iload_n (k := 3) (pc' := 886) dL_law_885 rfl rfl rfl ?_
      refine Ev.iconst (pc' := 887) dL_law_886 rfl ki_1 ?_
      refine Ev.iadd (pc' := 888) dL_law_887 rfl ?_
      refine Ev.ialoadO (k := 1004) (f := xs) (pc' := 889) dL_law_888 rfl (fun U hU => (hO U hU).2.2.2.2.1) h.1 ?_
      have h := h.2
      refine Eg.callVI [.int _] [] (pc' := 892) dL_law_889 rfl cv_RL_113_X11_later ⟨Nat.le_of_ble_eq_true rfl, Nat.le_of_ble_eq_true rfl⟩ ob_0 rfl rfl rfl (Nat.le_of_ble_eq_true rfl) (okX11_later h) (fun r141 I139 L140 h => ?_)
      refine Ev.aload_n (k := 2) (pc' := 893) dL_law_892 rfl rfl rfl ?_
      refine Ev.aload_n (k := 0) (pc' := 894) dL_law_893 rfl rfl rfl ?_
      refine Ev.iload_n (k := 3) (pc' := 895) dL_law_894 rfl rfl rfl ?_
      refine Ev.iconst (pc' := 896) dL_law_895 rfl ki_1 ?_
      refine Ev.iadd (pc' := 897) dL_law_896 rfl ?_
      refine Ev.ialoadO (k := 1004) (f := xs) (pc' := 898) dL_law_897 rfl (fun U hU => (hO U hU).2.2.2.2.1) h.1 ?_
      have h := h.2
      refine Eg.callVI [.int _] [.int _] (pc' := 901) dL_law_898 rfl cv_RL_116_X12_later ⟨Nat.le_of_ble_eq_true rfl, Nat.le_of_ble_eq_true rfl⟩ ob_120 rfl rfl rfl (Nat.le_of_ble_eq_true rfl) (okX12_later h) (fun r144 I142 L143 h => ?_)
      refine Ev.icmp_eq (pc' := 904) (tgt := 1031) dL_law_901 rfl rfl (fun hc => ?_) (fun hc => ?_)
      · have h := h.1 hc
        refine Ev.iinc (k := 3) (v := _) (ls' := [(3, .int _), (0, .ref _), (1, .ref _), (2, .ref _)]) (pc' := 1034) dL_law_1031 rfl rfl (congrArg (_ + ·) ki_6) (Nat.le_of_ble_eq_true rfl) rfl ?_
        refine Ev.goto (tgt := 18) dL_law_1034 rfl ?_
        exact Ev.sub [1, 2, 3, 0] rfl (hP18 _ _ _ h)
      · have h := h.2 hc
        refine Ev.iconst (pc' := 905) dL_law_904 rfl ki_0 ?_
        exact Eg.zret (b := false) dL_law_905 rfl h
    by_cases e24 : ((xs v3.toNatClampNeg) &&& 31) = 24
    · refine Ev.tableIn (off := 873) (tgt := 906) dL_law_33 (by rw [e24]; decide) (by rw [e24]; decide) (by rw [e24]; decide) rfl ?_
      have h := h.2.2.2.2.2.2.2.2.2.2.2.2.2.2.2.2.2.2.2.2.2.2.2.2.1 e24
      refine Ev.aload_n (k := 1) (pc' := 907) dL_law_906 rfl rfl rfl ?_
      refine Ev.aload_n (k := 0) (pc' := 908) dL_law_907 rfl rfl rfl ?_
      refine Ev.iload_n (k := 3) (pc' := 909) dL_law_908 rfl rfl rfl ?_
      refine Ev.iconst (pc' := 910) dL_law_909 rfl ki_1 ?_
      refine Ev.iadd (pc' := 911) dL_law_910 rfl ?_
      refine Ev.ialoadO (k := 1004) (f := xs) (pc' := 912) dL_law_911 rfl (fun U hU => (hO U hU).2.2.2.2.1) h.1 ?_
      have h := h.2
      refine Ev.aload_n (k := 0) (pc' := 913) dL_law_912 rfl rfl rfl ?_
      refine Ev.iload_n (k := 3) (pc' := 914) dL_law_913 rfl rfl rfl ?_
      refine Ev.iconst (pc' := 915) dL_law_914 rfl ki_2 ?_
      refine Ev.iadd (pc' := 916) dL_law_915 rfl ?_
      refine Ev.ialoadO (k := 1004) (f := xs) (pc' := 917) dL_law_916 rfl (fun U hU => (hO U hU).2.2.2.2.1) h.1 ?_
      have h := h.2
      refine Eg.callVI [.int _, .int _] [] (pc' := 920) dL_law_917 rfl cv_RL_117_X11_judge ⟨Nat.le_of_ble_eq_true rfl, Nat.le_of_ble_eq_true rfl⟩ ob_0 rfl rfl rfl (Nat.le_of_ble_eq_true rfl) (okX11_judge h) (fun r147 I145 L146 h => ?_)
      refine Ev.aload_n (k := 2) (pc' := 921) dL_law_920 rfl rfl rfl ?_
      refine Ev.aload_n (k := 0) (pc' := 922) dL_law_921 rfl rfl rfl ?_
      refine Ev.iload_n (k := 3) (pc' := 923) dL_law_922 rfl rfl rfl ?_
      refine Ev.iconst (pc' := 924) dL_law_923 rfl ki_1 ?_
      refine Ev.iadd (pc' := 925) dL_law_924 rfl ?_
      refine Ev.ialoadO (k := 1004) (f := xs) (pc' := 926) dL_law_925 rfl (fun U hU => (hO U hU).2.2.2.2.1) h.1 ?_
      have h := h.2
      refine Ev.aload_n (k := 0) (pc' := 927) dL_law_926 rfl rfl rfl ?_
      refine Ev.iload_n (k := 3) (pc' := 928) dL_law_927 rfl rfl rfl ?_
      refine Ev.iconst (pc' := 929) dL_law_928 rfl ki_2 ?_
      refine Ev.iadd (pc' := 930) dL_law_929 rfl ?_
      refine Ev.ialoadO (k := 1004) (f := xs) (pc' := 931) dL_law_930 rfl (fun U hU => (hO U hU).2.2.2.2.1) h.1 ?_
      have h := h.2
      refine Eg.callVI [.int _, .int _] [.int _] (pc' := 934) dL_law_931 rfl cv_RL_120_X12_judge ⟨Nat.le_of_ble_eq_true rfl, Nat.le_of_ble_eq_true rfl⟩ ob_120 rfl rfl rfl (Nat.le_of_ble_eq_true rfl) (okX12_judge h) (fun r150 I148 L149 h => ?_)
      refine Ev.icmp_eq (pc' := 937) (tgt := 1031) dL_law_934 rfl rfl (fun hc => ?_) (fun hc => ?_)
      · have h := h.1 hc
        refine Ev.iinc (k := 3) (v := _) (ls' := [(3, .int _), (0, .ref _), (1, .ref _), (2, .ref _)]) (pc' := 1034) dL_law_1031 rfl rfl (congrArg (_ + ·) ki_6) (Nat.le_of_ble_eq_true rfl) rfl ?_
        refine Ev.goto (tgt := 18) dL_law_1034 rfl ?_
        exact Ev.sub [1, 2, 3, 0] rfl (hP18 _ _ _ h)
      · have h := h.2 hc
        refine Ev.iconst (pc' := 938) dL_law_937 rfl ki_0 ?_
        exact Eg.zret (b := false) dL_law_938 rfl h
    by_cases e25 : ((xs v3.toNatClampNeg) &&& 31) = 25
    · refine Ev.tableIn (off := 906) (tgt := 939) dL_law_33 (by rw [e25]; decide) (by rw [e25]; decide) (by rw [e25]; decide) rfl ?_
      have h := h.2.2.2.2.2.2.2.2.2.2.2.2.2.2.2.2.2.2.2.2.2.2.2.2.2.1 e25
      refine Ev.aload_n (k := 1) (pc' := 940) dL_law_939 rfl rfl rfl ?_
      refine Ev.aload_n (k := 0) (pc' := 941) dL_law_940 rfl rfl rfl ?_
      refine Ev.iload_n (k := 3) (pc' := 942) dL_law_941 rfl rfl rfl ?_
      refine Ev.iconst (pc' := 943) dL_law_942 rfl ki_1 ?_
      refine Ev.iadd (pc' := 944) dL_law_943 rfl ?_
      refine Ev.ialoadO (k := 1004) (f := xs) (pc' := 945) dL_law_944 rfl (fun U hU => (hO U hU).2.2.2.2.1) h.1 ?_
      have h := h.2
      refine Eg.callVI [.int _] [] (pc' := 948) dL_law_945 rfl cv_RL_121_X11_seed ⟨Nat.le_of_ble_eq_true rfl, Nat.le_of_ble_eq_true rfl⟩ ob_0 rfl rfl rfl (Nat.le_of_ble_eq_true rfl) (okX11_seed h) (fun r153 I151 L152 h => ?_)
      refine Ev.aload_n (k := 2) (pc' := 949) dL_law_948 rfl rfl rfl ?_
      refine Ev.aload_n (k := 0) (pc' := 950) dL_law_949 rfl rfl rfl ?_
      refine Ev.iload_n (k := 3) (pc' := 951) dL_law_950 rfl rfl rfl ?_
      refine Ev.iconst (pc' := 952) dL_law_951 rfl ki_1 ?_
      refine Ev.iadd (pc' := 953) dL_law_952 rfl ?_
      refine Ev.ialoadO (k := 1004) (f := xs) (pc' := 954) dL_law_953 rfl (fun U hU => (hO U hU).2.2.2.2.1) h.1 ?_
      have h := h.2
      refine Eg.callVI [.int _] [.int _] (pc' := 957) dL_law_954 rfl cv_RL_124_X12_seed ⟨Nat.le_of_ble_eq_true rfl, Nat.le_of_ble_eq_true rfl⟩ ob_120 rfl rfl rfl (Nat.le_of_ble_eq_true rfl) (okX12_seed h) (fun r156 I154 L155 h => ?_)
      refine Ev.icmp_eq (pc' := 960) (tgt := 1031) dL_law_957 rfl rfl (fun hc => ?_) (fun hc => ?_)
      · have h := h.1 hc
        refine Ev.iinc (k := 3) (v := _) (ls' := [(3, .int _), (0, .ref _), (1, .ref _), (2, .ref _)]) (pc' := 1034) dL_law_1031 rfl rfl (congrArg (_ + ·) ki_6) (Nat.le_of_ble_eq_true rfl) rfl ?_
        refine Ev.goto (tgt := 18) dL_law_1034 rfl ?_
        exact Ev.sub [1, 2, 3, 0] rfl (hP18 _ _ _ h)
      · have h := h.2 hc
        refine Ev.iconst (pc' := 961) dL_law_960 rfl ki_0 ?_
        exact Eg.zret (b := false) dL_law_961 rfl h
    by_cases e26 : ((xs v3.toNatClampNeg) &&& 31) = 26
    · refine Ev.tableIn (off := 929) (tgt := 962) dL_law_33 (by rw [e26]; decide) (by rw [e26]; decide) (by rw [e26]; decide) rfl ?_
      have h := h.2.2.2.2.2.2.2.2.2.2.2.2.2.2.2.2.2.2.2.2.2.2.2.2.2.2.1 e26
      refine Ev.aload_n (k := 1) (pc' := 963) dL_law_962 rfl rfl rfl ?_
      refine Ev.aload_n (k := 0) (pc' := 964) dL_law_963 rfl rfl rfl ?_
      refine Ev.iload_n (k := 3) (pc' := 965) dL_law_964 rfl rfl rfl ?_
      refine Ev.iconst (pc' := 966) dL_law_965 rfl ki_1 ?_
      refine Ev.iadd (pc' := 967) dL_law_966 rfl ?_
      refine Ev.ialoadO (k := 1004) (f := xs) (pc' := 968) dL_law_967 rfl (fun U hU => (hO U hU).2.2.2.2.1) h.1 ?_
      have h := h.2
      refine Eg.callVI [.int _] [] (pc' := 971) dL_law_968 rfl cv_RL_125_X11_image ⟨Nat.le_of_ble_eq_true rfl, Nat.le_of_ble_eq_true rfl⟩ ob_0 rfl rfl rfl (Nat.le_of_ble_eq_true rfl) (okX11_image h) (fun r159 I157 L158 h => ?_)
      refine Ev.aload_n (k := 2) (pc' := 972) dL_law_971 rfl rfl rfl ?_
      refine Ev.aload_n (k := 0) (pc' := 973) dL_law_972 rfl rfl rfl ?_
      refine Ev.iload_n (k := 3) (pc' := 974) dL_law_973 rfl rfl rfl ?_
      refine Ev.iconst (pc' := 975) dL_law_974 rfl ki_1 ?_
      refine Ev.iadd (pc' := 976) dL_law_975 rfl ?_
      refine Ev.ialoadO (k := 1004) (f := xs) (pc' := 977) dL_law_976 rfl (fun U hU => (hO U hU).2.2.2.2.1) h.1 ?_
      have h := h.2
      refine Eg.callVI [.int _] [.int _] (pc' := 980) dL_law_977 rfl cv_RL_128_X12_image ⟨Nat.le_of_ble_eq_true rfl, Nat.le_of_ble_eq_true rfl⟩ ob_120 rfl rfl rfl (Nat.le_of_ble_eq_true rfl) (okX12_image h) (fun r162 I160 L161 h => ?_)
      refine Ev.icmp_eq (pc' := 983) (tgt := 1031) dL_law_980 rfl rfl (fun hc => ?_) (fun hc => ?_)
      · have h := h.1 hc
        refine Ev.iinc (k := 3) (v := _) (ls' := [(3, .int _), (0, .ref _), (1, .ref _), (2, .ref _)]) (pc' := 1034) dL_law_1031 rfl rfl (congrArg (_ + ·) ki_6) (Nat.le_of_ble_eq_true rfl) rfl ?_
        refine Ev.goto (tgt := 18) dL_law_1034 rfl ?_
        exact Ev.sub [1, 2, 3, 0] rfl (hP18 _ _ _ h)
      · have h := h.2 hc
        refine Ev.iconst (pc' := 984) dL_law_983 rfl ki_0 ?_
        exact Eg.zret (b := false) dL_law_984 rfl h
    by_cases e27 : ((xs v3.toNatClampNeg) &&& 31) = 27
    · refine Ev.tableIn (off := 952) (tgt := 985) dL_law_33 (by rw [e27]; decide) (by rw [e27]; decide) (by rw [e27]; decide) rfl ?_
      have h := h.2.2.2.2.2.2.2.2.2.2.2.2.2.2.2.2.2.2.2.2.2.2.2.2.2.2.2.1 e27
      refine Ev.aload_n (k := 1) (pc' := 986) dL_law_985 rfl rfl rfl ?_
      refine Ev.aload_n (k := 0) (pc' := 987) dL_law_986 rfl rfl rfl ?_
      refine Ev.iload_n (k := 3) (pc' := 988) dL_law_987 rfl rfl rfl ?_
      refine Ev.iconst (pc' := 989) dL_law_988 rfl ki_1 ?_
      refine Ev.iadd (pc' := 990) dL_law_989 rfl ?_
      refine Ev.ialoadO (k := 1004) (f := xs) (pc' := 991) dL_law_990 rfl (fun U hU => (hO U hU).2.2.2.2.1) h.1 ?_
      have h := h.2
      refine Eg.callVI [.int _] [] (pc' := 994) dL_law_991 rfl cv_RL_129_X11_back ⟨Nat.le_of_ble_eq_true rfl, Nat.le_of_ble_eq_true rfl⟩ ob_0 rfl rfl rfl (Nat.le_of_ble_eq_true rfl) (okX11_back h) (fun r165 I163 L164 h => ?_)
      refine Ev.aload_n (k := 2) (pc' := 995) dL_law_994 rfl rfl rfl ?_
      refine Ev.aload_n (k := 0) (pc' := 996) dL_law_995 rfl rfl rfl ?_
      refine Ev.iload_n (k := 3) (pc' := 997) dL_law_996 rfl rfl rfl ?_
      refine Ev.iconst (pc' := 998) dL_law_997 rfl ki_1 ?_
      refine Ev.iadd (pc' := 999) dL_law_998 rfl ?_
      refine Ev.ialoadO (k := 1004) (f := xs) (pc' := 1000) dL_law_999 rfl (fun U hU => (hO U hU).2.2.2.2.1) h.1 ?_
      have h := h.2
      refine Eg.callVI [.int _] [.int _] (pc' := 1003) dL_law_1000 rfl cv_RL_132_X12_back ⟨Nat.le_of_ble_eq_true rfl, Nat.le_of_ble_eq_true rfl⟩ ob_120 rfl rfl rfl (Nat.le_of_ble_eq_true rfl) (okX12_back h) (fun r168 I166 L167 h => ?_)
      refine Ev.icmp_eq (pc' := 1006) (tgt := 1031) dL_law_1003 rfl rfl (fun hc => ?_) (fun hc => ?_)
      · have h := h.1 hc
        refine Ev.iinc (k := 3) (v := _) (ls' := [(3, .int _), (0, .ref _), (1, .ref _), (2, .ref _)]) (pc' := 1034) dL_law_1031 rfl rfl (congrArg (_ + ·) ki_6) (Nat.le_of_ble_eq_true rfl) rfl ?_
        refine Ev.goto (tgt := 18) dL_law_1034 rfl ?_
        exact Ev.sub [1, 2, 3, 0] rfl (hP18 _ _ _ h)
      · have h := h.2 hc
        refine Ev.iconst (pc' := 1007) dL_law_1006 rfl ki_0 ?_
        exact Eg.zret (b := false) dL_law_1007 rfl h
    by_cases e28 : ((xs v3.toNatClampNeg) &&& 31) = 28
    · refine Ev.tableIn (off := 975) (tgt := 1008) dL_law_33 (by rw [e28]; decide) (by rw [e28]; decide) (by rw [e28]; decide) rfl ?_
      have h := h.2.2.2.2.2.2.2.2.2.2.2.2.2.2.2.2.2.2.2.2.2.2.2.2.2.2.2.2.1 e28
      refine Ev.aload_n (k := 1) (pc' := 1009) dL_law_1008 rfl rfl rfl ?_
      refine Ev.aload_n (k := 0) (pc' := 1010) dL_law_1009 rfl rfl rfl ?_
      refine Ev.iload_n (k := 3) (pc' := 1011) dL_law_1010 rfl rfl rfl ?_
      refine Ev.iconst (pc' := 1012) dL_law_1011 rfl ki_1 ?_
      refine Ev.iadd (pc' := 1013) dL_law_1012 rfl ?_
      refine Ev.ialoadO (k := 1004) (f := xs) (pc' := 1014) dL_law_1013 rfl (fun U hU => (hO U hU).2.2.2.2.1) h.1 ?_
      have h := h.2
      refine Eg.callVI [.int _] [] (pc' := 1017) dL_law_1014 rfl cv_RL_133_X11_about ⟨Nat.le_of_ble_eq_true rfl, Nat.le_of_ble_eq_true rfl⟩ ob_0 rfl rfl rfl (Nat.le_of_ble_eq_true rfl) (okX11_about h) (fun r171 I169 L170 h => ?_)
      refine Ev.aload_n (k := 2) (pc' := 1018) dL_law_1017 rfl rfl rfl ?_
      refine Ev.aload_n (k := 0) (pc' := 1019) dL_law_1018 rfl rfl rfl ?_
      refine Ev.iload_n (k := 3) (pc' := 1020) dL_law_1019 rfl rfl rfl ?_
      refine Ev.iconst (pc' := 1021) dL_law_1020 rfl ki_1 ?_
      refine Ev.iadd (pc' := 1022) dL_law_1021 rfl ?_
      refine Ev.ialoadO (k := 1004) (f := xs) (pc' := 1023) dL_law_1022 rfl (fun U hU => (hO U hU).2.2.2.2.1) h.1 ?_
      have h := h.2
      refine Eg.callVI [.int _] [.int _] (pc' := 1026) dL_law_1023 rfl cv_RL_136_X12_about ⟨Nat.le_of_ble_eq_true rfl, Nat.le_of_ble_eq_true rfl⟩ ob_120 rfl rfl rfl (Nat.le_of_ble_eq_true rfl) (okX12_about h) (fun r174 I172 L173 h => ?_)
      refine Ev.icmp_eq (pc' := 1029) (tgt := 1031) dL_law_1026 rfl rfl (fun hc => ?_) (fun hc => ?_)
      · have h := h.1 hc
        refine Ev.iinc (k := 3) (v := _) (ls' := [(3, .int _), (0, .ref _), (1, .ref _), (2, .ref _)]) (pc' := 1034) dL_law_1031 rfl rfl (congrArg (_ + ·) ki_6) (Nat.le_of_ble_eq_true rfl) rfl ?_
        refine Ev.goto (tgt := 18) dL_law_1034 rfl ?_
        exact Ev.sub [1, 2, 3, 0] rfl (hP18 _ _ _ h)
      · have h := h.2 hc
        refine Ev.iconst (pc' := 1030) dL_law_1029 rfl ki_0 ?_
        exact Eg.zret (b := false) dL_law_1030 rfl h
    have h := h.2.2.2.2.2.2.2.2.2.2.2.2.2.2.2.2.2.2.2.2.2.2.2.2.2.2.2.2.2 e0 e1 e2 e3 e4 e5 e6 e7 e8 e9 e10 e11 e12 e13 e14 e15 e16 e17 e18 e19 e20 e21 e22 e23 e24 e25 e26 e27 e28
    refine Ev.tableOut (tgt := 1031) dL_law_33 (sw_out fun v h1 h2 => ?_) rfl ?_
    · have h3 : v = 0 ∨ v = 1 ∨ v = 2 ∨ v = 3 ∨ v = 4 ∨ v = 5 ∨ v = 6 ∨ v = 7 ∨ v = 8 ∨ v = 9 ∨ v = 10 ∨ v = 11 ∨ v = 12 ∨ v = 13 ∨ v = 14 ∨ v = 15 ∨ v = 16 ∨ v = 17 ∨ v = 18 ∨ v = 19 ∨ v = 20 ∨ v = 21 ∨ v = 22 ∨ v = 23 ∨ v = 24 ∨ v = 25 ∨ v = 26 ∨ v = 27 ∨ v = 28 := by omega
      rcases h3 with rfl | rfl | rfl | rfl | rfl | rfl | rfl | rfl | rfl | rfl | rfl | rfl | rfl | rfl | rfl | rfl | rfl | rfl | rfl | rfl | rfl | rfl | rfl | rfl | rfl | rfl | rfl | rfl | rfl
      · exact fun q => e0 (q.trans (by decide))
      · exact fun q => e1 (q.trans (by decide))
      · exact fun q => e2 (q.trans (by decide))
      · exact fun q => e3 (q.trans (by decide))
      · exact fun q => e4 (q.trans (by decide))
      · exact fun q => e5 (q.trans (by decide))
      · exact fun q => e6 (q.trans (by decide))
      · exact fun q => e7 (q.trans (by decide))
      · exact fun q => e8 (q.trans (by decide))
      · exact fun q => e9 (q.trans (by decide))
      · exact fun q => e10 (q.trans (by decide))
      · exact fun q => e11 (q.trans (by decide))
      · exact fun q => e12 (q.trans (by decide))
      · exact fun q => e13 (q.trans (by decide))
      · exact fun q => e14 (q.trans (by decide))
      · exact fun q => e15 (q.trans (by decide))
      · exact fun q => e16 (q.trans (by decide))
      · exact fun q => e17 (q.trans (by decide))
      · exact fun q => e18 (q.trans (by decide))
      · exact fun q => e19 (q.trans (by decide))
      · exact fun q => e20 (q.trans (by decide))
      · exact fun q => e21 (q.trans (by decide))
      · exact fun q => e22 (q.trans (by decide))
      · exact fun q => e23 (q.trans (by decide))
      · exact fun q => e24 (q.trans (by decide))
      · exact fun q => e25 (q.trans (by decide))
      · exact fun q => e26 (q.trans (by decide))
      · exact fun q => e27 (q.trans (by decide))
      · exact fun q => e28 (q.trans (by decide))
    · refine Ev.iinc (k := 3) (v := _) (ls' := [(3, .int _), (0, .ref _), (1, .ref _), (2, .ref _)]) (pc' := 1034) dL_law_1031 rfl rfl (congrArg (_ + ·) ki_6) (Nat.le_of_ble_eq_true rfl) rfl ?_
      refine Ev.goto (tgt := 18) dL_law_1034 rfl ?_
      exact Ev.sub [1, 2, 3, 0] rfl (hP18 _ _ _ h)
set_option maxRecDepth 20000 in
set_option maxHeartbeats 4000000 in
theorem okL_law_h18 {G : Gx} {Ls : Nat} {xs : Nat → Int32} (hO : Old G Ls xs) {Q : Bool → Ix → Lx → Prop} {v3 : Int32} {I : Ix} {L : Lx} (h : wpL_law_h18 Ls xs Q v3 I L) : Eg G ML (qZ Q) 18 [(0, .ref 1004), (1, .ref 0), (2, .ref 120), (3, .int v3)] [] I L := by
  unfold wpL_law_h18 at h
  refine Lfp.ind (P := fun z => Eg G ML (qZ Q) 18 [(0, .ref 1004), (1, .ref 0), (2, .ref 120), (3, .int z.1)] [] z.2.1 z.2.2) ?_ h
  intro z P' hP' h
  obtain ⟨v3, I, L⟩ := z
  exact okL_law_l18 hO (fun v3 I L h9 => hP' (v3, I, L) h9) h
