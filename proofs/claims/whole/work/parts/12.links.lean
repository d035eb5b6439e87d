/-! links: kX.._i (a call), fX.._i (a field read), pX.._i (a field written), nX.._i (a class made), qX.._i (a constant) -/
set_option maxRecDepth 20000 in
theorem oi : Cond.instanceMethod objectInit ∈ am_tbl := am_t1 28 rfl rfl
set_option maxRecDepth 20000 in
theorem oc : Cond.code objectInit ⟨#[0xb1]⟩ 1 none ∈ am_tbl := am_t1 29 rfl rfl
set_option maxRecDepth 20000 in
theorem kL_9 : Cond.methodLink RL 9 yX11_init ∈ am_tbl := am_t1 24 rfl rfl
set_option maxRecDepth 20000 in
theorem kX11_1 : Cond.methodLink RX11 1 objectInit ∈ am_tbl := am_t1 27 rfl rfl
set_option maxRecDepth 20000 in
theorem kX8_3 : Cond.methodLink RX8 3 objectInit ∈ am_tbl := am_t1 35 rfl rfl
set_option maxRecDepth 20000 in
theorem kX11_18 : Cond.methodLink RX11 18 yX7_init ∈ am_tbl := am_t1 59 rfl rfl
set_option maxRecDepth 20000 in
theorem kX7_3 : Cond.methodLink RX7 3 objectInit ∈ am_tbl := am_t1 62 rfl rfl
set_option maxRecDepth 20000 in
theorem kX4_3 : Cond.methodLink RX4 3 objectInit ∈ am_tbl := am_t1 71 rfl rfl
set_option maxRecDepth 20000 in
theorem kX11_33 : Cond.methodLink RX11 33 yX2_init ∈ am_tbl := am_t1 159 rfl rfl
set_option maxRecDepth 20000 in
theorem kX2_3 : Cond.methodLink RX2 3 objectInit ∈ am_tbl := am_t1 162 rfl rfl
set_option maxRecDepth 20000 in
theorem kX11_40 : Cond.methodLink RX11 40 yX3_init ∈ am_tbl := am_t1 182 rfl rfl
set_option maxRecDepth 20000 in
theorem kX3_3 : Cond.methodLink RX3 3 objectInit ∈ am_tbl := am_t1 185 rfl rfl
set_option maxRecDepth 20000 in
theorem kX3_11 : Cond.methodLink RX3 11 yX9_init ∈ am_tbl := am_t1 188 rfl rfl
set_option maxRecDepth 20000 in
theorem kX9_5 : Cond.methodLink RX9 5 objectInit ∈ am_tbl := am_t1 191 rfl rfl
set_option maxRecDepth 20000 in
theorem kX11_49 : Cond.methodLink RX11 49 yX6_init ∈ am_tbl := am_t1 239 rfl rfl
set_option maxRecDepth 20000 in
theorem kX6_3 : Cond.methodLink RX6 3 objectInit ∈ am_tbl := am_t2 2 rfl rfl
set_option maxRecDepth 20000 in
theorem kX11_58 : Cond.methodLink RX11 58 yX1_init ∈ am_tbl := am_t2 50 rfl rfl
set_option maxRecDepth 20000 in
theorem kX1_3 : Cond.methodLink RX1 3 objectInit ∈ am_tbl := am_t2 53 rfl rfl
set_option maxRecDepth 20000 in
theorem kX1_17 : Cond.methodLink RX1 17 yX7_init ∈ am_tbl := am_t2 55 rfl rfl
set_option maxRecDepth 20000 in
theorem kX1_24 : Cond.methodLink RX1 24 yX2_init ∈ am_tbl := am_t2 57 rfl rfl
set_option maxRecDepth 20000 in
theorem kX11_67 : Cond.methodLink RX11 67 yX10_init ∈ am_tbl := am_t2 89 rfl rfl
set_option maxRecDepth 20000 in
theorem kX10_3 : Cond.methodLink RX10 3 objectInit ∈ am_tbl := am_t2 92 rfl rfl
set_option maxRecDepth 20000 in
theorem kX5_3 : Cond.methodLink RX5 3 objectInit ∈ am_tbl := am_t2 164 rfl rfl
set_option maxRecDepth 20000 in
theorem kX11_83 : Cond.methodLink RX11 83 yX0_init ∈ am_tbl := am_t2 181 rfl rfl
set_option maxRecDepth 20000 in
theorem kX0_3 : Cond.methodLink RX0 3 objectInit ∈ am_tbl := am_t2 184 rfl rfl
set_option maxRecDepth 20000 in
theorem kL_13 : Cond.methodLink RL 13 yX11_feed ∈ am_tbl := am_t3 18 rfl rfl
set_option maxRecDepth 20000 in
theorem kX11_111 : Cond.methodLink RX11 111 yX8_addFour ∈ am_tbl := am_t3 22 rfl rfl
set_option maxRecDepth 20000 in
theorem kL_18 : Cond.methodLink RL 18 yX11_end ∈ am_tbl := am_t3 26 rfl rfl
set_option maxRecDepth 20000 in
theorem kL_23 : Cond.methodLink RL 23 yX11_heap ∈ am_tbl := am_t3 30 rfl rfl
set_option maxRecDepth 20000 in
theorem kX11_118 : Cond.methodLink RX11 118 yX11_refuse ∈ am_tbl := am_t3 34 rfl rfl
set_option maxRecDepth 20000 in
theorem kX11_122 : Cond.methodLink RX11 122 yX8_holdsCards ∈ am_tbl := am_t3 38 rfl rfl
set_option maxRecDepth 20000 in
theorem kX11_126 : Cond.methodLink RX11 126 yX2_clear ∈ am_tbl := am_t3 42 rfl rfl
set_option maxRecDepth 20000 in
theorem kX11_133 : Cond.methodLink RX11 133 yX7_addHeap ∈ am_tbl := am_t3 46 rfl rfl
set_option maxRecDepth 20000 in
theorem kX7_64 : Cond.methodLink RX7 64 yJ9_min_7cf53 ∈ am_tbl := am_t3 50 rfl rfl
set_option maxRecDepth 20000 in
theorem kX7_70 : Cond.methodLink RX7 70 yJ9_max_7cf53 ∈ am_tbl := am_t3 53 rfl rfl
set_option maxRecDepth 20000 in
theorem kX11_137 : Cond.methodLink RX11 137 yX11_answer ∈ am_tbl := am_t3 56 rfl rfl
set_option maxRecDepth 20000 in
theorem kL_28 : Cond.methodLink RL 28 yX11_of ∈ am_tbl := am_t3 60 rfl rfl
set_option maxRecDepth 20000 in
theorem kX11_140 : Cond.methodLink RX11 140 yX7_at ∈ am_tbl := am_t3 64 rfl rfl
set_option maxRecDepth 20000 in
theorem kX11_151 : Cond.methodLink RX11 151 yX6_look ∈ am_tbl := am_t3 68 rfl rfl
set_option maxRecDepth 20000 in
theorem kX6_23 : Cond.methodLink RX6 23 yX4_card ∈ am_tbl := am_t3 72 rfl rfl
set_option maxRecDepth 20000 in
theorem kX6_39 : Cond.methodLink RX6 39 yX7_inForce ∈ am_tbl := am_t3 76 rfl rfl
set_option maxRecDepth 20000 in
theorem kX6_45 : Cond.methodLink RX6 45 yX6_fillWords ∈ am_tbl := am_t3 80 rfl rfl
set_option maxRecDepth 20000 in
theorem kX6_51 : Cond.methodLink RX6 51 yX9_latestOf ∈ am_tbl := am_t3 84 rfl rfl
set_option maxRecDepth 20000 in
theorem kX9_61 : Cond.methodLink RX9 61 yX9_ask ∈ am_tbl := am_t3 88 rfl rfl
set_option maxRecDepth 20000 in
theorem kX9_42 : Cond.methodLink RX9 42 yJ9_max_7cf53 ∈ am_tbl := am_t3 92 rfl rfl
set_option maxRecDepth 20000 in
theorem kX9_66 : Cond.methodLink RX9 66 yX9_join ∈ am_tbl := am_t3 94 rfl rfl
set_option maxRecDepth 20000 in
theorem kX6_55 : Cond.methodLink RX6 55 yX9_hasEnded ∈ am_tbl := am_t3 100 rfl rfl
set_option maxRecDepth 20000 in
theorem kX11_158 : Cond.methodLink RX11 158 yX11_nearest ∈ am_tbl := am_t3 104 rfl rfl
set_option maxRecDepth 20000 in
theorem kX11_324 : Cond.methodLink RX11 324 yJ9_min_7cf53 ∈ am_tbl := am_t3 107 rfl rfl
set_option maxRecDepth 20000 in
theorem kX11_329 : Cond.methodLink RX11 329 yJ9_max_7cf53 ∈ am_tbl := am_t3 108 rfl rfl
set_option maxRecDepth 20000 in
theorem kX11_164 : Cond.methodLink RX11 164 yX4_card ∈ am_tbl := am_t3 109 rfl rfl
set_option maxRecDepth 20000 in
theorem kL_33 : Cond.methodLink RL 33 yX11_terms ∈ am_tbl := am_t3 110 rfl rfl
set_option maxRecDepth 20000 in
theorem kL_37 : Cond.methodLink RL 37 yX11_law ∈ am_tbl := am_t3 114 rfl rfl
set_option maxRecDepth 20000 in
theorem kX11_176 : Cond.methodLink RX11 176 yX3_read ∈ am_tbl := am_t3 118 rfl rfl
set_option maxRecDepth 20000 in
theorem kX3_30 : Cond.methodLink RX3 30 yX9_clear ∈ am_tbl := am_t3 122 rfl rfl
set_option maxRecDepth 20000 in
theorem kX3_33 : Cond.methodLink RX3 33 yX8_rewind ∈ am_tbl := am_t3 126 rfl rfl
set_option maxRecDepth 20000 in
theorem kX8_22 : Cond.methodLink RX8 22 yX8_go ∈ am_tbl := am_t3 130 rfl rfl
set_option maxRecDepth 20000 in
theorem kX3_38 : Cond.methodLink RX3 38 yX3_readOrder ∈ am_tbl := am_t3 134 rfl rfl
set_option maxRecDepth 20000 in
theorem kX3_57 : Cond.methodLink RX3 57 yX8_among ∈ am_tbl := am_t3 139 rfl rfl
set_option maxRecDepth 20000 in
theorem kX8_35 : Cond.methodLink RX8 35 yJ0_length_8abf5 ∈ am_tbl := am_t3 143 rfl rfl
set_option maxRecDepth 20000 in
theorem kJ0_335 : Cond.methodLink RJ0 335 yJ0_coder_7d493 ∈ am_tbl := am_t3 147 rfl rfl
set_option maxRecDepth 20000 in
theorem kX8_40 : Cond.methodLink RX8 40 yJ0_charAt_5068e ∈ am_tbl := am_t3 153 rfl rfl
set_option maxRecDepth 20000 in
theorem kJ0_492 : Cond.methodLink RJ0 492 yJ0_isLatin1_aae02 ∈ am_tbl := am_t3 157 rfl rfl
set_option maxRecDepth 20000 in
theorem kJ0_495 : Cond.methodLink RJ0 495 yJ1_charAt_3b067 ∈ am_tbl := am_t3 161 rfl rfl
set_option maxRecDepth 20000 in
theorem kJ1_9 : Cond.methodLink RJ1 9 yJ0_checkIndex_df160 ∈ am_tbl := am_t3 164 rfl rfl
set_option maxRecDepth 20000 in
theorem kJ0_1059 : Cond.methodLink RJ0 1059 yJ3_checkIndex_8e157 ∈ am_tbl := am_t3 169 rfl rfl
set_option maxRecDepth 20000 in
theorem kJ0_498 : Cond.methodLink RJ0 498 yJ2_charAt_3b067 ∈ am_tbl := am_t3 172 rfl rfl
set_option maxRecDepth 20000 in
theorem kJ2_67 : Cond.methodLink RJ2 67 yJ2_checkIndex_2214a ∈ am_tbl := am_t3 175 rfl rfl
set_option maxRecDepth 20000 in
theorem kJ2_48 : Cond.methodLink RJ2 48 yJ2_length_9d52b ∈ am_tbl := am_t3 178 rfl rfl
set_option maxRecDepth 20000 in
theorem kJ2_414 : Cond.methodLink RJ2 414 yJ0_checkIndex_df160 ∈ am_tbl := am_t3 181 rfl rfl
set_option maxRecDepth 20000 in
theorem kJ2_71 : Cond.methodLink RJ2 71 yJ2_getChar_3b067 ∈ am_tbl := am_t3 182 rfl rfl
set_option maxRecDepth 20000 in
theorem kX3_61 : Cond.methodLink RX3 61 yX9_begin ∈ am_tbl := am_t3 191 rfl rfl
set_option maxRecDepth 20000 in
theorem kX3_65 : Cond.methodLink RX3 65 yX8_go ∈ am_tbl := am_t3 195 rfl rfl
set_option maxRecDepth 20000 in
theorem kX3_68 : Cond.methodLink RX3 68 yX3_readSum ∈ am_tbl := am_t3 196 rfl rfl
set_option maxRecDepth 20000 in
theorem kX3_115 : Cond.methodLink RX3 115 yX9_setSum ∈ am_tbl := am_t3 200 rfl rfl
set_option maxRecDepth 20000 in
theorem kX3_118 : Cond.methodLink RX3 118 yX3_sum ∈ am_tbl := am_t3 204 rfl rfl
set_option maxRecDepth 20000 in
theorem kX3_144 : Cond.methodLink RX3 144 yX3_term ∈ am_tbl := am_t3 208 rfl rfl
set_option maxRecDepth 20000 in
theorem kX3_147 : Cond.methodLink RX3 147 yX3_part ∈ am_tbl := am_t3 212 rfl rfl
set_option maxRecDepth 20000 in
theorem kX3_91 : Cond.methodLink RX3 91 yX8_isSign ∈ am_tbl := am_t3 216 rfl rfl
set_option maxRecDepth 20000 in
theorem kX3_48 : Cond.methodLink RX3 48 yX3_takeSign ∈ am_tbl := am_t3 220 rfl rfl
set_option maxRecDepth 20000 in
theorem kX3_153 : Cond.methodLink RX3 153 yX3_number ∈ am_tbl := am_t3 224 rfl rfl
set_option maxRecDepth 20000 in
theorem kX3_96 : Cond.methodLink RX3 96 yX8_number ∈ am_tbl := am_t3 228 rfl rfl
set_option maxRecDepth 20000 in
theorem kX8_44 : Cond.methodLink RX8 44 yJ9_min_7cf53 ∈ am_tbl := am_t3 232 rfl rfl
set_option maxRecDepth 20000 in
theorem kX3_111 : Cond.methodLink RX3 111 yX9_add ∈ am_tbl := am_t3 233 rfl rfl
set_option maxRecDepth 20000 in
theorem kX3_155 : Cond.methodLink RX3 155 yX3_orderWord ∈ am_tbl := am_t3 237 rfl rfl
set_option maxRecDepth 20000 in
theorem kX3_158 : Cond.methodLink RX3 158 yX3_lawWord ∈ am_tbl := am_t4 2 rfl rfl
set_option maxRecDepth 20000 in
theorem kX3_150 : Cond.methodLink RX3 150 yX3_multiplying ∈ am_tbl := am_t4 7 rfl rfl
set_option maxRecDepth 20000 in
theorem kX3_79 : Cond.methodLink RX3 79 yX3_take ∈ am_tbl := am_t4 12 rfl rfl
set_option maxRecDepth 20000 in
theorem kX3_88 : Cond.methodLink RX3 88 yX8_isWord ∈ am_tbl := am_t4 16 rfl rfl
set_option maxRecDepth 20000 in
theorem kX8_31 : Cond.methodLink RX8 31 yX8_among ∈ am_tbl := am_t4 20 rfl rfl
set_option maxRecDepth 20000 in
theorem kX3_85 : Cond.methodLink RX3 85 yX3_readTimes ∈ am_tbl := am_t4 22 rfl rfl
set_option maxRecDepth 20000 in
theorem kX3_100 : Cond.methodLink RX3 100 yX9_setTimes ∈ am_tbl := am_t4 27 rfl rfl
set_option maxRecDepth 20000 in
theorem kX3_72 : Cond.methodLink RX3 72 yX3_readIf ∈ am_tbl := am_t4 31 rfl rfl
set_option maxRecDepth 20000 in
theorem kX3_105 : Cond.methodLink RX3 105 yX9_setTest ∈ am_tbl := am_t4 36 rfl rfl
set_option maxRecDepth 20000 in
theorem kX3_108 : Cond.methodLink RX3 108 yX3_test ∈ am_tbl := am_t4 40 rfl rfl
set_option maxRecDepth 20000 in
theorem kX3_121 : Cond.methodLink RX3 121 yX3_both ∈ am_tbl := am_t4 44 rfl rfl
set_option maxRecDepth 20000 in
theorem kX3_129 : Cond.methodLink RX3 129 yX3_plain ∈ am_tbl := am_t4 48 rfl rfl
set_option maxRecDepth 20000 in
theorem kX3_136 : Cond.methodLink RX3 136 yX3_comparison ∈ am_tbl := am_t4 53 rfl rfl
set_option maxRecDepth 20000 in
theorem kX3_139 : Cond.methodLink RX3 139 yJ9_max_7cf53 ∈ am_tbl := am_t4 57 rfl rfl
set_option maxRecDepth 20000 in
theorem kX3_126 : Cond.methodLink RX3 126 yX9_land ∈ am_tbl := am_t4 59 rfl rfl
set_option maxRecDepth 20000 in
theorem kX3_42 : Cond.methodLink RX3 42 yX3_readRule ∈ am_tbl := am_t4 64 rfl rfl
set_option maxRecDepth 20000 in
theorem kX11_184 : Cond.methodLink RX11 184 yX9_trimmed ∈ am_tbl := am_t4 69 rfl rfl
set_option maxRecDepth 20000 in
theorem kX9_58 : Cond.methodLink RX9 58 yX9_init_ ∈ am_tbl := am_t4 74 rfl rfl
set_option maxRecDepth 20000 in
theorem kX9_36 : Cond.methodLink RX9 36 yJ9_min_7cf53 ∈ am_tbl := am_t4 77 rfl rfl
set_option maxRecDepth 20000 in
theorem kX9_48 : Cond.methodLink RX9 48 arraycopyName ∈ am_tbl := am_t4 78 rfl rfl
set_option maxRecDepth 20000 in
theorem kX11_190 : Cond.methodLink RX11 190 yX7_addLaw ∈ am_tbl := am_t4 81 rfl rfl
set_option maxRecDepth 20000 in
theorem kL_41 : Cond.methodLink RL 41 yX11_orders ∈ am_tbl := am_t4 85 rfl rfl
set_option maxRecDepth 20000 in
theorem kX11_197 : Cond.methodLink RX11 197 yX1_run ∈ am_tbl := am_t4 89 rfl rfl
set_option maxRecDepth 20000 in
theorem kX1_85 : Cond.methodLink RX1 85 yX7_copyHeaps ∈ am_tbl := am_t4 93 rfl rfl
set_option maxRecDepth 20000 in
theorem kX7_60 : Cond.methodLink RX7 60 yX4_copy ∈ am_tbl := am_t4 97 rfl rfl
set_option maxRecDepth 20000 in
theorem kX4_19 : Cond.methodLink RX4 19 arraycopyName ∈ am_tbl := am_t4 101 rfl rfl
set_option maxRecDepth 20000 in
theorem kX1_89 : Cond.methodLink RX1 89 yX2_copy ∈ am_tbl := am_t4 102 rfl rfl
set_option maxRecDepth 20000 in
theorem kX2_29 : Cond.methodLink RX2 29 yX4_copy ∈ am_tbl := am_t4 106 rfl rfl
set_option maxRecDepth 20000 in
theorem kX1_104 : Cond.methodLink RX1 104 yX9_timesOf ∈ am_tbl := am_t4 107 rfl rfl
set_option maxRecDepth 20000 in
theorem kX1_107 : Cond.methodLink RX1 107 yX1_runOnce ∈ am_tbl := am_t4 111 rfl rfl
set_option maxRecDepth 20000 in
theorem kX1_111 : Cond.methodLink RX1 111 yX1_fillWords ∈ am_tbl := am_t4 115 rfl rfl
set_option maxRecDepth 20000 in
theorem kX1_43 : Cond.methodLink RX1 43 yX7_at ∈ am_tbl := am_t4 119 rfl rfl
set_option maxRecDepth 20000 in
theorem kX1_74 : Cond.methodLink RX1 74 yX4_card ∈ am_tbl := am_t4 120 rfl rfl
set_option maxRecDepth 20000 in
theorem kX1_114 : Cond.methodLink RX1 114 yX9_isSo ∈ am_tbl := am_t4 121 rfl rfl
set_option maxRecDepth 20000 in
theorem kX1_118 : Cond.methodLink RX1 118 yX9_kindOf ∈ am_tbl := am_t4 125 rfl rfl
set_option maxRecDepth 20000 in
theorem kX1_121 : Cond.methodLink RX1 121 yX9_sumOf ∈ am_tbl := am_t4 129 rfl rfl
set_option maxRecDepth 20000 in
theorem kX1_126 : Cond.methodLink RX1 126 yX1_tread ∈ am_tbl := am_t4 134 rfl rfl
set_option maxRecDepth 20000 in
theorem kX1_47 : Cond.methodLink RX1 47 yX6_look ∈ am_tbl := am_t4 138 rfl rfl
set_option maxRecDepth 20000 in
theorem kX1_53 : Cond.methodLink RX1 53 yX2_keep ∈ am_tbl := am_t4 139 rfl rfl
set_option maxRecDepth 20000 in
theorem kX2_33 : Cond.methodLink RX2 33 yJ9_min_7cf53 ∈ am_tbl := am_t4 143 rfl rfl
set_option maxRecDepth 20000 in
theorem kX1_57 : Cond.methodLink RX1 57 yX6_make ∈ am_tbl := am_t4 144 rfl rfl
set_option maxRecDepth 20000 in
theorem kX6_68 : Cond.methodLink RX6 68 yX4_reverse ∈ am_tbl := am_t4 148 rfl rfl
set_option maxRecDepth 20000 in
theorem kX4_34 : Cond.methodLink RX4 34 yJ9_min_7cf53 ∈ am_tbl := am_t4 152 rfl rfl
set_option maxRecDepth 20000 in
theorem kX4_40 : Cond.methodLink RX4 40 yJ9_max_7cf53 ∈ am_tbl := am_t4 153 rfl rfl
set_option maxRecDepth 20000 in
theorem kX6_72 : Cond.methodLink RX6 72 yX4_lower ∈ am_tbl := am_t4 154 rfl rfl
set_option maxRecDepth 20000 in
theorem kX4_47 : Cond.methodLink RX4 47 yX4_reverse ∈ am_tbl := am_t4 158 rfl rfl
set_option maxRecDepth 20000 in
theorem kX6_79 : Cond.methodLink RX6 79 yJ9_min_7cf53 ∈ am_tbl := am_t4 159 rfl rfl
set_option maxRecDepth 20000 in
theorem kX1_129 : Cond.methodLink RX1 129 yX1_exchange ∈ am_tbl := am_t4 160 rfl rfl
set_option maxRecDepth 20000 in
theorem kX1_66 : Cond.methodLink RX1 66 yX4_has ∈ am_tbl := am_t4 164 rfl rfl
set_option maxRecDepth 20000 in
theorem kX1_70 : Cond.methodLink RX1 70 yX4_exchange ∈ am_tbl := am_t4 168 rfl rfl
set_option maxRecDepth 20000 in
theorem kX4_43 : Cond.methodLink RX4 43 yX4_has ∈ am_tbl := am_t4 172 rfl rfl
set_option maxRecDepth 20000 in
theorem kX1_132 : Cond.methodLink RX1 132 yX1_lift ∈ am_tbl := am_t4 173 rfl rfl
set_option maxRecDepth 20000 in
theorem kX1_81 : Cond.methodLink RX1 81 yX4_lower ∈ am_tbl := am_t4 177 rfl rfl
set_option maxRecDepth 20000 in
theorem kL_45 : Cond.methodLink RL 45 yX11_fault ∈ am_tbl := am_t4 178 rfl rfl
set_option maxRecDepth 20000 in
theorem kL_49 : Cond.methodLink RL 49 yX11_stopped ∈ am_tbl := am_t4 182 rfl rfl
set_option maxRecDepth 20000 in
theorem kL_53 : Cond.methodLink RL 53 yX11_force ∈ am_tbl := am_t4 186 rfl rfl
set_option maxRecDepth 20000 in
theorem kL_57 : Cond.methodLink RL 57 yX11_step ∈ am_tbl := am_t4 190 rfl rfl
set_option maxRecDepth 20000 in
theorem kX11_203 : Cond.methodLink RX11 203 yX1_tread ∈ am_tbl := am_t4 194 rfl rfl
set_option maxRecDepth 20000 in
theorem kL_61 : Cond.methodLink RL 61 yX11_swap ∈ am_tbl := am_t4 195 rfl rfl
set_option maxRecDepth 20000 in
theorem kX11_206 : Cond.methodLink RX11 206 yX1_exchange ∈ am_tbl := am_t4 199 rfl rfl
set_option maxRecDepth 20000 in
theorem kL_66 : Cond.methodLink RL 66 yX11_cut ∈ am_tbl := am_t4 200 rfl rfl
set_option maxRecDepth 20000 in
theorem kX11_210 : Cond.methodLink RX11 210 yX1_lift ∈ am_tbl := am_t4 204 rfl rfl
set_option maxRecDepth 20000 in
theorem kL_70 : Cond.methodLink RL 70 yX11_undo ∈ am_tbl := am_t4 205 rfl rfl
set_option maxRecDepth 20000 in
theorem kX11_215 : Cond.methodLink RX11 215 yX2_takeBack ∈ am_tbl := am_t4 209 rfl rfl
set_option maxRecDepth 20000 in
theorem kX2_39 : Cond.methodLink RX2 39 yJ9_max_7cf53 ∈ am_tbl := am_t4 213 rfl rfl
set_option maxRecDepth 20000 in
theorem kX2_45 : Cond.methodLink RX2 45 yX7_at ∈ am_tbl := am_t4 214 rfl rfl
set_option maxRecDepth 20000 in
theorem kL_74 : Cond.methodLink RL 74 yX11_goes ∈ am_tbl := am_t4 215 rfl rfl
set_option maxRecDepth 20000 in
theorem kX11_219 : Cond.methodLink RX11 219 yX4_copy ∈ am_tbl := am_t4 219 rfl rfl
set_option maxRecDepth 20000 in
theorem kX11_223 : Cond.methodLink RX11 223 yX6_goOn ∈ am_tbl := am_t4 220 rfl rfl
set_option maxRecDepth 20000 in
theorem kX6_97 : Cond.methodLink RX6 97 yX6_look ∈ am_tbl := am_t4 224 rfl rfl
set_option maxRecDepth 20000 in
theorem kX6_101 : Cond.methodLink RX6 101 yX4_packed ∈ am_tbl := am_t4 225 rfl rfl
set_option maxRecDepth 20000 in
theorem kX6_105 : Cond.methodLink RX6 105 yX6_earlier ∈ am_tbl := am_t4 229 rfl rfl
set_option maxRecDepth 20000 in
theorem kX6_108 : Cond.methodLink RX6 108 yX6_make ∈ am_tbl := am_t4 233 rfl rfl
set_option maxRecDepth 20000 in
theorem kL_78 : Cond.methodLink RL 78 yX11_after ∈ am_tbl := am_t4 234 rfl rfl
set_option maxRecDepth 20000 in
theorem kX11_235 : Cond.methodLink RX11 235 yX6_make ∈ am_tbl := am_t4 238 rfl rfl
set_option maxRecDepth 20000 in
theorem kL_82 : Cond.methodLink RL 82 yX11_longest ∈ am_tbl := am_t4 239 rfl rfl
set_option maxRecDepth 20000 in
theorem kX11_238 : Cond.methodLink RX11 238 yX4_rise ∈ am_tbl := am_t5 3 rfl rfl
set_option maxRecDepth 20000 in
theorem kX11_241 : Cond.methodLink RX11 241 yX10_survey ∈ am_tbl := am_t5 7 rfl rfl
set_option maxRecDepth 20000 in
theorem kX10_152 : Cond.methodLink RX10 152 yX10_start ∈ am_tbl := am_t5 11 rfl rfl
set_option maxRecDepth 20000 in
theorem kX10_48 : Cond.methodLink RX10 48 yX4_copy ∈ am_tbl := am_t5 15 rfl rfl
set_option maxRecDepth 20000 in
theorem kX10_56 : Cond.methodLink RX10 56 yJ9_min_7cf53 ∈ am_tbl := am_t5 16 rfl rfl
set_option maxRecDepth 20000 in
theorem kX10_62 : Cond.methodLink RX10 62 yJ9_max_7cf53 ∈ am_tbl := am_t5 17 rfl rfl
set_option maxRecDepth 20000 in
theorem kX10_65 : Cond.methodLink RX10 65 yX4_order ∈ am_tbl := am_t5 18 rfl rfl
set_option maxRecDepth 20000 in
theorem kX4_51 : Cond.methodLink RX4 51 yX4_exchange ∈ am_tbl := am_t5 22 rfl rfl
set_option maxRecDepth 20000 in
theorem kX10_82 : Cond.methodLink RX10 82 yX7_inForce ∈ am_tbl := am_t5 23 rfl rfl
set_option maxRecDepth 20000 in
theorem kX10_95 : Cond.methodLink RX10 95 yX4_packed ∈ am_tbl := am_t5 24 rfl rfl
set_option maxRecDepth 20000 in
theorem kX10_102 : Cond.methodLink RX10 102 yX10_makeRoom ∈ am_tbl := am_t5 25 rfl rfl
set_option maxRecDepth 20000 in
theorem kX10_105 : Cond.methodLink RX10 105 yX4_card ∈ am_tbl := am_t5 29 rfl rfl
set_option maxRecDepth 20000 in
theorem kX10_118 : Cond.methodLink RX10 118 yX10_rowsOf ∈ am_tbl := am_t5 30 rfl rfl
set_option maxRecDepth 20000 in
theorem kX10_167 : Cond.methodLink RX10 167 yJ7_fill_53178 ∈ am_tbl := am_t5 35 rfl rfl
set_option maxRecDepth 20000 in
theorem kX10_173 : Cond.methodLink RX10 173 yX10_fateOf ∈ am_tbl := am_t5 38 rfl rfl
set_option maxRecDepth 20000 in
theorem kX10_141 : Cond.methodLink RX10 141 yX10_timeOf ∈ am_tbl := am_t5 42 rfl rfl
set_option maxRecDepth 20000 in
theorem kX10_124 : Cond.methodLink RX10 124 yJ6_bitCount_0f7a4 ∈ am_tbl := am_t5 46 rfl rfl
set_option maxRecDepth 20000 in
theorem kX10_132 : Cond.methodLink RX10 132 yX6_look ∈ am_tbl := am_t5 52 rfl rfl
set_option maxRecDepth 20000 in
theorem kX10_138 : Cond.methodLink RX10 138 yX6_make ∈ am_tbl := am_t5 53 rfl rfl
set_option maxRecDepth 20000 in
theorem kX10_144 : Cond.methodLink RX10 144 yX4_rises ∈ am_tbl := am_t5 54 rfl rfl
set_option maxRecDepth 20000 in
theorem kX10_148 : Cond.methodLink RX10 148 yX10_writeDown ∈ am_tbl := am_t5 58 rfl rfl
set_option maxRecDepth 20000 in
theorem kX10_176 : Cond.methodLink RX10 176 yX10_tally ∈ am_tbl := am_t5 62 rfl rfl
set_option maxRecDepth 20000 in
theorem kX10_180 : Cond.methodLink RX10 180 yX4_advance ∈ am_tbl := am_t5 66 rfl rfl
set_option maxRecDepth 20000 in
theorem kX11_253 : Cond.methodLink RX11 253 yX10_cardOf ∈ am_tbl := am_t5 70 rfl rfl
set_option maxRecDepth 20000 in
theorem kX10_129 : Cond.methodLink RX10 129 yX10_layOut ∈ am_tbl := am_t5 74 rfl rfl
set_option maxRecDepth 20000 in
theorem kL_86 : Cond.methodLink RL 86 yX11_orderly ∈ am_tbl := am_t5 78 rfl rfl
set_option maxRecDepth 20000 in
theorem kL_90 : Cond.methodLink RL 90 yX11_to ∈ am_tbl := am_t5 82 rfl rfl
set_option maxRecDepth 20000 in
theorem kX11_259 : Cond.methodLink RX11 259 yX10_leading ∈ am_tbl := am_t5 86 rfl rfl
set_option maxRecDepth 20000 in
theorem kX10_184 : Cond.methodLink RX10 184 yX10_follow ∈ am_tbl := am_t5 90 rfl rfl
set_option maxRecDepth 20000 in
theorem kL_94 : Cond.methodLink RL 94 yX11_cheat ∈ am_tbl := am_t5 94 rfl rfl
set_option maxRecDepth 20000 in
theorem kX11_263 : Cond.methodLink RX11 263 yX6_lookForCheat ∈ am_tbl := am_t5 98 rfl rfl
set_option maxRecDepth 20000 in
theorem kX6_122 : Cond.methodLink RX6 122 yX4_copy ∈ am_tbl := am_t5 102 rfl rfl
set_option maxRecDepth 20000 in
theorem kX6_125 : Cond.methodLink RX6 125 yX4_exchange ∈ am_tbl := am_t5 103 rfl rfl
set_option maxRecDepth 20000 in
theorem kX6_128 : Cond.methodLink RX6 128 yX6_endsBehind ∈ am_tbl := am_t5 104 rfl rfl
set_option maxRecDepth 20000 in
theorem kL_98 : Cond.methodLink RL 98 yX11_odds ∈ am_tbl := am_t5 109 rfl rfl
set_option maxRecDepth 20000 in
theorem kX11_276 : Cond.methodLink RX11 276 yX10_weigh ∈ am_tbl := am_t5 113 rfl rfl
set_option maxRecDepth 20000 in
theorem kX10_187 : Cond.methodLink RX10 187 yX10_commonDivisor ∈ am_tbl := am_t5 117 rfl rfl
set_option maxRecDepth 20000 in
theorem kL_103 : Cond.methodLink RL 103 yX11_sight ∈ am_tbl := am_t5 120 rfl rfl
set_option maxRecDepth 20000 in
theorem kX11_289 : Cond.methodLink RX11 289 yX7_addSight ∈ am_tbl := am_t5 124 rfl rfl
set_option maxRecDepth 20000 in
theorem kL_107 : Cond.methodLink RL 107 yX11_forget ∈ am_tbl := am_t5 128 rfl rfl
set_option maxRecDepth 20000 in
theorem kL_111 : Cond.methodLink RL 111 yX11_fits ∈ am_tbl := am_t5 132 rfl rfl
set_option maxRecDepth 20000 in
theorem kX11_292 : Cond.methodLink RX11 292 yX10_fitting ∈ am_tbl := am_t5 136 rfl rfl
set_option maxRecDepth 20000 in
theorem kX10_196 : Cond.methodLink RX10 196 yX10_wantSights ∈ am_tbl := am_t5 140 rfl rfl
set_option maxRecDepth 20000 in
theorem kX10_207 : Cond.methodLink RX10 207 yX7_stepsOf ∈ am_tbl := am_t5 144 rfl rfl
set_option maxRecDepth 20000 in
theorem kX10_210 : Cond.methodLink RX10 210 yX7_cardOf ∈ am_tbl := am_t5 148 rfl rfl
set_option maxRecDepth 20000 in
theorem kX10_200 : Cond.methodLink RX10 200 yX10_fitsSights ∈ am_tbl := am_t5 152 rfl rfl
set_option maxRecDepth 20000 in
theorem kX10_213 : Cond.methodLink RX10 213 yX10_topOf ∈ am_tbl := am_t5 156 rfl rfl
set_option maxRecDepth 20000 in
theorem kL_115 : Cond.methodLink RL 115 yX11_race ∈ am_tbl := am_t5 160 rfl rfl
set_option maxRecDepth 20000 in
theorem kX11_295 : Cond.methodLink RX11 295 yX6_endsBehind ∈ am_tbl := am_t5 164 rfl rfl
set_option maxRecDepth 20000 in
theorem kL_119 : Cond.methodLink RL 119 yX11_sorted ∈ am_tbl := am_t5 165 rfl rfl
set_option maxRecDepth 20000 in
theorem kX11_298 : Cond.methodLink RX11 298 yX5_putInOrder ∈ am_tbl := am_t5 169 rfl rfl
set_option maxRecDepth 20000 in
theorem kX5_22 : Cond.methodLink RX5 22 yX5_rankCards ∈ am_tbl := am_t5 173 rfl rfl
set_option maxRecDepth 20000 in
theorem kX5_30 : Cond.methodLink RX5 30 yJ7_fill_53178 ∈ am_tbl := am_t5 177 rfl rfl
set_option maxRecDepth 20000 in
theorem kX5_26 : Cond.methodLink RX5 26 yX5_search ∈ am_tbl := am_t5 178 rfl rfl
set_option maxRecDepth 20000 in
theorem kX5_47 : Cond.methodLink RX5 47 yX4_rises ∈ am_tbl := am_t5 182 rfl rfl
set_option maxRecDepth 20000 in
theorem kX5_51 : Cond.methodLink RX5 51 yX5_atLeast ∈ am_tbl := am_t5 183 rfl rfl
set_option maxRecDepth 20000 in
theorem kX5_59 : Cond.methodLink RX5 59 yJ9_abs_0f7a4 ∈ am_tbl := am_t5 187 rfl rfl
set_option maxRecDepth 20000 in
theorem kX5_65 : Cond.methodLink RX5 65 yJ9_max_7cf53 ∈ am_tbl := am_t5 190 rfl rfl
set_option maxRecDepth 20000 in
theorem kX5_55 : Cond.methodLink RX5 55 yX4_reverse ∈ am_tbl := am_t5 191 rfl rfl
set_option maxRecDepth 20000 in
theorem kX11_304 : Cond.methodLink RX11 304 yX5_block ∈ am_tbl := am_t5 192 rfl rfl
set_option maxRecDepth 20000 in
theorem kL_123 : Cond.methodLink RL 123 yX11_evenings ∈ am_tbl := am_t5 196 rfl rfl
set_option maxRecDepth 20000 in
theorem kX11_308 : Cond.methodLink RX11 308 yX0_hold ∈ am_tbl := am_t5 201 rfl rfl
set_option maxRecDepth 20000 in
theorem kX0_37 : Cond.methodLink RX0 37 yX0_shuffle ∈ am_tbl := am_t5 205 rfl rfl
set_option maxRecDepth 20000 in
theorem kX0_73 : Cond.methodLink RX0 73 yX4_exchange ∈ am_tbl := am_t5 212 rfl rfl
set_option maxRecDepth 20000 in
theorem kX0_44 : Cond.methodLink RX0 44 yX4_copy ∈ am_tbl := am_t5 213 rfl rfl
set_option maxRecDepth 20000 in
theorem kX0_47 : Cond.methodLink RX0 47 yX6_goOn ∈ am_tbl := am_t5 214 rfl rfl
set_option maxRecDepth 20000 in
theorem kX0_58 : Cond.methodLink RX0 58 yJ9_max_7cf53 ∈ am_tbl := am_t5 215 rfl rfl
set_option maxRecDepth 20000 in
theorem kL_127 : Cond.methodLink RL 127 yX11_drawn ∈ am_tbl := am_t5 216 rfl rfl
set_option maxRecDepth 20000 in
theorem kL_131 : Cond.methodLink RL 131 yX11_image ∈ am_tbl := am_t5 220 rfl rfl
set_option maxRecDepth 20000 in
theorem kX11_322 : Cond.methodLink RX11 322 yX7_copy ∈ am_tbl := am_t5 224 rfl rfl
set_option maxRecDepth 20000 in
theorem kX7_50 : Cond.methodLink RX7 50 yX7_copyHeaps ∈ am_tbl := am_t5 228 rfl rfl
set_option maxRecDepth 20000 in
theorem kX7_54 : Cond.methodLink RX7 54 arraycopyName ∈ am_tbl := am_t5 229 rfl rfl
set_option maxRecDepth 20000 in
theorem kL_135 : Cond.methodLink RL 135 yX11_back ∈ am_tbl := am_t5 230 rfl rfl
set_option maxRecDepth 20000 in
theorem kL_139 : Cond.methodLink RL 139 yX11_count ∈ am_tbl := am_t5 234 rfl rfl
set_option maxRecDepth 20000 in
theorem kL_143 : Cond.methodLink RL 143 yX11_status ∈ am_tbl := am_t5 238 rfl rfl
set_option maxRecDepth 20000 in
theorem kL_12 : Cond.methodLink RL 12 yX12_init ∈ am_tbl := am_t6 4 rfl rfl
set_option maxRecDepth 20000 in
theorem kX12_18 : Cond.methodLink RX12 18 objectInit ∈ am_tbl := am_t6 7 rfl rfl
set_option maxRecDepth 20000 in
theorem kL_134 : Cond.methodLink RL 134 yX12_image ∈ am_tbl := am_t6 183 rfl rfl
set_option maxRecDepth 20000 in
theorem kX12_102 : Cond.methodLink RX12 102 yX12_lies ∈ am_tbl := am_t6 187 rfl rfl
set_option maxRecDepth 20000 in
theorem kX12_106 : Cond.methodLink RX12 106 yX12_refuses ∈ am_tbl := am_t6 190 rfl rfl
set_option maxRecDepth 20000 in
theorem kX12_14 : Cond.methodLink RX12 14 yX12_good ∈ am_tbl := am_t6 194 rfl rfl
set_option maxRecDepth 20000 in
theorem kL_138 : Cond.methodLink RL 138 yX12_back ∈ am_tbl := am_t6 198 rfl rfl
set_option maxRecDepth 20000 in
theorem kX12_109 : Cond.methodLink RX12 109 yX12_settled ∈ am_tbl := am_t6 202 rfl rfl
set_option maxRecDepth 20000 in
theorem kL_27 : Cond.methodLink RL 27 yX12_heap ∈ am_tbl := am_t6 206 rfl rfl
set_option maxRecDepth 20000 in
theorem kX12_112 : Cond.methodLink RX12 112 yX12_placeOf ∈ am_tbl := am_t6 210 rfl rfl
set_option maxRecDepth 20000 in
theorem kL_32 : Cond.methodLink RL 32 yX12_of ∈ am_tbl := am_t6 213 rfl rfl
set_option maxRecDepth 20000 in
theorem kX12_122 : Cond.methodLink RX12 122 yX12_isHeap ∈ am_tbl := am_t6 217 rfl rfl
set_option maxRecDepth 20000 in
theorem kX12_126 : Cond.methodLink RX12 126 yX12_takes ∈ am_tbl := am_t6 221 rfl rfl
set_option maxRecDepth 20000 in
theorem kX12_316 : Cond.methodLink RX12 316 yX12_manyIn ∈ am_tbl := am_t6 225 rfl rfl
set_option maxRecDepth 20000 in
theorem kX12_280 : Cond.methodLink RX12 280 yX12_cardOf ∈ am_tbl := am_t6 229 rfl rfl
set_option maxRecDepth 20000 in
theorem kX12_136 : Cond.methodLink RX12 136 yX12_hasEnded ∈ am_tbl := am_t6 233 rfl rfl
set_option maxRecDepth 20000 in
theorem kX12_319 : Cond.methodLink RX12 319 yX12_tells ∈ am_tbl := am_t6 237 rfl rfl
set_option maxRecDepth 20000 in
theorem kX12_259 : Cond.methodLink RX12 259 yX12_codeAt ∈ am_tbl := am_t7 1 rfl rfl
set_option maxRecDepth 20000 in
theorem kX12_286 : Cond.methodLink RX12 286 yX12_sumOf ∈ am_tbl := am_t7 5 rfl rfl
set_option maxRecDepth 20000 in
theorem kX12_269 : Cond.methodLink RX12 269 yX12_termOf ∈ am_tbl := am_t7 9 rfl rfl
set_option maxRecDepth 20000 in
theorem kX12_277 : Cond.methodLink RX12 277 yX12_partOf ∈ am_tbl := am_t7 13 rfl rfl
set_option maxRecDepth 20000 in
theorem kX12_215 : Cond.methodLink RX12 215 yX12_sign ∈ am_tbl := am_t7 17 rfl rfl
set_option maxRecDepth 20000 in
theorem kX12_283 : Cond.methodLink RX12 283 yX12_passes0 ∈ am_tbl := am_t7 20 rfl rfl
set_option maxRecDepth 20000 in
theorem kX12_234 : Cond.methodLink RX12 234 yX12_isOfHeap ∈ am_tbl := am_t7 24 rfl rfl
set_option maxRecDepth 20000 in
theorem kX12_292 : Cond.methodLink RX12 292 yX12_heapValue ∈ am_tbl := am_t7 27 rfl rfl
set_option maxRecDepth 20000 in
theorem kX12_273 : Cond.methodLink RX12 273 yX12_bounded ∈ am_tbl := am_t7 31 rfl rfl
set_option maxRecDepth 20000 in
theorem kX12_304 : Cond.methodLink RX12 304 yX12_testOf ∈ am_tbl := am_t7 37 rfl rfl
set_option maxRecDepth 20000 in
theorem kX12_295 : Cond.methodLink RX12 295 yX12_bothOf ∈ am_tbl := am_t7 41 rfl rfl
set_option maxRecDepth 20000 in
theorem kX12_298 : Cond.methodLink RX12 298 yX12_plainOf ∈ am_tbl := am_t7 45 rfl rfl
set_option maxRecDepth 20000 in
theorem kX12_301 : Cond.methodLink RX12 301 yX12_positiveOf ∈ am_tbl := am_t7 49 rfl rfl
set_option maxRecDepth 20000 in
theorem kX12_140 : Cond.methodLink RX12 140 yX12_isStuck ∈ am_tbl := am_t7 53 rfl rfl
set_option maxRecDepth 20000 in
theorem kX12_143 : Cond.methodLink RX12 143 yX12_turnsBy ∈ am_tbl := am_t7 57 rfl rfl
set_option maxRecDepth 20000 in
theorem kX12_323 : Cond.methodLink RX12 323 yX12_cannot ∈ am_tbl := am_t7 61 rfl rfl
set_option maxRecDepth 20000 in
theorem kX12_151 : Cond.methodLink RX12 151 yX12_sinksBy ∈ am_tbl := am_t7 65 rfl rfl
set_option maxRecDepth 20000 in
theorem kX12_147 : Cond.methodLink RX12 147 yX12_near ∈ am_tbl := am_t7 69 rfl rfl
set_option maxRecDepth 20000 in
theorem kL_36 : Cond.methodLink RL 36 yX12_terms ∈ am_tbl := am_t7 74 rfl rfl
set_option maxRecDepth 20000 in
theorem kL_17 : Cond.methodLink RL 17 yX12_feed ∈ am_tbl := am_t7 78 rfl rfl
set_option maxRecDepth 20000 in
theorem kL_22 : Cond.methodLink RL 22 yX12_end ∈ am_tbl := am_t7 82 rfl rfl
set_option maxRecDepth 20000 in
theorem kL_40 : Cond.methodLink RL 40 yX12_law ∈ am_tbl := am_t7 86 rfl rfl
set_option maxRecDepth 20000 in
theorem kX12_246 : Cond.methodLink RX12 246 yX12_readsAs ∈ am_tbl := am_t7 90 rfl rfl
set_option maxRecDepth 20000 in
theorem kX12_243 : Cond.methodLink RX12 243 yX12_reads ∈ am_tbl := am_t7 94 rfl rfl
set_option maxRecDepth 20000 in
theorem kX12_237 : Cond.methodLink RX12 237 yX12_splits ∈ am_tbl := am_t7 98 rfl rfl
set_option maxRecDepth 20000 in
theorem kX12_157 : Cond.methodLink RX12 157 yX12_isSmall ∈ am_tbl := am_t7 102 rfl rfl
set_option maxRecDepth 20000 in
theorem kX12_160 : Cond.methodLink RX12 160 yX12_isDigit ∈ am_tbl := am_t7 105 rfl rfl
set_option maxRecDepth 20000 in
theorem kX12_163 : Cond.methodLink RX12 163 yX12_wordOf ∈ am_tbl := am_t7 108 rfl rfl
set_option maxRecDepth 20000 in
theorem kX12_240 : Cond.methodLink RX12 240 yX12_readOne ∈ am_tbl := am_t7 113 rfl rfl
set_option maxRecDepth 20000 in
theorem kX12_203 : Cond.methodLink RX12 203 yX12_readOrder ∈ am_tbl := am_t7 117 rfl rfl
set_option maxRecDepth 20000 in
theorem kX12_177 : Cond.methodLink RX12 177 yX12_takes0 ∈ am_tbl := am_t7 121 rfl rfl
set_option maxRecDepth 20000 in
theorem kX12_171 : Cond.methodLink RX12 171 yX12_fine ∈ am_tbl := am_t7 125 rfl rfl
set_option maxRecDepth 20000 in
theorem kX12_186 : Cond.methodLink RX12 186 yX12_readSum ∈ am_tbl := am_t7 129 rfl rfl
set_option maxRecDepth 20000 in
theorem kX12_219 : Cond.methodLink RX12 219 yX12_readTerm ∈ am_tbl := am_t7 133 rfl rfl
set_option maxRecDepth 20000 in
theorem kX12_222 : Cond.methodLink RX12 222 yX12_readPart ∈ am_tbl := am_t7 137 rfl rfl
set_option maxRecDepth 20000 in
theorem kX12_180 : Cond.methodLink RX12 180 yX12_faults ∈ am_tbl := am_t7 141 rfl rfl
set_option maxRecDepth 20000 in
theorem kX12_189 : Cond.methodLink RX12 189 yX12_must ∈ am_tbl := am_t7 145 rfl rfl
set_option maxRecDepth 20000 in
theorem kX12_231 : Cond.methodLink RX12 231 yX12_leaf ∈ am_tbl := am_t7 149 rfl rfl
set_option maxRecDepth 20000 in
theorem kX12_195 : Cond.methodLink RX12 195 yX12_mustNumber ∈ am_tbl := am_t7 153 rfl rfl
set_option maxRecDepth 20000 in
theorem kX12_192 : Cond.methodLink RX12 192 yX12_readTest ∈ am_tbl := am_t7 157 rfl rfl
set_option maxRecDepth 20000 in
theorem kX12_209 : Cond.methodLink RX12 209 yX12_readBoth ∈ am_tbl := am_t7 161 rfl rfl
set_option maxRecDepth 20000 in
theorem kX12_212 : Cond.methodLink RX12 212 yX12_readPlain ∈ am_tbl := am_t7 165 rfl rfl
set_option maxRecDepth 20000 in
theorem kX12_206 : Cond.methodLink RX12 206 yX12_readClause ∈ am_tbl := am_t7 169 rfl rfl
set_option maxRecDepth 20000 in
theorem kX12_250 : Cond.methodLink RX12 250 yX12_lays ∈ am_tbl := am_t7 173 rfl rfl
set_option maxRecDepth 20000 in
theorem kL_48 : Cond.methodLink RL 48 yX12_fault ∈ am_tbl := am_t7 177 rfl rfl
set_option maxRecDepth 20000 in
theorem kL_56 : Cond.methodLink RL 56 yX12_force ∈ am_tbl := am_t7 181 rfl rfl
set_option maxRecDepth 20000 in
theorem kL_77 : Cond.methodLink RL 77 yX12_goes ∈ am_tbl := am_t7 185 rfl rfl
set_option maxRecDepth 20000 in
theorem kX12_346 : Cond.methodLink RX12 346 yX12_goesOn ∈ am_tbl := am_t7 189 rfl rfl
set_option maxRecDepth 20000 in
theorem kX12_339 : Cond.methodLink RX12 339 yX12_wasSo ∈ am_tbl := am_t7 193 rfl rfl
set_option maxRecDepth 20000 in
theorem kX12_343 : Cond.methodLink RX12 343 yX12_steps ∈ am_tbl := am_t7 197 rfl rfl
set_option maxRecDepth 20000 in
theorem kX12_327 : Cond.methodLink RX12 327 yX12_turns ∈ am_tbl := am_t7 201 rfl rfl
set_option maxRecDepth 20000 in
theorem kX12_330 : Cond.methodLink RX12 330 yX12_sinks ∈ am_tbl := am_t7 205 rfl rfl
set_option maxRecDepth 20000 in
theorem kL_81 : Cond.methodLink RL 81 yX12_after ∈ am_tbl := am_t7 209 rfl rfl
set_option maxRecDepth 20000 in
theorem kX12_350 : Cond.methodLink RX12 350 yX12_canStep ∈ am_tbl := am_t7 213 rfl rfl
set_option maxRecDepth 20000 in
theorem kL_118 : Cond.methodLink RL 118 yX12_race ∈ am_tbl := am_t7 217 rfl rfl
set_option maxRecDepth 20000 in
theorem kX12_353 : Cond.methodLink RX12 353 yX12_endsBehind ∈ am_tbl := am_t7 221 rfl rfl
set_option maxRecDepth 20000 in
theorem kL_73 : Cond.methodLink RL 73 yX12_undo ∈ am_tbl := am_t7 225 rfl rfl
set_option maxRecDepth 20000 in
theorem kL_60 : Cond.methodLink RL 60 yX12_step ∈ am_tbl := am_t7 229 rfl rfl
set_option maxRecDepth 20000 in
theorem kX12_365 : Cond.methodLink RX12 365 yX12_stepsKept ∈ am_tbl := am_t7 233 rfl rfl
set_option maxRecDepth 20000 in
theorem kX12_356 : Cond.methodLink RX12 356 yX12_keeps ∈ am_tbl := am_t7 237 rfl rfl
set_option maxRecDepth 20000 in
theorem kX12_359 : Cond.methodLink RX12 359 yX12_puts ∈ am_tbl := am_t8 1 rfl rfl
set_option maxRecDepth 20000 in
theorem kX12_362 : Cond.methodLink RX12 362 yX12_lesser ∈ am_tbl := am_t8 5 rfl rfl
set_option maxRecDepth 20000 in
theorem kX12_368 : Cond.methodLink RX12 368 yX12_goodOr ∈ am_tbl := am_t8 8 rfl rfl
set_option maxRecDepth 20000 in
theorem kL_65 : Cond.methodLink RL 65 yX12_swap ∈ am_tbl := am_t8 12 rfl rfl
set_option maxRecDepth 20000 in
theorem kX12_371 : Cond.methodLink RX12 371 yX12_swapsKept ∈ am_tbl := am_t8 16 rfl rfl
set_option maxRecDepth 20000 in
theorem kL_69 : Cond.methodLink RL 69 yX12_cut ∈ am_tbl := am_t8 20 rfl rfl
set_option maxRecDepth 20000 in
theorem kX12_375 : Cond.methodLink RX12 375 yX12_cutsKept ∈ am_tbl := am_t8 24 rfl rfl
set_option maxRecDepth 20000 in
theorem kL_85 : Cond.methodLink RL 85 yX12_longest ∈ am_tbl := am_t8 28 rfl rfl
set_option maxRecDepth 20000 in
theorem kX12_381 : Cond.methodLink RX12 381 yX12_firstOrder ∈ am_tbl := am_t8 32 rfl rfl
set_option maxRecDepth 20000 in
theorem kX12_384 : Cond.methodLink RX12 384 yX12_takesRow ∈ am_tbl := am_t8 36 rfl rfl
set_option maxRecDepth 20000 in
theorem kX12_387 : Cond.methodLink RX12 387 yX12_finds ∈ am_tbl := am_t8 40 rfl rfl
set_option maxRecDepth 20000 in
theorem kX12_390 : Cond.methodLink RX12 390 yX12_nextRow ∈ am_tbl := am_t8 44 rfl rfl
set_option maxRecDepth 20000 in
theorem kL_89 : Cond.methodLink RL 89 yX12_orderly ∈ am_tbl := am_t8 48 rfl rfl
set_option maxRecDepth 20000 in
theorem kX12_393 : Cond.methodLink RX12 393 yX12_rises ∈ am_tbl := am_t8 52 rfl rfl
set_option maxRecDepth 20000 in
theorem kL_93 : Cond.methodLink RL 93 yX12_to ∈ am_tbl := am_t8 56 rfl rfl
set_option maxRecDepth 20000 in
theorem kX12_405 : Cond.methodLink RX12 405 yX12_canAsk ∈ am_tbl := am_t8 60 rfl rfl
set_option maxRecDepth 20000 in
theorem kX12_408 : Cond.methodLink RX12 408 yX12_rowsBy ∈ am_tbl := am_t8 64 rfl rfl
set_option maxRecDepth 20000 in
theorem kX12_396 : Cond.methodLink RX12 396 yX12_firstRow ∈ am_tbl := am_t8 68 rfl rfl
set_option maxRecDepth 20000 in
theorem kX12_399 : Cond.methodLink RX12 399 yX12_fitsAll ∈ am_tbl := am_t8 72 rfl rfl
set_option maxRecDepth 20000 in
theorem kX12_402 : Cond.methodLink RX12 402 yX12_leadsTo ∈ am_tbl := am_t8 76 rfl rfl
set_option maxRecDepth 20000 in
theorem kL_114 : Cond.methodLink RL 114 yX12_fits ∈ am_tbl := am_t8 80 rfl rfl
set_option maxRecDepth 20000 in
theorem kL_106 : Cond.methodLink RL 106 yX12_sight ∈ am_tbl := am_t8 84 rfl rfl
set_option maxRecDepth 20000 in
theorem kL_110 : Cond.methodLink RL 110 yX12_forget ∈ am_tbl := am_t8 88 rfl rfl
set_option maxRecDepth 20000 in
theorem kL_97 : Cond.methodLink RL 97 yX12_cheat ∈ am_tbl := am_t8 92 rfl rfl
set_option maxRecDepth 20000 in
theorem kX12_412 : Cond.methodLink RX12 412 yX12_endsSwapped ∈ am_tbl := am_t8 96 rfl rfl
set_option maxRecDepth 20000 in
theorem kL_102 : Cond.methodLink RL 102 yX12_odds ∈ am_tbl := am_t8 100 rfl rfl
set_option maxRecDepth 20000 in
theorem kX12_421 : Cond.methodLink RX12 421 yX12_countsOrders ∈ am_tbl := am_t8 104 rfl rfl
set_option maxRecDepth 20000 in
theorem kX12_425 : Cond.methodLink RX12 425 yX12_common ∈ am_tbl := am_t8 108 rfl rfl
set_option maxRecDepth 20000 in
theorem kL_122 : Cond.methodLink RL 122 yX12_sorted ∈ am_tbl := am_t8 111 rfl rfl
set_option maxRecDepth 20000 in
theorem kX12_428 : Cond.methodLink RX12 428 yX12_canOrder ∈ am_tbl := am_t8 115 rfl rfl
set_option maxRecDepth 20000 in
theorem kL_52 : Cond.methodLink RL 52 yX12_stopped ∈ am_tbl := am_t8 119 rfl rfl
set_option maxRecDepth 20000 in
theorem kL_44 : Cond.methodLink RL 44 yX12_orders ∈ am_tbl := am_t8 123 rfl rfl
set_option maxRecDepth 20000 in
theorem kX12_434 : Cond.methodLink RX12 434 yX12_runs ∈ am_tbl := am_t8 127 rfl rfl
set_option maxRecDepth 20000 in
theorem kX12_454 : Cond.methodLink RX12 454 yX12_goesAlong ∈ am_tbl := am_t8 131 rfl rfl
set_option maxRecDepth 20000 in
theorem kX12_458 : Cond.methodLink RX12 458 yX12_obeys ∈ am_tbl := am_t8 135 rfl rfl
set_option maxRecDepth 20000 in
theorem kX12_451 : Cond.methodLink RX12 451 yX12_small ∈ am_tbl := am_t8 139 rfl rfl
set_option maxRecDepth 20000 in
theorem kL_126 : Cond.methodLink RL 126 yX12_evenings ∈ am_tbl := am_t8 143 rfl rfl
set_option maxRecDepth 20000 in
theorem kX12_479 : Cond.methodLink RX12 479 yX12_shuffles ∈ am_tbl := am_t8 147 rfl rfl
set_option maxRecDepth 20000 in
theorem kX12_470 : Cond.methodLink RX12 470 yX12_draws ∈ am_tbl := am_t8 151 rfl rfl
set_option maxRecDepth 20000 in
theorem kL_130 : Cond.methodLink RL 130 yX12_drawn ∈ am_tbl := am_t8 158 rfl rfl
set_option maxRecDepth 20000 in
theorem kL_142 : Cond.methodLink RL 142 yX12_count ∈ am_tbl := am_t8 162 rfl rfl
set_option maxRecDepth 20000 in
theorem kL_146 : Cond.methodLink RL 146 yX12_status ∈ am_tbl := am_t8 166 rfl rfl
set_option maxRecDepth 20000 in
theorem kX11_9 : Cond.methodLinkNest RX11 9 yX8_init "TopSays" ∈ am_tbl := am_t1 32 rfl rfl
set_option maxRecDepth 20000 in
theorem kX7_37 : Cond.methodLinkNest RX7 37 yX4_init "TopSays" ∈ am_tbl := am_t1 68 rfl rfl
set_option maxRecDepth 20000 in
theorem kX2_21 : Cond.methodLinkNest RX2 21 yX4_init "TopSays" ∈ am_tbl := am_t1 164 rfl rfl
set_option maxRecDepth 20000 in
theorem kX10_17 : Cond.methodLinkNest RX10 17 yX4_init "TopSays" ∈ am_tbl := am_t2 94 rfl rfl
set_option maxRecDepth 20000 in
theorem kX11_76 : Cond.methodLinkNest RX11 76 yX5_init "TopSays" ∈ am_tbl := am_t2 161 rfl rfl
set_option maxRecDepth 20000 in
theorem kX0_11 : Cond.methodLinkNest RX0 11 yX4_init "TopSays" ∈ am_tbl := am_t2 186 rfl rfl
set_option maxRecDepth 20000 in
theorem kX11_92 : Cond.methodLinkNest RX11 92 yX4_init "TopSays" ∈ am_tbl := am_t2 211 rfl rfl
set_option maxRecDepth 20000 in
theorem fX8_9 : am_F RX8 9 8 0 := ⟨RX8, TX8, 5, rfl, by decide, KX8.2.1, am_t1 36 rfl rfl⟩
set_option maxRecDepth 20000 in
theorem pX8_9 : am_Fw RX8 9 8 0 true (tyX8 0) := ⟨RX8, TX8, 5, tyX8, KX8, by decide, am_t1 36 rfl rfl, rfl, rfl, rfl⟩
set_option maxRecDepth 20000 in
theorem fX11_129 : am_F RX11 129 8 0 := ⟨RX8, TX8, 5, rfl, by decide, KX8.2.1, am_t1 37 rfl rfl⟩
set_option maxRecDepth 20000 in
theorem pX11_129 : am_Fw RX11 129 8 0 true (tyX8 0) := ⟨RX8, TX8, 5, tyX8, KX8, by decide, am_t1 37 rfl rfl, rfl, rfl, rfl⟩
set_option maxRecDepth 20000 in
theorem fX11_108 : am_F RX11 108 8 1 := ⟨RX8, TX8, 5, rfl, by decide, KX8.2.1, am_t1 38 rfl rfl⟩
set_option maxRecDepth 20000 in
theorem pX11_108 : am_Fw RX11 108 8 1 false (tyX8 1) := ⟨RX8, TX8, 5, tyX8, KX8, by decide, am_t1 38 rfl rfl, rfl, rfl, rfl⟩
set_option maxRecDepth 20000 in
theorem fX8_15 : am_F RX8 15 8 1 := ⟨RX8, TX8, 5, rfl, by decide, KX8.2.1, am_t1 39 rfl rfl⟩
set_option maxRecDepth 20000 in
theorem pX8_15 : am_Fw RX8 15 8 1 false (tyX8 1) := ⟨RX8, TX8, 5, tyX8, KX8, by decide, am_t1 39 rfl rfl, rfl, rfl, rfl⟩
set_option maxRecDepth 20000 in
theorem fX3_45 : am_F RX3 45 8 2 := ⟨RX8, TX8, 5, rfl, by decide, KX8.2.1, am_t1 40 rfl rfl⟩
set_option maxRecDepth 20000 in
theorem pX3_45 : am_Fw RX3 45 8 2 false (tyX8 2) := ⟨RX8, TX8, 5, tyX8, KX8, by decide, am_t1 40 rfl rfl, rfl, rfl, rfl⟩
set_option maxRecDepth 20000 in
theorem fX8_28 : am_F RX8 28 8 2 := ⟨RX8, TX8, 5, rfl, by decide, KX8.2.1, am_t1 41 rfl rfl⟩
set_option maxRecDepth 20000 in
theorem pX8_28 : am_Fw RX8 28 8 2 false (tyX8 2) := ⟨RX8, TX8, 5, tyX8, KX8, by decide, am_t1 41 rfl rfl, rfl, rfl, rfl⟩
set_option maxRecDepth 20000 in
theorem fX3_52 : am_F RX3 52 8 3 := ⟨RX8, TX8, 5, rfl, by decide, KX8.2.1, am_t1 42 rfl rfl⟩
set_option maxRecDepth 20000 in
theorem pX3_52 : am_Fw RX3 52 8 3 false (tyX8 3) := ⟨RX8, TX8, 5, tyX8, KX8, by decide, am_t1 42 rfl rfl, rfl, rfl, rfl⟩
set_option maxRecDepth 20000 in
theorem fX8_25 : am_F RX8 25 8 3 := ⟨RX8, TX8, 5, rfl, by decide, KX8.2.1, am_t1 43 rfl rfl⟩
set_option maxRecDepth 20000 in
theorem pX8_25 : am_Fw RX8 25 8 3 false (tyX8 3) := ⟨RX8, TX8, 5, tyX8, KX8, by decide, am_t1 43 rfl rfl, rfl, rfl, rfl⟩
set_option maxRecDepth 20000 in
theorem fX8_19 : am_F RX8 19 8 4 := ⟨RX8, TX8, 5, rfl, by decide, KX8.2.1, am_t1 44 rfl rfl⟩
set_option maxRecDepth 20000 in
theorem pX8_19 : am_Fw RX8 19 8 4 false (tyX8 4) := ⟨RX8, TX8, 5, tyX8, KX8, by decide, am_t1 44 rfl rfl, rfl, rfl, rfl⟩
set_option maxRecDepth 20000 in
theorem fX4_9 : am_F RX4 9 4 0 := ⟨RX4, TX4, 5, rfl, by decide, KX4.2.1, am_t1 72 rfl rfl⟩
set_option maxRecDepth 20000 in
theorem pX4_9 : am_Fw RX4 9 4 0 true (tyX4 0) := ⟨RX4, TX4, 5, tyX4, KX4, by decide, am_t1 72 rfl rfl, rfl, rfl, rfl⟩
set_option maxRecDepth 20000 in
theorem fX10_115 : am_F RX10 115 4 0 := ⟨RX4, TX4, 5, rfl, by decide, KX4.2.1, am_t1 73 rfl rfl⟩
set_option maxRecDepth 20000 in
theorem pX10_115 : am_Fw RX10 115 4 0 true (tyX4 0) := ⟨RX4, TX4, 5, tyX4, KX4, by decide, am_t1 73 rfl rfl, rfl, rfl, rfl⟩
set_option maxRecDepth 20000 in
theorem fX5_41 : am_F RX5 41 4 0 := ⟨RX4, TX4, 5, rfl, by decide, KX4.2.1, am_t1 74 rfl rfl⟩
set_option maxRecDepth 20000 in
theorem pX5_41 : am_Fw RX5 41 4 0 true (tyX4 0) := ⟨RX4, TX4, 5, tyX4, KX4, by decide, am_t1 74 rfl rfl, rfl, rfl, rfl⟩
set_option maxRecDepth 20000 in
theorem fX7_74 : am_F RX7 74 4 0 := ⟨RX4, TX4, 5, rfl, by decide, KX4.2.1, am_t1 75 rfl rfl⟩
set_option maxRecDepth 20000 in
theorem pX7_74 : am_Fw RX7 74 4 0 true (tyX4 0) := ⟨RX4, TX4, 5, tyX4, KX4, by decide, am_t1 75 rfl rfl, rfl, rfl, rfl⟩
set_option maxRecDepth 20000 in
theorem fX4_25 : am_F RX4 25 4 1 := ⟨RX4, TX4, 5, rfl, by decide, KX4.2.1, am_t1 76 rfl rfl⟩
set_option maxRecDepth 20000 in
theorem pX4_25 : am_Fw RX4 25 4 1 false (tyX4 1) := ⟨RX4, TX4, 5, tyX4, KX4, by decide, am_t1 76 rfl rfl, rfl, rfl, rfl⟩
set_option maxRecDepth 20000 in
theorem fX10_52 : am_F RX10 52 4 1 := ⟨RX4, TX4, 5, rfl, by decide, KX4.2.1, am_t1 77 rfl rfl⟩
set_option maxRecDepth 20000 in
theorem pX10_52 : am_Fw RX10 52 4 1 false (tyX4 1) := ⟨RX4, TX4, 5, tyX4, KX4, by decide, am_t1 77 rfl rfl, rfl, rfl, rfl⟩
set_option maxRecDepth 20000 in
theorem fX6_59 : am_F RX6 59 4 1 := ⟨RX4, TX4, 5, rfl, by decide, KX4.2.1, am_t1 78 rfl rfl⟩
set_option maxRecDepth 20000 in
theorem pX6_59 : am_Fw RX6 59 4 1 false (tyX4 1) := ⟨RX4, TX4, 5, tyX4, KX4, by decide, am_t1 78 rfl rfl, rfl, rfl, rfl⟩
set_option maxRecDepth 20000 in
theorem fX0_64 : am_F RX0 64 4 1 := ⟨RX4, TX4, 5, rfl, by decide, KX4.2.1, am_t1 79 rfl rfl⟩
set_option maxRecDepth 20000 in
theorem pX0_64 : am_Fw RX0 64 4 1 false (tyX4 1) := ⟨RX4, TX4, 5, tyX4, KX4, by decide, am_t1 79 rfl rfl, rfl, rfl, rfl⟩
set_option maxRecDepth 20000 in
theorem fX5_36 : am_F RX5 36 4 1 := ⟨RX4, TX4, 5, rfl, by decide, KX4.2.1, am_t1 80 rfl rfl⟩
set_option maxRecDepth 20000 in
theorem pX5_36 : am_Fw RX5 36 4 1 false (tyX4 1) := ⟨RX4, TX4, 5, tyX4, KX4, by decide, am_t1 80 rfl rfl, rfl, rfl, rfl⟩
set_option maxRecDepth 20000 in
theorem fX1_78 : am_F RX1 78 4 1 := ⟨RX4, TX4, 5, rfl, by decide, KX4.2.1, am_t1 81 rfl rfl⟩
set_option maxRecDepth 20000 in
theorem pX1_78 : am_Fw RX1 78 4 1 false (tyX4 1) := ⟨RX4, TX4, 5, tyX4, KX4, by decide, am_t1 81 rfl rfl, rfl, rfl, rfl⟩
set_option maxRecDepth 20000 in
theorem fX11_144 : am_F RX11 144 4 1 := ⟨RX4, TX4, 5, rfl, by decide, KX4.2.1, am_t1 82 rfl rfl⟩
set_option maxRecDepth 20000 in
theorem pX11_144 : am_Fw RX11 144 4 1 false (tyX4 1) := ⟨RX4, TX4, 5, tyX4, KX4, by decide, am_t1 82 rfl rfl, rfl, rfl, rfl⟩
set_option maxRecDepth 20000 in
theorem fX7_73 : am_F RX7 73 4 1 := ⟨RX4, TX4, 5, rfl, by decide, KX4.2.1, am_t1 83 rfl rfl⟩
set_option maxRecDepth 20000 in
theorem pX7_73 : am_Fw RX7 73 4 1 false (tyX4 1) := ⟨RX4, TX4, 5, tyX4, KX4, by decide, am_t1 83 rfl rfl, rfl, rfl, rfl⟩
set_option maxRecDepth 20000 in
theorem fX4_28 : am_F RX4 28 4 2 := ⟨RX4, TX4, 5, rfl, by decide, KX4.2.1, am_t1 84 rfl rfl⟩
set_option maxRecDepth 20000 in
theorem pX4_28 : am_Fw RX4 28 4 2 false (tyX4 2) := ⟨RX4, TX4, 5, tyX4, KX4, by decide, am_t1 84 rfl rfl, rfl, rfl, rfl⟩
set_option maxRecDepth 20000 in
theorem fX1_61 : am_F RX1 61 4 2 := ⟨RX4, TX4, 5, rfl, by decide, KX4.2.1, am_t1 85 rfl rfl⟩
set_option maxRecDepth 20000 in
theorem pX1_61 : am_Fw RX1 61 4 2 false (tyX4 2) := ⟨RX4, TX4, 5, tyX4, KX4, by decide, am_t1 85 rfl rfl, rfl, rfl, rfl⟩
set_option maxRecDepth 20000 in
theorem fX10_72 : am_F RX10 72 4 2 := ⟨RX4, TX4, 5, rfl, by decide, KX4.2.1, am_t1 86 rfl rfl⟩
set_option maxRecDepth 20000 in
theorem pX10_72 : am_Fw RX10 72 4 2 false (tyX4 2) := ⟨RX4, TX4, 5, tyX4, KX4, by decide, am_t1 86 rfl rfl, rfl, rfl, rfl⟩
set_option maxRecDepth 20000 in
theorem fX6_76 : am_F RX6 76 4 2 := ⟨RX4, TX4, 5, rfl, by decide, KX4.2.1, am_t1 87 rfl rfl⟩
set_option maxRecDepth 20000 in
theorem pX6_76 : am_Fw RX6 76 4 2 false (tyX4 2) := ⟨RX4, TX4, 5, tyX4, KX4, by decide, am_t1 87 rfl rfl, rfl, rfl, rfl⟩
set_option maxRecDepth 20000 in
theorem fX11_145 : am_F RX11 145 4 2 := ⟨RX4, TX4, 5, rfl, by decide, KX4.2.1, am_t1 88 rfl rfl⟩
set_option maxRecDepth 20000 in
theorem pX11_145 : am_Fw RX11 145 4 2 false (tyX4 2) := ⟨RX4, TX4, 5, tyX4, KX4, by decide, am_t1 88 rfl rfl, rfl, rfl, rfl⟩
set_option maxRecDepth 20000 in
theorem fX7_77 : am_F RX7 77 4 2 := ⟨RX4, TX4, 5, rfl, by decide, KX4.2.1, am_t1 89 rfl rfl⟩
set_option maxRecDepth 20000 in
theorem pX7_77 : am_Fw RX7 77 4 2 false (tyX4 2) := ⟨RX4, TX4, 5, tyX4, KX4, by decide, am_t1 89 rfl rfl, rfl, rfl, rfl⟩
set_option maxRecDepth 20000 in
theorem fX6_29 : am_F RX6 29 4 3 := ⟨RX4, TX4, 5, rfl, by decide, KX4.2.1, am_t1 90 rfl rfl⟩
set_option maxRecDepth 20000 in
theorem pX6_29 : am_Fw RX6 29 4 3 false (tyX4 3) := ⟨RX4, TX4, 5, tyX4, KX4, by decide, am_t1 90 rfl rfl, rfl, rfl, rfl⟩
set_option maxRecDepth 20000 in
theorem fX4_31 : am_F RX4 31 4 3 := ⟨RX4, TX4, 5, rfl, by decide, KX4.2.1, am_t1 91 rfl rfl⟩
set_option maxRecDepth 20000 in
theorem pX4_31 : am_Fw RX4 31 4 3 false (tyX4 3) := ⟨RX4, TX4, 5, tyX4, KX4, by decide, am_t1 91 rfl rfl, rfl, rfl, rfl⟩
set_option maxRecDepth 20000 in
theorem fX0_41 : am_F RX0 41 4 3 := ⟨RX4, TX4, 5, rfl, by decide, KX4.2.1, am_t1 92 rfl rfl⟩
set_option maxRecDepth 20000 in
theorem pX0_41 : am_Fw RX0 41 4 3 false (tyX4 3) := ⟨RX4, TX4, 5, tyX4, KX4, by decide, am_t1 92 rfl rfl, rfl, rfl, rfl⟩
set_option maxRecDepth 20000 in
theorem fX10_69 : am_F RX10 69 4 3 := ⟨RX4, TX4, 5, rfl, by decide, KX4.2.1, am_t1 93 rfl rfl⟩
set_option maxRecDepth 20000 in
theorem pX10_69 : am_Fw RX10 69 4 3 false (tyX4 3) := ⟨RX4, TX4, 5, tyX4, KX4, by decide, am_t1 93 rfl rfl, rfl, rfl, rfl⟩
set_option maxRecDepth 20000 in
theorem fX11_148 : am_F RX11 148 4 3 := ⟨RX4, TX4, 5, rfl, by decide, KX4.2.1, am_t1 94 rfl rfl⟩
set_option maxRecDepth 20000 in
theorem pX11_148 : am_Fw RX11 148 4 3 false (tyX4 3) := ⟨RX4, TX4, 5, tyX4, KX4, by decide, am_t1 94 rfl rfl, rfl, rfl, rfl⟩
set_option maxRecDepth 20000 in
theorem fX7_80 : am_F RX7 80 4 3 := ⟨RX4, TX4, 5, rfl, by decide, KX4.2.1, am_t1 95 rfl rfl⟩
set_option maxRecDepth 20000 in
theorem pX7_80 : am_Fw RX7 80 4 3 false (tyX4 3) := ⟨RX4, TX4, 5, tyX4, KX4, by decide, am_t1 95 rfl rfl, rfl, rfl, rfl⟩
set_option maxRecDepth 20000 in
theorem fX4_15 : am_F RX4 15 4 4 := ⟨RX4, TX4, 5, rfl, by decide, KX4.2.1, am_t1 96 rfl rfl⟩
set_option maxRecDepth 20000 in
theorem pX4_15 : am_Fw RX4 15 4 4 false (tyX4 4) := ⟨RX4, TX4, 5, tyX4, KX4, by decide, am_t1 96 rfl rfl, rfl, rfl, rfl⟩
set_option maxRecDepth 20000 in
theorem fX10_92 : am_F RX10 92 4 4 := ⟨RX4, TX4, 5, rfl, by decide, KX4.2.1, am_t1 97 rfl rfl⟩
set_option maxRecDepth 20000 in
theorem pX10_92 : am_Fw RX10 92 4 4 false (tyX4 4) := ⟨RX4, TX4, 5, tyX4, KX4, by decide, am_t1 97 rfl rfl, rfl, rfl, rfl⟩
set_option maxRecDepth 20000 in
theorem fX6_62 : am_F RX6 62 4 4 := ⟨RX4, TX4, 5, rfl, by decide, KX4.2.1, am_t1 98 rfl rfl⟩
set_option maxRecDepth 20000 in
theorem pX6_62 : am_Fw RX6 62 4 4 false (tyX4 4) := ⟨RX4, TX4, 5, tyX4, KX4, by decide, am_t1 98 rfl rfl, rfl, rfl, rfl⟩
set_option maxRecDepth 20000 in
theorem fX2_42 : am_F RX2 42 4 4 := ⟨RX4, TX4, 5, rfl, by decide, KX4.2.1, am_t1 99 rfl rfl⟩
set_option maxRecDepth 20000 in
theorem pX2_42 : am_Fw RX2 42 4 4 false (tyX4 4) := ⟨RX4, TX4, 5, tyX4, KX4, by decide, am_t1 99 rfl rfl, rfl, rfl, rfl⟩
set_option maxRecDepth 20000 in
theorem fX7_83 : am_F RX7 83 4 4 := ⟨RX4, TX4, 5, rfl, by decide, KX4.2.1, am_t1 100 rfl rfl⟩
set_option maxRecDepth 20000 in
theorem pX7_83 : am_Fw RX7 83 4 4 false (tyX4 4) := ⟨RX4, TX4, 5, tyX4, KX4, by decide, am_t1 100 rfl rfl, rfl, rfl, rfl⟩
set_option maxRecDepth 20000 in
theorem fX7_38 : am_F RX7 38 7 0 := ⟨RX7, TX7, 10, rfl, by decide, KX7.2.1, am_t1 113 rfl rfl⟩
set_option maxRecDepth 20000 in
theorem pX7_38 : am_Fw RX7 38 7 0 false (tyX7 0) := ⟨RX7, TX7, 10, tyX7, KX7, by decide, am_t1 113 rfl rfl, rfl, rfl, rfl⟩
set_option maxRecDepth 20000 in
theorem fX11_115 : am_F RX11 115 7 0 := ⟨RX7, TX7, 10, rfl, by decide, KX7.2.1, am_t1 114 rfl rfl⟩
set_option maxRecDepth 20000 in
theorem pX11_115 : am_Fw RX11 115 7 0 false (tyX7 0) := ⟨RX7, TX7, 10, tyX7, KX7, by decide, am_t1 114 rfl rfl, rfl, rfl, rfl⟩
set_option maxRecDepth 20000 in
theorem fX1_136 : am_F RX1 136 7 0 := ⟨RX7, TX7, 10, rfl, by decide, KX7.2.1, am_t1 115 rfl rfl⟩
set_option maxRecDepth 20000 in
theorem pX1_136 : am_Fw RX1 136 7 0 false (tyX7 0) := ⟨RX7, TX7, 10, tyX7, KX7, by decide, am_t1 115 rfl rfl, rfl, rfl, rfl⟩
set_option maxRecDepth 20000 in
theorem fX7_41 : am_F RX7 41 7 1 := ⟨RX7, TX7, 10, rfl, by decide, KX7.2.1, am_t1 116 rfl rfl⟩
set_option maxRecDepth 20000 in
theorem pX7_41 : am_Fw RX7 41 7 1 false (tyX7 1) := ⟨RX7, TX7, 10, tyX7, KX7, by decide, am_t1 116 rfl rfl, rfl, rfl, rfl⟩
set_option maxRecDepth 20000 in
theorem fX10_204 : am_F RX10 204 7 1 := ⟨RX7, TX7, 10, rfl, by decide, KX7.2.1, am_t1 117 rfl rfl⟩
set_option maxRecDepth 20000 in
theorem pX10_204 : am_Fw RX10 204 7 1 false (tyX7 1) := ⟨RX7, TX7, 10, tyX7, KX7, by decide, am_t1 117 rfl rfl, rfl, rfl, rfl⟩
set_option maxRecDepth 20000 in
theorem fX11_286 : am_F RX11 286 7 1 := ⟨RX7, TX7, 10, rfl, by decide, KX7.2.1, am_t1 118 rfl rfl⟩
set_option maxRecDepth 20000 in
theorem pX11_286 : am_Fw RX11 286 7 1 false (tyX7 1) := ⟨RX7, TX7, 10, tyX7, KX7, by decide, am_t1 118 rfl rfl, rfl, rfl, rfl⟩
set_option maxRecDepth 20000 in
theorem fX7_44 : am_F RX7 44 7 2 := ⟨RX7, TX7, 10, rfl, by decide, KX7.2.1, am_t1 119 rfl rfl⟩
set_option maxRecDepth 20000 in
theorem pX7_44 : am_Fw RX7 44 7 2 false (tyX7 2) := ⟨RX7, TX7, 10, tyX7, KX7, by decide, am_t1 119 rfl rfl, rfl, rfl, rfl⟩
set_option maxRecDepth 20000 in
theorem fX11_173 : am_F RX11 173 7 2 := ⟨RX7, TX7, 10, rfl, by decide, KX7.2.1, am_t1 120 rfl rfl⟩
set_option maxRecDepth 20000 in
theorem pX11_173 : am_Fw RX11 173 7 2 false (tyX7 2) := ⟨RX7, TX7, 10, tyX7, KX7, by decide, am_t1 120 rfl rfl, rfl, rfl, rfl⟩
set_option maxRecDepth 20000 in
theorem fX7_9 : am_F RX7 9 7 3 := ⟨RX7, TX7, 10, rfl, by decide, KX7.2.1, am_t1 121 rfl rfl⟩
set_option maxRecDepth 20000 in
theorem pX7_9 : am_Fw RX7 9 7 3 false (tyX7 3) := ⟨RX7, TX7, 10, tyX7, KX7, by decide, am_t1 121 rfl rfl, rfl, rfl, rfl⟩
set_option maxRecDepth 20000 in
theorem fX11_200 : am_F RX11 200 7 3 := ⟨RX7, TX7, 10, rfl, by decide, KX7.2.1, am_t1 122 rfl rfl⟩
set_option maxRecDepth 20000 in
theorem pX11_200 : am_Fw RX11 200 7 3 false (tyX7 3) := ⟨RX7, TX7, 10, tyX7, KX7, by decide, am_t1 122 rfl rfl, rfl, rfl, rfl⟩
set_option maxRecDepth 20000 in
theorem fX7_47 : am_F RX7 47 7 4 := ⟨RX7, TX7, 10, rfl, by decide, KX7.2.1, am_t1 123 rfl rfl⟩
set_option maxRecDepth 20000 in
theorem pX7_47 : am_Fw RX7 47 7 4 false (tyX7 4) := ⟨RX7, TX7, 10, tyX7, KX7, by decide, am_t1 123 rfl rfl, rfl, rfl, rfl⟩
set_option maxRecDepth 20000 in
theorem fX10_91 : am_F RX10 91 7 4 := ⟨RX7, TX7, 10, rfl, by decide, KX7.2.1, am_t1 124 rfl rfl⟩
set_option maxRecDepth 20000 in
theorem pX10_91 : am_Fw RX10 91 7 4 false (tyX7 4) := ⟨RX7, TX7, 10, tyX7, KX7, by decide, am_t1 124 rfl rfl, rfl, rfl, rfl⟩
set_option maxRecDepth 20000 in
theorem fX6_65 : am_F RX6 65 7 4 := ⟨RX7, TX7, 10, rfl, by decide, KX7.2.1, am_t1 125 rfl rfl⟩
set_option maxRecDepth 20000 in
theorem pX6_65 : am_Fw RX6 65 7 4 false (tyX7 4) := ⟨RX7, TX7, 10, tyX7, KX7, by decide, am_t1 125 rfl rfl, rfl, rfl, rfl⟩
set_option maxRecDepth 20000 in
theorem fX11_167 : am_F RX11 167 7 4 := ⟨RX7, TX7, 10, rfl, by decide, KX7.2.1, am_t1 126 rfl rfl⟩
set_option maxRecDepth 20000 in
theorem pX11_167 : am_Fw RX11 167 7 4 false (tyX7 4) := ⟨RX7, TX7, 10, tyX7, KX7, by decide, am_t1 126 rfl rfl, rfl, rfl, rfl⟩
set_option maxRecDepth 20000 in
theorem fX7_15 : am_F RX7 15 7 5 := ⟨RX7, TX7, 10, rfl, by decide, KX7.2.1, am_t1 127 rfl rfl⟩
set_option maxRecDepth 20000 in
theorem pX7_15 : am_Fw RX7 15 7 5 false (tyX7 5) := ⟨RX7, TX7, 10, tyX7, KX7, by decide, am_t1 127 rfl rfl, rfl, rfl, rfl⟩
set_option maxRecDepth 20000 in
theorem fX6_85 : am_F RX6 85 7 5 := ⟨RX7, TX7, 10, rfl, by decide, KX7.2.1, am_t1 128 rfl rfl⟩
set_option maxRecDepth 20000 in
theorem pX6_85 : am_Fw RX6 85 7 5 false (tyX7 5) := ⟨RX7, TX7, 10, tyX7, KX7, by decide, am_t1 128 rfl rfl, rfl, rfl, rfl⟩
set_option maxRecDepth 20000 in
theorem fX11_170 : am_F RX11 170 7 5 := ⟨RX7, TX7, 10, rfl, by decide, KX7.2.1, am_t1 129 rfl rfl⟩
set_option maxRecDepth 20000 in
theorem pX11_170 : am_Fw RX11 170 7 5 false (tyX7 5) := ⟨RX7, TX7, 10, tyX7, KX7, by decide, am_t1 129 rfl rfl, rfl, rfl, rfl⟩
set_option maxRecDepth 20000 in
theorem fX10_155 : am_F RX10 155 7 5 := ⟨RX7, TX7, 10, rfl, by decide, KX7.2.1, am_t1 130 rfl rfl⟩
set_option maxRecDepth 20000 in
theorem pX10_155 : am_Fw RX10 155 7 5 false (tyX7 5) := ⟨RX7, TX7, 10, tyX7, KX7, by decide, am_t1 130 rfl rfl, rfl, rfl, rfl⟩
set_option maxRecDepth 20000 in
theorem fX7_20 : am_F RX7 20 7 6 := ⟨RX7, TX7, 10, rfl, by decide, KX7.2.1, am_t1 131 rfl rfl⟩
set_option maxRecDepth 20000 in
theorem pX7_20 : am_Fw RX7 20 7 6 true (tyX7 6) := ⟨RX7, TX7, 10, tyX7, KX7, by decide, am_t1 131 rfl rfl, rfl, rfl, rfl⟩
set_option maxRecDepth 20000 in
theorem fX7_24 : am_F RX7 24 7 7 := ⟨RX7, TX7, 10, rfl, by decide, KX7.2.1, am_t1 132 rfl rfl⟩
set_option maxRecDepth 20000 in
theorem pX7_24 : am_Fw RX7 24 7 7 true (tyX7 7) := ⟨RX7, TX7, 10, tyX7, KX7, by decide, am_t1 132 rfl rfl, rfl, rfl, rfl⟩
set_option maxRecDepth 20000 in
theorem fX7_28 : am_F RX7 28 7 8 := ⟨RX7, TX7, 10, rfl, by decide, KX7.2.1, am_t1 133 rfl rfl⟩
set_option maxRecDepth 20000 in
theorem pX7_28 : am_Fw RX7 28 7 8 true (tyX7 8) := ⟨RX7, TX7, 10, tyX7, KX7, by decide, am_t1 133 rfl rfl, rfl, rfl, rfl⟩
set_option maxRecDepth 20000 in
theorem fX7_33 : am_F RX7 33 7 9 := ⟨RX7, TX7, 10, rfl, by decide, KX7.2.1, am_t1 134 rfl rfl⟩
set_option maxRecDepth 20000 in
theorem pX7_33 : am_Fw RX7 33 7 9 true (tyX7 9) := ⟨RX7, TX7, 10, tyX7, KX7, by decide, am_t1 134 rfl rfl, rfl, rfl, rfl⟩
set_option maxRecDepth 20000 in
theorem fX2_22 : am_F RX2 22 2 0 := ⟨RX2, TX2, 4, rfl, by decide, KX2.2.1, am_t1 165 rfl rfl⟩
set_option maxRecDepth 20000 in
theorem pX2_22 : am_Fw RX2 22 2 0 false (tyX2 0) := ⟨RX2, TX2, 4, tyX2, KX2, by decide, am_t1 165 rfl rfl, rfl, rfl, rfl⟩
set_option maxRecDepth 20000 in
theorem fX11_214 : am_F RX11 214 2 0 := ⟨RX2, TX2, 4, rfl, by decide, KX2.2.1, am_t1 166 rfl rfl⟩
set_option maxRecDepth 20000 in
theorem pX11_214 : am_Fw RX11 214 2 0 false (tyX2 0) := ⟨RX2, TX2, 4, tyX2, KX2, by decide, am_t1 166 rfl rfl, rfl, rfl, rfl⟩
set_option maxRecDepth 20000 in
theorem fX2_26 : am_F RX2 26 2 1 := ⟨RX2, TX2, 4, rfl, by decide, KX2.2.1, am_t1 167 rfl rfl⟩
set_option maxRecDepth 20000 in
theorem pX2_26 : am_Fw RX2 26 2 1 false (tyX2 1) := ⟨RX2, TX2, 4, tyX2, KX2, by decide, am_t1 167 rfl rfl, rfl, rfl, rfl⟩
set_option maxRecDepth 20000 in
theorem fX2_13 : am_F RX2 13 2 2 := ⟨RX2, TX2, 4, rfl, by decide, KX2.2.1, am_t1 168 rfl rfl⟩
set_option maxRecDepth 20000 in
theorem pX2_13 : am_Fw RX2 13 2 2 true (tyX2 2) := ⟨RX2, TX2, 4, tyX2, KX2, by decide, am_t1 168 rfl rfl, rfl, rfl, rfl⟩
set_option maxRecDepth 20000 in
theorem fX2_17 : am_F RX2 17 2 3 := ⟨RX2, TX2, 4, rfl, by decide, KX2.2.1, am_t1 169 rfl rfl⟩
set_option maxRecDepth 20000 in
theorem pX2_17 : am_Fw RX2 17 2 3 true (tyX2 3) := ⟨RX2, TX2, 4, tyX2, KX2, by decide, am_t1 169 rfl rfl, rfl, rfl, rfl⟩
set_option maxRecDepth 20000 in
theorem fX9_13 : am_F RX9 13 9 0 := ⟨RX9, TX9, 9, rfl, by decide, KX9.2.1, am_t1 192 rfl rfl⟩
set_option maxRecDepth 20000 in
theorem pX9_13 : am_Fw RX9 13 9 0 false (tyX9 0) := ⟨RX9, TX9, 9, tyX9, KX9, by decide, am_t1 192 rfl rfl, rfl, rfl, rfl⟩
set_option maxRecDepth 20000 in
theorem fX9_32 : am_F RX9 32 9 1 := ⟨RX9, TX9, 9, rfl, by decide, KX9.2.1, am_t1 193 rfl rfl⟩
set_option maxRecDepth 20000 in
theorem pX9_32 : am_Fw RX9 32 9 1 false (tyX9 1) := ⟨RX9, TX9, 9, tyX9, KX9, by decide, am_t1 193 rfl rfl, rfl, rfl, rfl⟩
set_option maxRecDepth 20000 in
theorem fX9_45 : am_F RX9 45 9 2 := ⟨RX9, TX9, 9, rfl, by decide, KX9.2.1, am_t1 194 rfl rfl⟩
set_option maxRecDepth 20000 in
theorem pX9_45 : am_Fw RX9 45 9 2 false (tyX9 2) := ⟨RX9, TX9, 9, tyX9, KX9, by decide, am_t1 194 rfl rfl, rfl, rfl, rfl⟩
set_option maxRecDepth 20000 in
theorem fX1_99 : am_F RX1 99 9 2 := ⟨RX9, TX9, 9, rfl, by decide, KX9.2.1, am_t1 195 rfl rfl⟩
set_option maxRecDepth 20000 in
theorem pX1_99 : am_Fw RX1 99 9 2 false (tyX9 2) := ⟨RX9, TX9, 9, tyX9, KX9, by decide, am_t1 195 rfl rfl, rfl, rfl, rfl⟩
set_option maxRecDepth 20000 in
theorem fX9_17 : am_F RX9 17 9 3 := ⟨RX9, TX9, 9, rfl, by decide, KX9.2.1, am_t1 196 rfl rfl⟩
set_option maxRecDepth 20000 in
theorem pX9_17 : am_Fw RX9 17 9 3 false (tyX9 3) := ⟨RX9, TX9, 9, tyX9, KX9, by decide, am_t1 196 rfl rfl, rfl, rfl, rfl⟩
set_option maxRecDepth 20000 in
theorem fX9_20 : am_F RX9 20 9 4 := ⟨RX9, TX9, 9, rfl, by decide, KX9.2.1, am_t1 197 rfl rfl⟩
set_option maxRecDepth 20000 in
theorem pX9_20 : am_Fw RX9 20 9 4 false (tyX9 4) := ⟨RX9, TX9, 9, tyX9, KX9, by decide, am_t1 197 rfl rfl, rfl, rfl, rfl⟩
set_option maxRecDepth 20000 in
theorem fX9_23 : am_F RX9 23 9 5 := ⟨RX9, TX9, 9, rfl, by decide, KX9.2.1, am_t1 198 rfl rfl⟩
set_option maxRecDepth 20000 in
theorem pX9_23 : am_Fw RX9 23 9 5 false (tyX9 5) := ⟨RX9, TX9, 9, tyX9, KX9, by decide, am_t1 198 rfl rfl, rfl, rfl, rfl⟩
set_option maxRecDepth 20000 in
theorem fX9_26 : am_F RX9 26 9 6 := ⟨RX9, TX9, 9, rfl, by decide, KX9.2.1, am_t1 199 rfl rfl⟩
set_option maxRecDepth 20000 in
theorem pX9_26 : am_Fw RX9 26 9 6 false (tyX9 6) := ⟨RX9, TX9, 9, tyX9, KX9, by decide, am_t1 199 rfl rfl, rfl, rfl, rfl⟩
set_option maxRecDepth 20000 in
theorem fX9_29 : am_F RX9 29 9 7 := ⟨RX9, TX9, 9, rfl, by decide, KX9.2.1, am_t1 200 rfl rfl⟩
set_option maxRecDepth 20000 in
theorem pX9_29 : am_Fw RX9 29 9 7 false (tyX9 7) := ⟨RX9, TX9, 9, tyX9, KX9, by decide, am_t1 200 rfl rfl, rfl, rfl, rfl⟩
set_option maxRecDepth 20000 in
theorem fX9_54 : am_F RX9 54 9 8 := ⟨RX9, TX9, 9, rfl, by decide, KX9.2.1, am_t1 201 rfl rfl⟩
set_option maxRecDepth 20000 in
theorem pX9_54 : am_Fw RX9 54 9 8 false (tyX9 8) := ⟨RX9, TX9, 9, tyX9, KX9, by decide, am_t1 201 rfl rfl, rfl, rfl, rfl⟩
set_option maxRecDepth 20000 in
theorem fX10_109 : am_F RX10 109 9 8 := ⟨RX9, TX9, 9, rfl, by decide, KX9.2.1, am_t1 202 rfl rfl⟩
set_option maxRecDepth 20000 in
theorem pX10_109 : am_Fw RX10 109 9 8 false (tyX9 8) := ⟨RX9, TX9, 9, tyX9, KX9, by decide, am_t1 202 rfl rfl, rfl, rfl, rfl⟩
set_option maxRecDepth 20000 in
theorem fX3_163 : am_F RX3 163 9 8 := ⟨RX9, TX9, 9, rfl, by decide, KX9.2.1, am_t1 203 rfl rfl⟩
set_option maxRecDepth 20000 in
theorem pX3_163 : am_Fw RX3 163 9 8 false (tyX9 8) := ⟨RX9, TX9, 9, tyX9, KX9, by decide, am_t1 203 rfl rfl, rfl, rfl, rfl⟩
set_option maxRecDepth 20000 in
theorem fX3_12 : am_F RX3 12 3 0 := ⟨RX3, TX3, 4, rfl, by decide, KX3.2.1, am_t1 223 rfl rfl⟩
set_option maxRecDepth 20000 in
theorem pX3_12 : am_Fw RX3 12 3 0 true (tyX3 0) := ⟨RX3, TX3, 4, tyX3, KX3, by decide, am_t1 223 rfl rfl, rfl, rfl, rfl⟩
set_option maxRecDepth 20000 in
theorem fX11_180 : am_F RX11 180 3 0 := ⟨RX3, TX3, 4, rfl, by decide, KX3.2.1, am_t1 224 rfl rfl⟩
set_option maxRecDepth 20000 in
theorem pX11_180 : am_Fw RX11 180 3 0 true (tyX3 0) := ⟨RX3, TX3, 4, tyX3, KX3, by decide, am_t1 224 rfl rfl, rfl, rfl, rfl⟩
set_option maxRecDepth 20000 in
theorem fX3_18 : am_F RX3 18 3 1 := ⟨RX3, TX3, 4, rfl, by decide, KX3.2.1, am_t1 225 rfl rfl⟩
set_option maxRecDepth 20000 in
theorem pX3_18 : am_Fw RX3 18 3 1 true (tyX3 1) := ⟨RX3, TX3, 4, tyX3, KX3, by decide, am_t1 225 rfl rfl, rfl, rfl, rfl⟩
set_option maxRecDepth 20000 in
theorem fX3_22 : am_F RX3 22 3 2 := ⟨RX3, TX3, 4, rfl, by decide, KX3.2.1, am_t1 226 rfl rfl⟩
set_option maxRecDepth 20000 in
theorem pX3_22 : am_Fw RX3 22 3 2 false (tyX3 2) := ⟨RX3, TX3, 4, tyX3, KX3, by decide, am_t1 226 rfl rfl, rfl, rfl, rfl⟩
set_option maxRecDepth 20000 in
theorem fX3_26 : am_F RX3 26 3 3 := ⟨RX3, TX3, 4, rfl, by decide, KX3.2.1, am_t1 227 rfl rfl⟩
set_option maxRecDepth 20000 in
theorem pX3_26 : am_Fw RX3 26 3 3 false (tyX3 3) := ⟨RX3, TX3, 4, tyX3, KX3, by decide, am_t1 227 rfl rfl, rfl, rfl, rfl⟩
set_option maxRecDepth 20000 in
theorem fX6_33 : am_F RX6 33 6 0 := ⟨RX6, TX6, 11, rfl, by decide, KX6.2.1, am_t2 3 rfl rfl⟩
set_option maxRecDepth 20000 in
theorem pX6_33 : am_Fw RX6 33 6 0 false (tyX6 0) := ⟨RX6, TX6, 11, tyX6, KX6, by decide, am_t2 3 rfl rfl, rfl, rfl, rfl⟩
set_option maxRecDepth 20000 in
theorem fX11_155 : am_F RX11 155 6 0 := ⟨RX6, TX6, 11, rfl, by decide, KX6.2.1, am_t2 4 rfl rfl⟩
set_option maxRecDepth 20000 in
theorem pX11_155 : am_Fw RX11 155 6 0 false (tyX6 0) := ⟨RX6, TX6, 11, tyX6, KX6, by decide, am_t2 4 rfl rfl, rfl, rfl, rfl⟩
set_option maxRecDepth 20000 in
theorem fX6_36 : am_F RX6 36 6 1 := ⟨RX6, TX6, 11, rfl, by decide, KX6.2.1, am_t2 5 rfl rfl⟩
set_option maxRecDepth 20000 in
theorem pX6_36 : am_Fw RX6 36 6 1 false (tyX6 1) := ⟨RX6, TX6, 11, tyX6, KX6, by decide, am_t2 5 rfl rfl, rfl, rfl, rfl⟩
set_option maxRecDepth 20000 in
theorem fX11_161 : am_F RX11 161 6 1 := ⟨RX6, TX6, 11, rfl, by decide, KX6.2.1, am_t2 6 rfl rfl⟩
set_option maxRecDepth 20000 in
theorem pX11_161 : am_Fw RX11 161 6 1 false (tyX6 1) := ⟨RX6, TX6, 11, tyX6, KX6, by decide, am_t2 6 rfl rfl, rfl, rfl, rfl⟩
set_option maxRecDepth 20000 in
theorem fX0_52 : am_F RX0 52 6 2 := ⟨RX6, TX6, 11, rfl, by decide, KX6.2.1, am_t2 7 rfl rfl⟩
set_option maxRecDepth 20000 in
theorem pX0_52 : am_Fw RX0 52 6 2 false (tyX6 2) := ⟨RX6, TX6, 11, tyX6, KX6, by decide, am_t2 7 rfl rfl, rfl, rfl, rfl⟩
set_option maxRecDepth 20000 in
theorem fX6_91 : am_F RX6 91 6 2 := ⟨RX6, TX6, 11, rfl, by decide, KX6.2.1, am_t2 8 rfl rfl⟩
set_option maxRecDepth 20000 in
theorem pX6_91 : am_Fw RX6 91 6 2 false (tyX6 2) := ⟨RX6, TX6, 11, tyX6, KX6, by decide, am_t2 8 rfl rfl, rfl, rfl, rfl⟩
set_option maxRecDepth 20000 in
theorem fX11_226 : am_F RX11 226 6 2 := ⟨RX6, TX6, 11, rfl, by decide, KX6.2.1, am_t2 9 rfl rfl⟩
set_option maxRecDepth 20000 in
theorem pX11_226 : am_Fw RX11 226 6 2 false (tyX6 2) := ⟨RX6, TX6, 11, tyX6, KX6, by decide, am_t2 9 rfl rfl, rfl, rfl, rfl⟩
set_option maxRecDepth 20000 in
theorem fX0_55 : am_F RX0 55 6 3 := ⟨RX6, TX6, 11, rfl, by decide, KX6.2.1, am_t2 10 rfl rfl⟩
set_option maxRecDepth 20000 in
theorem pX0_55 : am_Fw RX0 55 6 3 false (tyX6 3) := ⟨RX6, TX6, 11, tyX6, KX6, by decide, am_t2 10 rfl rfl, rfl, rfl, rfl⟩
set_option maxRecDepth 20000 in
theorem fX6_94 : am_F RX6 94 6 3 := ⟨RX6, TX6, 11, rfl, by decide, KX6.2.1, am_t2 11 rfl rfl⟩
set_option maxRecDepth 20000 in
theorem pX6_94 : am_Fw RX6 94 6 3 false (tyX6 3) := ⟨RX6, TX6, 11, tyX6, KX6, by decide, am_t2 11 rfl rfl, rfl, rfl, rfl⟩
set_option maxRecDepth 20000 in
theorem fX11_229 : am_F RX11 229 6 3 := ⟨RX6, TX6, 11, rfl, by decide, KX6.2.1, am_t2 12 rfl rfl⟩
set_option maxRecDepth 20000 in
theorem pX11_229 : am_Fw RX11 229 6 3 false (tyX6 3) := ⟨RX6, TX6, 11, tyX6, KX6, by decide, am_t2 12 rfl rfl, rfl, rfl, rfl⟩
set_option maxRecDepth 20000 in
theorem fX6_88 : am_F RX6 88 6 4 := ⟨RX6, TX6, 11, rfl, by decide, KX6.2.1, am_t2 13 rfl rfl⟩
set_option maxRecDepth 20000 in
theorem pX6_88 : am_Fw RX6 88 6 4 false (tyX6 4) := ⟨RX6, TX6, 11, tyX6, KX6, by decide, am_t2 13 rfl rfl, rfl, rfl, rfl⟩
set_option maxRecDepth 20000 in
theorem fX11_232 : am_F RX11 232 6 4 := ⟨RX6, TX6, 11, rfl, by decide, KX6.2.1, am_t2 14 rfl rfl⟩
set_option maxRecDepth 20000 in
theorem pX11_232 : am_Fw RX11 232 6 4 false (tyX6 4) := ⟨RX6, TX6, 11, tyX6, KX6, by decide, am_t2 14 rfl rfl, rfl, rfl, rfl⟩
set_option maxRecDepth 20000 in
theorem fX6_113 : am_F RX6 113 6 5 := ⟨RX6, TX6, 11, rfl, by decide, KX6.2.1, am_t2 15 rfl rfl⟩
set_option maxRecDepth 20000 in
theorem pX6_113 : am_Fw RX6 113 6 5 false (tyX6 5) := ⟨RX6, TX6, 11, tyX6, KX6, by decide, am_t2 15 rfl rfl, rfl, rfl, rfl⟩
set_option maxRecDepth 20000 in
theorem fX11_267 : am_F RX11 267 6 5 := ⟨RX6, TX6, 11, rfl, by decide, KX6.2.1, am_t2 16 rfl rfl⟩
set_option maxRecDepth 20000 in
theorem pX11_267 : am_Fw RX11 267 6 5 false (tyX6 5) := ⟨RX6, TX6, 11, tyX6, KX6, by decide, am_t2 16 rfl rfl, rfl, rfl, rfl⟩
set_option maxRecDepth 20000 in
theorem fX6_116 : am_F RX6 116 6 6 := ⟨RX6, TX6, 11, rfl, by decide, KX6.2.1, am_t2 17 rfl rfl⟩
set_option maxRecDepth 20000 in
theorem pX6_116 : am_Fw RX6 116 6 6 false (tyX6 6) := ⟨RX6, TX6, 11, tyX6, KX6, by decide, am_t2 17 rfl rfl, rfl, rfl, rfl⟩
set_option maxRecDepth 20000 in
theorem fX11_270 : am_F RX11 270 6 6 := ⟨RX6, TX6, 11, rfl, by decide, KX6.2.1, am_t2 18 rfl rfl⟩
set_option maxRecDepth 20000 in
theorem pX11_270 : am_Fw RX11 270 6 6 false (tyX6 6) := ⟨RX6, TX6, 11, tyX6, KX6, by decide, am_t2 18 rfl rfl, rfl, rfl, rfl⟩
set_option maxRecDepth 20000 in
theorem fX6_119 : am_F RX6 119 6 7 := ⟨RX6, TX6, 11, rfl, by decide, KX6.2.1, am_t2 19 rfl rfl⟩
set_option maxRecDepth 20000 in
theorem pX6_119 : am_Fw RX6 119 6 7 false (tyX6 7) := ⟨RX6, TX6, 11, tyX6, KX6, by decide, am_t2 19 rfl rfl, rfl, rfl, rfl⟩
set_option maxRecDepth 20000 in
theorem fX11_273 : am_F RX11 273 6 7 := ⟨RX6, TX6, 11, rfl, by decide, KX6.2.1, am_t2 20 rfl rfl⟩
set_option maxRecDepth 20000 in
theorem pX11_273 : am_Fw RX11 273 6 7 false (tyX6 7) := ⟨RX6, TX6, 11, tyX6, KX6, by decide, am_t2 20 rfl rfl, rfl, rfl, rfl⟩
set_option maxRecDepth 20000 in
theorem fX6_19 : am_F RX6 19 6 8 := ⟨RX6, TX6, 11, rfl, by decide, KX6.2.1, am_t2 21 rfl rfl⟩
set_option maxRecDepth 20000 in
theorem pX6_19 : am_Fw RX6 19 6 8 true (tyX6 8) := ⟨RX6, TX6, 11, tyX6, KX6, by decide, am_t2 21 rfl rfl, rfl, rfl, rfl⟩
set_option maxRecDepth 20000 in
theorem fX6_9 : am_F RX6 9 6 9 := ⟨RX6, TX6, 11, rfl, by decide, KX6.2.1, am_t2 22 rfl rfl⟩
set_option maxRecDepth 20000 in
theorem pX6_9 : am_Fw RX6 9 6 9 true (tyX6 9) := ⟨RX6, TX6, 11, tyX6, KX6, by decide, am_t2 22 rfl rfl, rfl, rfl, rfl⟩
set_option maxRecDepth 20000 in
theorem fX6_15 : am_F RX6 15 6 10 := ⟨RX6, TX6, 11, rfl, by decide, KX6.2.1, am_t2 23 rfl rfl⟩
set_option maxRecDepth 20000 in
theorem pX6_15 : am_Fw RX6 15 6 10 true (tyX6 10) := ⟨RX6, TX6, 11, tyX6, KX6, by decide, am_t2 23 rfl rfl, rfl, rfl, rfl⟩
set_option maxRecDepth 20000 in
theorem fX1_9 : am_F RX1 9 1 0 := ⟨RX1, TX1, 9, rfl, by decide, KX1.2.1, am_t2 58 rfl rfl⟩
set_option maxRecDepth 20000 in
theorem pX1_9 : am_Fw RX1 9 1 0 false (tyX1 0) := ⟨RX1, TX1, 9, tyX1, KX1, by decide, am_t2 58 rfl rfl, rfl, rfl, rfl⟩
set_option maxRecDepth 20000 in
theorem fX11_194 : am_F RX11 194 1 0 := ⟨RX1, TX1, 9, rfl, by decide, KX1.2.1, am_t2 59 rfl rfl⟩
set_option maxRecDepth 20000 in
theorem pX11_194 : am_Fw RX11 194 1 0 false (tyX1 0) := ⟨RX1, TX1, 9, tyX1, KX1, by decide, am_t2 59 rfl rfl, rfl, rfl, rfl⟩
set_option maxRecDepth 20000 in
theorem fX1_33 : am_F RX1 33 1 1 := ⟨RX1, TX1, 9, rfl, by decide, KX1.2.1, am_t2 60 rfl rfl⟩
set_option maxRecDepth 20000 in
theorem pX1_33 : am_Fw RX1 33 1 1 true (tyX1 1) := ⟨RX1, TX1, 9, tyX1, KX1, by decide, am_t2 60 rfl rfl, rfl, rfl, rfl⟩
set_option maxRecDepth 20000 in
theorem fX1_36 : am_F RX1 36 1 2 := ⟨RX1, TX1, 9, rfl, by decide, KX1.2.1, am_t2 61 rfl rfl⟩
set_option maxRecDepth 20000 in
theorem pX1_36 : am_Fw RX1 36 1 2 true (tyX1 2) := ⟨RX1, TX1, 9, tyX1, KX1, by decide, am_t2 61 rfl rfl, rfl, rfl, rfl⟩
set_option maxRecDepth 20000 in
theorem fX1_39 : am_F RX1 39 1 3 := ⟨RX1, TX1, 9, rfl, by decide, KX1.2.1, am_t2 62 rfl rfl⟩
set_option maxRecDepth 20000 in
theorem pX1_39 : am_Fw RX1 39 1 3 true (tyX1 3) := ⟨RX1, TX1, 9, tyX1, KX1, by decide, am_t2 62 rfl rfl, rfl, rfl, rfl⟩
set_option maxRecDepth 20000 in
theorem fX1_18 : am_F RX1 18 1 4 := ⟨RX1, TX1, 9, rfl, by decide, KX1.2.1, am_t2 63 rfl rfl⟩
set_option maxRecDepth 20000 in
theorem pX1_18 : am_Fw RX1 18 1 4 true (tyX1 4) := ⟨RX1, TX1, 9, tyX1, KX1, by decide, am_t2 63 rfl rfl, rfl, rfl, rfl⟩
set_option maxRecDepth 20000 in
theorem fX1_25 : am_F RX1 25 1 5 := ⟨RX1, TX1, 9, rfl, by decide, KX1.2.1, am_t2 64 rfl rfl⟩
set_option maxRecDepth 20000 in
theorem pX1_25 : am_Fw RX1 25 1 5 true (tyX1 5) := ⟨RX1, TX1, 9, tyX1, KX1, by decide, am_t2 64 rfl rfl, rfl, rfl, rfl⟩
set_option maxRecDepth 20000 in
theorem fX1_29 : am_F RX1 29 1 6 := ⟨RX1, TX1, 9, rfl, by decide, KX1.2.1, am_t2 65 rfl rfl⟩
set_option maxRecDepth 20000 in
theorem pX1_29 : am_Fw RX1 29 1 6 true (tyX1 6) := ⟨RX1, TX1, 9, tyX1, KX1, by decide, am_t2 65 rfl rfl, rfl, rfl, rfl⟩
set_option maxRecDepth 20000 in
theorem fX1_93 : am_F RX1 93 1 7 := ⟨RX1, TX1, 9, rfl, by decide, KX1.2.1, am_t2 66 rfl rfl⟩
set_option maxRecDepth 20000 in
theorem pX1_93 : am_Fw RX1 93 1 7 false (tyX1 7) := ⟨RX1, TX1, 9, tyX1, KX1, by decide, am_t2 66 rfl rfl, rfl, rfl, rfl⟩
set_option maxRecDepth 20000 in
theorem fX1_96 : am_F RX1 96 1 8 := ⟨RX1, TX1, 9, rfl, by decide, KX1.2.1, am_t2 67 rfl rfl⟩
set_option maxRecDepth 20000 in
theorem pX1_96 : am_Fw RX1 96 1 8 false (tyX1 8) := ⟨RX1, TX1, 9, tyX1, KX1, by decide, am_t2 67 rfl rfl, rfl, rfl, rfl⟩
set_option maxRecDepth 20000 in
theorem fX10_158 : am_F RX10 158 10 0 := ⟨RX10, TX10, 19, rfl, by decide, KX10.2.1, am_t2 95 rfl rfl⟩
set_option maxRecDepth 20000 in
theorem pX10_158 : am_Fw RX10 158 10 0 false (tyX10 0) := ⟨RX10, TX10, 19, tyX10, KX10, by decide, am_t2 95 rfl rfl, rfl, rfl, rfl⟩
set_option maxRecDepth 20000 in
theorem fX11_244 : am_F RX11 244 10 0 := ⟨RX10, TX10, 19, rfl, by decide, KX10.2.1, am_t2 96 rfl rfl⟩
set_option maxRecDepth 20000 in
theorem pX11_244 : am_Fw RX11 244 10 0 false (tyX10 0) := ⟨RX10, TX10, 19, tyX10, KX10, by decide, am_t2 96 rfl rfl, rfl, rfl, rfl⟩
set_option maxRecDepth 20000 in
theorem fX10_161 : am_F RX10 161 10 1 := ⟨RX10, TX10, 19, rfl, by decide, KX10.2.1, am_t2 97 rfl rfl⟩
set_option maxRecDepth 20000 in
theorem pX10_161 : am_Fw RX10 161 10 1 false (tyX10 1) := ⟨RX10, TX10, 19, tyX10, KX10, by decide, am_t2 97 rfl rfl, rfl, rfl, rfl⟩
set_option maxRecDepth 20000 in
theorem fX11_247 : am_F RX11 247 10 1 := ⟨RX10, TX10, 19, rfl, by decide, KX10.2.1, am_t2 98 rfl rfl⟩
set_option maxRecDepth 20000 in
theorem pX11_247 : am_Fw RX11 247 10 1 false (tyX10 1) := ⟨RX10, TX10, 19, tyX10, KX10, by decide, am_t2 98 rfl rfl, rfl, rfl, rfl⟩
set_option maxRecDepth 20000 in
theorem fX10_164 : am_F RX10 164 10 2 := ⟨RX10, TX10, 19, rfl, by decide, KX10.2.1, am_t2 99 rfl rfl⟩
set_option maxRecDepth 20000 in
theorem pX10_164 : am_Fw RX10 164 10 2 false (tyX10 2) := ⟨RX10, TX10, 19, tyX10, KX10, by decide, am_t2 99 rfl rfl, rfl, rfl, rfl⟩
set_option maxRecDepth 20000 in
theorem fX11_250 : am_F RX11 250 10 2 := ⟨RX10, TX10, 19, rfl, by decide, KX10.2.1, am_t2 100 rfl rfl⟩
set_option maxRecDepth 20000 in
theorem pX11_250 : am_Fw RX11 250 10 2 false (tyX10 2) := ⟨RX10, TX10, 19, tyX10, KX10, by decide, am_t2 100 rfl rfl, rfl, rfl, rfl⟩
set_option maxRecDepth 20000 in
theorem fX10_11 : am_F RX10 11 10 3 := ⟨RX10, TX10, 19, rfl, by decide, KX10.2.1, am_t2 101 rfl rfl⟩
set_option maxRecDepth 20000 in
theorem pX10_11 : am_Fw RX10 11 10 3 true (tyX10 3) := ⟨RX10, TX10, 19, tyX10, KX10, by decide, am_t2 101 rfl rfl, rfl, rfl, rfl⟩
set_option maxRecDepth 20000 in
theorem fX11_256 : am_F RX11 256 10 3 := ⟨RX10, TX10, 19, rfl, by decide, KX10.2.1, am_t2 102 rfl rfl⟩
set_option maxRecDepth 20000 in
theorem pX11_256 : am_Fw RX11 256 10 3 true (tyX10 3) := ⟨RX10, TX10, 19, tyX10, KX10, by decide, am_t2 102 rfl rfl, rfl, rfl, rfl⟩
set_option maxRecDepth 20000 in
theorem fX10_190 : am_F RX10 190 10 4 := ⟨RX10, TX10, 19, rfl, by decide, KX10.2.1, am_t2 103 rfl rfl⟩
set_option maxRecDepth 20000 in
theorem pX10_190 : am_Fw RX10 190 10 4 false (tyX10 4) := ⟨RX10, TX10, 19, tyX10, KX10, by decide, am_t2 103 rfl rfl, rfl, rfl, rfl⟩
set_option maxRecDepth 20000 in
theorem fX11_280 : am_F RX11 280 10 4 := ⟨RX10, TX10, 19, rfl, by decide, KX10.2.1, am_t2 104 rfl rfl⟩
set_option maxRecDepth 20000 in
theorem pX11_280 : am_Fw RX11 280 10 4 false (tyX10 4) := ⟨RX10, TX10, 19, tyX10, KX10, by decide, am_t2 104 rfl rfl, rfl, rfl, rfl⟩
set_option maxRecDepth 20000 in
theorem fX10_193 : am_F RX10 193 10 5 := ⟨RX10, TX10, 19, rfl, by decide, KX10.2.1, am_t2 105 rfl rfl⟩
set_option maxRecDepth 20000 in
theorem pX10_193 : am_Fw RX10 193 10 5 false (tyX10 5) := ⟨RX10, TX10, 19, tyX10, KX10, by decide, am_t2 105 rfl rfl, rfl, rfl, rfl⟩
set_option maxRecDepth 20000 in
theorem fX11_283 : am_F RX11 283 10 5 := ⟨RX10, TX10, 19, rfl, by decide, KX10.2.1, am_t2 106 rfl rfl⟩
set_option maxRecDepth 20000 in
theorem pX11_283 : am_Fw RX11 283 10 5 false (tyX10 5) := ⟨RX10, TX10, 19, tyX10, KX10, by decide, am_t2 106 rfl rfl, rfl, rfl, rfl⟩
set_option maxRecDepth 20000 in
theorem fX10_40 : am_F RX10 40 10 6 := ⟨RX10, TX10, 19, rfl, by decide, KX10.2.1, am_t2 107 rfl rfl⟩
set_option maxRecDepth 20000 in
theorem pX10_40 : am_Fw RX10 40 10 6 true (tyX10 6) := ⟨RX10, TX10, 19, tyX10, KX10, by decide, am_t2 107 rfl rfl, rfl, rfl, rfl⟩
set_option maxRecDepth 20000 in
theorem fX10_44 : am_F RX10 44 10 7 := ⟨RX10, TX10, 19, rfl, by decide, KX10.2.1, am_t2 108 rfl rfl⟩
set_option maxRecDepth 20000 in
theorem pX10_44 : am_Fw RX10 44 10 7 true (tyX10 7) := ⟨RX10, TX10, 19, tyX10, KX10, by decide, am_t2 108 rfl rfl, rfl, rfl, rfl⟩
set_option maxRecDepth 20000 in
theorem fX10_18 : am_F RX10 18 10 8 := ⟨RX10, TX10, 19, rfl, by decide, KX10.2.1, am_t2 109 rfl rfl⟩
set_option maxRecDepth 20000 in
theorem pX10_18 : am_Fw RX10 18 10 8 true (tyX10 8) := ⟨RX10, TX10, 19, tyX10, KX10, by decide, am_t2 109 rfl rfl, rfl, rfl, rfl⟩
set_option maxRecDepth 20000 in
theorem fX10_22 : am_F RX10 22 10 9 := ⟨RX10, TX10, 19, rfl, by decide, KX10.2.1, am_t2 110 rfl rfl⟩
set_option maxRecDepth 20000 in
theorem pX10_22 : am_Fw RX10 22 10 9 true (tyX10 9) := ⟨RX10, TX10, 19, tyX10, KX10, by decide, am_t2 110 rfl rfl, rfl, rfl, rfl⟩
set_option maxRecDepth 20000 in
theorem fX10_25 : am_F RX10 25 10 10 := ⟨RX10, TX10, 19, rfl, by decide, KX10.2.1, am_t2 111 rfl rfl⟩
set_option maxRecDepth 20000 in
theorem pX10_25 : am_Fw RX10 25 10 10 true (tyX10 10) := ⟨RX10, TX10, 19, tyX10, KX10, by decide, am_t2 111 rfl rfl, rfl, rfl, rfl⟩
set_option maxRecDepth 20000 in
theorem fX10_28 : am_F RX10 28 10 11 := ⟨RX10, TX10, 19, rfl, by decide, KX10.2.1, am_t2 112 rfl rfl⟩
set_option maxRecDepth 20000 in
theorem pX10_28 : am_Fw RX10 28 10 11 true (tyX10 11) := ⟨RX10, TX10, 19, tyX10, KX10, by decide, am_t2 112 rfl rfl, rfl, rfl, rfl⟩
set_option maxRecDepth 20000 in
theorem fX10_31 : am_F RX10 31 10 12 := ⟨RX10, TX10, 19, rfl, by decide, KX10.2.1, am_t2 113 rfl rfl⟩
set_option maxRecDepth 20000 in
theorem pX10_31 : am_Fw RX10 31 10 12 true (tyX10 12) := ⟨RX10, TX10, 19, tyX10, KX10, by decide, am_t2 113 rfl rfl, rfl, rfl, rfl⟩
set_option maxRecDepth 20000 in
theorem fX10_78 : am_F RX10 78 10 13 := ⟨RX10, TX10, 19, rfl, by decide, KX10.2.1, am_t2 114 rfl rfl⟩
set_option maxRecDepth 20000 in
theorem pX10_78 : am_Fw RX10 78 10 13 false (tyX10 13) := ⟨RX10, TX10, 19, tyX10, KX10, by decide, am_t2 114 rfl rfl, rfl, rfl, rfl⟩
set_option maxRecDepth 20000 in
theorem fX10_88 : am_F RX10 88 10 14 := ⟨RX10, TX10, 19, rfl, by decide, KX10.2.1, am_t2 115 rfl rfl⟩
set_option maxRecDepth 20000 in
theorem pX10_88 : am_Fw RX10 88 10 14 false (tyX10 14) := ⟨RX10, TX10, 19, tyX10, KX10, by decide, am_t2 115 rfl rfl, rfl, rfl, rfl⟩
set_option maxRecDepth 20000 in
theorem fX10_75 : am_F RX10 75 10 15 := ⟨RX10, TX10, 19, rfl, by decide, KX10.2.1, am_t2 116 rfl rfl⟩
set_option maxRecDepth 20000 in
theorem pX10_75 : am_Fw RX10 75 10 15 false (tyX10 15) := ⟨RX10, TX10, 19, tyX10, KX10, by decide, am_t2 116 rfl rfl, rfl, rfl, rfl⟩
set_option maxRecDepth 20000 in
theorem fX10_34 : am_F RX10 34 10 16 := ⟨RX10, TX10, 19, rfl, by decide, KX10.2.1, am_t2 117 rfl rfl⟩
set_option maxRecDepth 20000 in
theorem pX10_34 : am_Fw RX10 34 10 16 false (tyX10 16) := ⟨RX10, TX10, 19, tyX10, KX10, by decide, am_t2 117 rfl rfl, rfl, rfl, rfl⟩
set_option maxRecDepth 20000 in
theorem fX10_37 : am_F RX10 37 10 17 := ⟨RX10, TX10, 19, rfl, by decide, KX10.2.1, am_t2 118 rfl rfl⟩
set_option maxRecDepth 20000 in
theorem pX10_37 : am_Fw RX10 37 10 17 false (tyX10 17) := ⟨RX10, TX10, 19, tyX10, KX10, by decide, am_t2 118 rfl rfl, rfl, rfl, rfl⟩
set_option maxRecDepth 20000 in
theorem fX10_99 : am_F RX10 99 10 18 := ⟨RX10, TX10, 19, rfl, by decide, KX10.2.1, am_t2 119 rfl rfl⟩
set_option maxRecDepth 20000 in
theorem pX10_99 : am_Fw RX10 99 10 18 false (tyX10 18) := ⟨RX10, TX10, 19, tyX10, KX10, by decide, am_t2 119 rfl rfl, rfl, rfl, rfl⟩
set_option maxRecDepth 20000 in
theorem fX5_18 : am_F RX5 18 5 0 := ⟨RX5, TX5, 4, rfl, by decide, KX5.2.1, am_t2 165 rfl rfl⟩
set_option maxRecDepth 20000 in
theorem pX5_18 : am_Fw RX5 18 5 0 false (tyX5 0) := ⟨RX5, TX5, 4, tyX5, KX5, by decide, am_t2 165 rfl rfl, rfl, rfl, rfl⟩
set_option maxRecDepth 20000 in
theorem fX11_301 : am_F RX11 301 5 0 := ⟨RX5, TX5, 4, rfl, by decide, KX5.2.1, am_t2 166 rfl rfl⟩
set_option maxRecDepth 20000 in
theorem pX11_301 : am_Fw RX11 301 5 0 false (tyX5 0) := ⟨RX5, TX5, 4, tyX5, KX5, by decide, am_t2 166 rfl rfl, rfl, rfl, rfl⟩
set_option maxRecDepth 20000 in
theorem fX5_11 : am_F RX5 11 5 1 := ⟨RX5, TX5, 4, rfl, by decide, KX5.2.1, am_t2 167 rfl rfl⟩
set_option maxRecDepth 20000 in
theorem pX5_11 : am_Fw RX5 11 5 1 true (tyX5 1) := ⟨RX5, TX5, 4, tyX5, KX5, by decide, am_t2 167 rfl rfl, rfl, rfl, rfl⟩
set_option maxRecDepth 20000 in
theorem fX5_15 : am_F RX5 15 5 2 := ⟨RX5, TX5, 4, rfl, by decide, KX5.2.1, am_t2 168 rfl rfl⟩
set_option maxRecDepth 20000 in
theorem pX5_15 : am_Fw RX5 15 5 2 true (tyX5 2) := ⟨RX5, TX5, 4, tyX5, KX5, by decide, am_t2 168 rfl rfl, rfl, rfl, rfl⟩
set_option maxRecDepth 20000 in
theorem fX5_44 : am_F RX5 44 5 3 := ⟨RX5, TX5, 4, rfl, by decide, KX5.2.1, am_t2 169 rfl rfl⟩
set_option maxRecDepth 20000 in
theorem pX5_44 : am_Fw RX5 44 5 3 false (tyX5 3) := ⟨RX5, TX5, 4, tyX5, KX5, by decide, am_t2 169 rfl rfl, rfl, rfl, rfl⟩
set_option maxRecDepth 20000 in
theorem fX0_22 : am_F RX0 22 0 0 := ⟨RX0, TX0, 6, rfl, by decide, KX0.2.1, am_t2 187 rfl rfl⟩
set_option maxRecDepth 20000 in
theorem pX0_22 : am_Fw RX0 22 0 0 false (tyX0 0) := ⟨RX0, TX0, 6, tyX0, KX0, by decide, am_t2 187 rfl rfl, rfl, rfl, rfl⟩
set_option maxRecDepth 20000 in
theorem fX11_311 : am_F RX11 311 0 0 := ⟨RX0, TX0, 6, rfl, by decide, KX0.2.1, am_t2 188 rfl rfl⟩
set_option maxRecDepth 20000 in
theorem pX11_311 : am_Fw RX11 311 0 0 false (tyX0 0) := ⟨RX0, TX0, 6, tyX0, KX0, by decide, am_t2 188 rfl rfl, rfl, rfl, rfl⟩
set_option maxRecDepth 20000 in
theorem fX0_26 : am_F RX0 26 0 1 := ⟨RX0, TX0, 6, rfl, by decide, KX0.2.1, am_t2 189 rfl rfl⟩
set_option maxRecDepth 20000 in
theorem pX0_26 : am_Fw RX0 26 0 1 false (tyX0 1) := ⟨RX0, TX0, 6, tyX0, KX0, by decide, am_t2 189 rfl rfl, rfl, rfl, rfl⟩
set_option maxRecDepth 20000 in
theorem fX11_315 : am_F RX11 315 0 1 := ⟨RX0, TX0, 6, rfl, by decide, KX0.2.1, am_t2 190 rfl rfl⟩
set_option maxRecDepth 20000 in
theorem pX11_315 : am_Fw RX11 315 0 1 false (tyX0 1) := ⟨RX0, TX0, 6, tyX0, KX0, by decide, am_t2 190 rfl rfl, rfl, rfl, rfl⟩
set_option maxRecDepth 20000 in
theorem fX0_30 : am_F RX0 30 0 2 := ⟨RX0, TX0, 6, rfl, by decide, KX0.2.1, am_t2 191 rfl rfl⟩
set_option maxRecDepth 20000 in
theorem pX0_30 : am_Fw RX0 30 0 2 false (tyX0 2) := ⟨RX0, TX0, 6, tyX0, KX0, by decide, am_t2 191 rfl rfl, rfl, rfl, rfl⟩
set_option maxRecDepth 20000 in
theorem fX11_318 : am_F RX11 318 0 2 := ⟨RX0, TX0, 6, rfl, by decide, KX0.2.1, am_t2 192 rfl rfl⟩
set_option maxRecDepth 20000 in
theorem pX11_318 : am_Fw RX11 318 0 2 false (tyX0 2) := ⟨RX0, TX0, 6, tyX0, KX0, by decide, am_t2 192 rfl rfl, rfl, rfl, rfl⟩
set_option maxRecDepth 20000 in
theorem fX0_12 : am_F RX0 12 0 3 := ⟨RX0, TX0, 6, rfl, by decide, KX0.2.1, am_t2 193 rfl rfl⟩
set_option maxRecDepth 20000 in
theorem pX0_12 : am_Fw RX0 12 0 3 true (tyX0 3) := ⟨RX0, TX0, 6, tyX0, KX0, by decide, am_t2 193 rfl rfl, rfl, rfl, rfl⟩
set_option maxRecDepth 20000 in
theorem fX11_319 : am_F RX11 319 0 3 := ⟨RX0, TX0, 6, rfl, by decide, KX0.2.1, am_t2 194 rfl rfl⟩
set_option maxRecDepth 20000 in
theorem pX11_319 : am_Fw RX11 319 0 3 true (tyX0 3) := ⟨RX0, TX0, 6, tyX0, KX0, by decide, am_t2 194 rfl rfl, rfl, rfl, rfl⟩
set_option maxRecDepth 20000 in
theorem fX0_18 : am_F RX0 18 0 4 := ⟨RX0, TX0, 6, rfl, by decide, KX0.2.1, am_t2 195 rfl rfl⟩
set_option maxRecDepth 20000 in
theorem pX0_18 : am_Fw RX0 18 0 4 true (tyX0 4) := ⟨RX0, TX0, 6, tyX0, KX0, by decide, am_t2 195 rfl rfl, rfl, rfl, rfl⟩
set_option maxRecDepth 20000 in
theorem fX0_33 : am_F RX0 33 0 5 := ⟨RX0, TX0, 6, rfl, by decide, KX0.2.1, am_t2 196 rfl rfl⟩
set_option maxRecDepth 20000 in
theorem pX0_33 : am_Fw RX0 33 0 5 false (tyX0 5) := ⟨RX0, TX0, 6, tyX0, KX0, by decide, am_t2 196 rfl rfl, rfl, rfl, rfl⟩
set_option maxRecDepth 20000 in
theorem fX11_10 : am_F RX11 10 11 0 := ⟨RX11, TX11, 15, rfl, by decide, KX11.2.1, am_t2 212 rfl rfl⟩
set_option maxRecDepth 20000 in
theorem pX11_10 : am_Fw RX11 10 11 0 true (tyX11 0) := ⟨RX11, TX11, 15, tyX11, KX11, by decide, am_t2 212 rfl rfl, rfl, rfl, rfl⟩
set_option maxRecDepth 20000 in
theorem fX11_19 : am_F RX11 19 11 1 := ⟨RX11, TX11, 15, rfl, by decide, KX11.2.1, am_t2 213 rfl rfl⟩
set_option maxRecDepth 20000 in
theorem pX11_19 : am_Fw RX11 19 11 1 true (tyX11 1) := ⟨RX11, TX11, 15, tyX11, KX11, by decide, am_t2 213 rfl rfl, rfl, rfl, rfl⟩
set_option maxRecDepth 20000 in
theorem fX11_23 : am_F RX11 23 11 2 := ⟨RX11, TX11, 15, rfl, by decide, KX11.2.1, am_t2 214 rfl rfl⟩
set_option maxRecDepth 20000 in
theorem pX11_23 : am_Fw RX11 23 11 2 true (tyX11 2) := ⟨RX11, TX11, 15, tyX11, KX11, by decide, am_t2 214 rfl rfl, rfl, rfl, rfl⟩
set_option maxRecDepth 20000 in
theorem fX11_27 : am_F RX11 27 11 3 := ⟨RX11, TX11, 15, rfl, by decide, KX11.2.1, am_t2 215 rfl rfl⟩
set_option maxRecDepth 20000 in
theorem pX11_27 : am_Fw RX11 27 11 3 true (tyX11 3) := ⟨RX11, TX11, 15, tyX11, KX11, by decide, am_t2 215 rfl rfl, rfl, rfl, rfl⟩
set_option maxRecDepth 20000 in
theorem fX11_34 : am_F RX11 34 11 4 := ⟨RX11, TX11, 15, rfl, by decide, KX11.2.1, am_t2 216 rfl rfl⟩
set_option maxRecDepth 20000 in
theorem pX11_34 : am_Fw RX11 34 11 4 true (tyX11 4) := ⟨RX11, TX11, 15, tyX11, KX11, by decide, am_t2 216 rfl rfl, rfl, rfl, rfl⟩
set_option maxRecDepth 20000 in
theorem fX11_43 : am_F RX11 43 11 5 := ⟨RX11, TX11, 15, rfl, by decide, KX11.2.1, am_t2 217 rfl rfl⟩
set_option maxRecDepth 20000 in
theorem pX11_43 : am_Fw RX11 43 11 5 true (tyX11 5) := ⟨RX11, TX11, 15, tyX11, KX11, by decide, am_t2 217 rfl rfl, rfl, rfl, rfl⟩
set_option maxRecDepth 20000 in
theorem fX11_52 : am_F RX11 52 11 6 := ⟨RX11, TX11, 15, rfl, by decide, KX11.2.1, am_t2 218 rfl rfl⟩
set_option maxRecDepth 20000 in
theorem pX11_52 : am_Fw RX11 52 11 6 true (tyX11 6) := ⟨RX11, TX11, 15, tyX11, KX11, by decide, am_t2 218 rfl rfl, rfl, rfl, rfl⟩
set_option maxRecDepth 20000 in
theorem fX11_61 : am_F RX11 61 11 7 := ⟨RX11, TX11, 15, rfl, by decide, KX11.2.1, am_t2 219 rfl rfl⟩
set_option maxRecDepth 20000 in
theorem pX11_61 : am_Fw RX11 61 11 7 true (tyX11 7) := ⟨RX11, TX11, 15, tyX11, KX11, by decide, am_t2 219 rfl rfl, rfl, rfl, rfl⟩
set_option maxRecDepth 20000 in
theorem fX11_70 : am_F RX11 70 11 8 := ⟨RX11, TX11, 15, rfl, by decide, KX11.2.1, am_t2 220 rfl rfl⟩
set_option maxRecDepth 20000 in
theorem pX11_70 : am_Fw RX11 70 11 8 true (tyX11 8) := ⟨RX11, TX11, 15, tyX11, KX11, by decide, am_t2 220 rfl rfl, rfl, rfl, rfl⟩
set_option maxRecDepth 20000 in
theorem fX11_77 : am_F RX11 77 11 9 := ⟨RX11, TX11, 15, rfl, by decide, KX11.2.1, am_t2 221 rfl rfl⟩
set_option maxRecDepth 20000 in
theorem pX11_77 : am_Fw RX11 77 11 9 true (tyX11 9) := ⟨RX11, TX11, 15, tyX11, KX11, by decide, am_t2 221 rfl rfl, rfl, rfl, rfl⟩
set_option maxRecDepth 20000 in
theorem fX11_86 : am_F RX11 86 11 10 := ⟨RX11, TX11, 15, rfl, by decide, KX11.2.1, am_t2 222 rfl rfl⟩
set_option maxRecDepth 20000 in
theorem pX11_86 : am_Fw RX11 86 11 10 true (tyX11 10) := ⟨RX11, TX11, 15, tyX11, KX11, by decide, am_t2 222 rfl rfl, rfl, rfl, rfl⟩
set_option maxRecDepth 20000 in
theorem fX11_93 : am_F RX11 93 11 11 := ⟨RX11, TX11, 15, rfl, by decide, KX11.2.1, am_t2 223 rfl rfl⟩
set_option maxRecDepth 20000 in
theorem pX11_93 : am_Fw RX11 93 11 11 true (tyX11 11) := ⟨RX11, TX11, 15, tyX11, KX11, by decide, am_t2 223 rfl rfl, rfl, rfl, rfl⟩
set_option maxRecDepth 20000 in
theorem fX11_97 : am_F RX11 97 11 12 := ⟨RX11, TX11, 15, rfl, by decide, KX11.2.1, am_t2 224 rfl rfl⟩
set_option maxRecDepth 20000 in
theorem pX11_97 : am_Fw RX11 97 11 12 true (tyX11 12) := ⟨RX11, TX11, 15, tyX11, KX11, by decide, am_t2 224 rfl rfl, rfl, rfl, rfl⟩
set_option maxRecDepth 20000 in
theorem fX11_101 : am_F RX11 101 11 13 := ⟨RX11, TX11, 15, rfl, by decide, KX11.2.1, am_t2 225 rfl rfl⟩
set_option maxRecDepth 20000 in
theorem pX11_101 : am_Fw RX11 101 11 13 false (tyX11 13) := ⟨RX11, TX11, 15, tyX11, KX11, by decide, am_t2 225 rfl rfl, rfl, rfl, rfl⟩
set_option maxRecDepth 20000 in
theorem fX11_105 : am_F RX11 105 11 14 := ⟨RX11, TX11, 15, rfl, by decide, KX11.2.1, am_t2 226 rfl rfl⟩
set_option maxRecDepth 20000 in
theorem pX11_105 : am_Fw RX11 105 11 14 false (tyX11 14) := ⟨RX11, TX11, 15, tyX11, KX11, by decide, am_t2 226 rfl rfl, rfl, rfl, rfl⟩
set_option maxRecDepth 20000 in
theorem gJ0_38 : Cond.fieldLink RJ0 38 "java/lang/String" "COMPACT_STRINGS" "Z" ∈ am_tbl := am_t3 151 rfl rfl
set_option maxRecDepth 20000 in
theorem gJ0_1053 : Cond.fieldLink RJ0 1053 "jdk/internal/util/Preconditions" "SIOOBE_FORMATTER" "Ljava/util/function/BiFunction;" ∈ am_tbl := am_t3 167 rfl rfl
set_option maxRecDepth 20000 in
theorem gJ2_44 : Cond.fieldLink RJ2 44 "java/lang/StringUTF16" "$assertionsDisabled" "Z" ∈ am_tbl := am_t3 185 rfl rfl
set_option maxRecDepth 20000 in
theorem gJ2_59 : Cond.fieldLink RJ2 59 "java/lang/StringUTF16" "HI_BYTE_SHIFT" "I" ∈ am_tbl := am_t3 187 rfl rfl
set_option maxRecDepth 20000 in
theorem gJ2_63 : Cond.fieldLink RJ2 63 "java/lang/StringUTF16" "LO_BYTE_SHIFT" "I" ∈ am_tbl := am_t3 189 rfl rfl
set_option maxRecDepth 20000 in
theorem gX10_121 : Cond.fieldLink RX10 121 "TopSays$Ways" "ROWS" "[I" ∈ am_tbl := am_t5 33 rfl rfl
set_option maxRecDepth 20000 in
theorem fX12_3 : am_F RX12 3 12 0 := ⟨RX12, TX12, 58, rfl, by decide, KX12.2.1, am_t6 8 rfl rfl⟩
set_option maxRecDepth 20000 in
theorem pX12_3 : am_Fw RX12 3 12 0 false (tyX12 0) := ⟨RX12, TX12, 58, tyX12, KX12, by decide, am_t6 8 rfl rfl, rfl, rfl, rfl⟩
set_option maxRecDepth 20000 in
theorem fX12_7 : am_F RX12 7 12 1 := ⟨RX12, TX12, 58, rfl, by decide, KX12.2.1, am_t6 9 rfl rfl⟩
set_option maxRecDepth 20000 in
theorem pX12_7 : am_Fw RX12 7 12 1 true (tyX12 1) := ⟨RX12, TX12, 58, tyX12, KX12, by decide, am_t6 9 rfl rfl, rfl, rfl, rfl⟩
set_option maxRecDepth 20000 in
theorem fX12_24 : am_F RX12 24 12 2 := ⟨RX12, TX12, 58, rfl, by decide, KX12.2.1, am_t6 10 rfl rfl⟩
set_option maxRecDepth 20000 in
theorem pX12_24 : am_Fw RX12 24 12 2 true (tyX12 2) := ⟨RX12, TX12, 58, tyX12, KX12, by decide, am_t6 10 rfl rfl, rfl, rfl, rfl⟩
set_option maxRecDepth 20000 in
theorem fX12_27 : am_F RX12 27 12 3 := ⟨RX12, TX12, 58, rfl, by decide, KX12.2.1, am_t6 11 rfl rfl⟩
set_option maxRecDepth 20000 in
theorem pX12_27 : am_Fw RX12 27 12 3 true (tyX12 3) := ⟨RX12, TX12, 58, tyX12, KX12, by decide, am_t6 11 rfl rfl, rfl, rfl, rfl⟩
set_option maxRecDepth 20000 in
theorem fX12_30 : am_F RX12 30 12 4 := ⟨RX12, TX12, 58, rfl, by decide, KX12.2.1, am_t6 12 rfl rfl⟩
set_option maxRecDepth 20000 in
theorem pX12_30 : am_Fw RX12 30 12 4 true (tyX12 4) := ⟨RX12, TX12, 58, tyX12, KX12, by decide, am_t6 12 rfl rfl, rfl, rfl, rfl⟩
set_option maxRecDepth 20000 in
theorem fX12_34 : am_F RX12 34 12 5 := ⟨RX12, TX12, 58, rfl, by decide, KX12.2.1, am_t6 13 rfl rfl⟩
set_option maxRecDepth 20000 in
theorem pX12_34 : am_Fw RX12 34 12 5 true (tyX12 5) := ⟨RX12, TX12, 58, tyX12, KX12, by decide, am_t6 13 rfl rfl, rfl, rfl, rfl⟩
set_option maxRecDepth 20000 in
theorem fX12_37 : am_F RX12 37 12 6 := ⟨RX12, TX12, 58, rfl, by decide, KX12.2.1, am_t6 14 rfl rfl⟩
set_option maxRecDepth 20000 in
theorem pX12_37 : am_Fw RX12 37 12 6 true (tyX12 6) := ⟨RX12, TX12, 58, tyX12, KX12, by decide, am_t6 14 rfl rfl, rfl, rfl, rfl⟩
set_option maxRecDepth 20000 in
theorem fX12_225 : am_F RX12 225 12 7 := ⟨RX12, TX12, 58, rfl, by decide, KX12.2.1, am_t6 15 rfl rfl⟩
set_option maxRecDepth 20000 in
theorem pX12_225 : am_Fw RX12 225 12 7 false (tyX12 7) := ⟨RX12, TX12, 58, tyX12, KX12, by decide, am_t6 15 rfl rfl, rfl, rfl, rfl⟩
set_option maxRecDepth 20000 in
theorem fX12_228 : am_F RX12 228 12 8 := ⟨RX12, TX12, 58, rfl, by decide, KX12.2.1, am_t6 16 rfl rfl⟩
set_option maxRecDepth 20000 in
theorem pX12_228 : am_Fw RX12 228 12 8 false (tyX12 8) := ⟨RX12, TX12, 58, tyX12, KX12, by decide, am_t6 16 rfl rfl, rfl, rfl, rfl⟩
set_option maxRecDepth 20000 in
theorem fX12_199 : am_F RX12 199 12 9 := ⟨RX12, TX12, 58, rfl, by decide, KX12.2.1, am_t6 17 rfl rfl⟩
set_option maxRecDepth 20000 in
theorem pX12_199 : am_Fw RX12 199 12 9 false (tyX12 9) := ⟨RX12, TX12, 58, tyX12, KX12, by decide, am_t6 17 rfl rfl, rfl, rfl, rfl⟩
set_option maxRecDepth 20000 in
theorem fX12_41 : am_F RX12 41 12 10 := ⟨RX12, TX12, 58, rfl, by decide, KX12.2.1, am_t6 18 rfl rfl⟩
set_option maxRecDepth 20000 in
theorem pX12_41 : am_Fw RX12 41 12 10 true (tyX12 10) := ⟨RX12, TX12, 58, tyX12, KX12, by decide, am_t6 18 rfl rfl, rfl, rfl, rfl⟩
set_option maxRecDepth 20000 in
theorem fX12_44 : am_F RX12 44 12 11 := ⟨RX12, TX12, 58, rfl, by decide, KX12.2.1, am_t6 19 rfl rfl⟩
set_option maxRecDepth 20000 in
theorem pX12_44 : am_Fw RX12 44 12 11 true (tyX12 11) := ⟨RX12, TX12, 58, tyX12, KX12, by decide, am_t6 19 rfl rfl, rfl, rfl, rfl⟩
set_option maxRecDepth 20000 in
theorem fX12_115 : am_F RX12 115 12 12 := ⟨RX12, TX12, 58, rfl, by decide, KX12.2.1, am_t6 20 rfl rfl⟩
set_option maxRecDepth 20000 in
theorem pX12_115 : am_Fw RX12 115 12 12 false (tyX12 12) := ⟨RX12, TX12, 58, tyX12, KX12, by decide, am_t6 20 rfl rfl, rfl, rfl, rfl⟩
set_option maxRecDepth 20000 in
theorem fX12_47 : am_F RX12 47 12 13 := ⟨RX12, TX12, 58, rfl, by decide, KX12.2.1, am_t6 21 rfl rfl⟩
set_option maxRecDepth 20000 in
theorem pX12_47 : am_Fw RX12 47 12 13 false (tyX12 13) := ⟨RX12, TX12, 58, tyX12, KX12, by decide, am_t6 21 rfl rfl, rfl, rfl, rfl⟩
set_option maxRecDepth 20000 in
theorem fX12_50 : am_F RX12 50 12 14 := ⟨RX12, TX12, 58, rfl, by decide, KX12.2.1, am_t6 22 rfl rfl⟩
set_option maxRecDepth 20000 in
theorem pX12_50 : am_Fw RX12 50 12 14 true (tyX12 14) := ⟨RX12, TX12, 58, tyX12, KX12, by decide, am_t6 22 rfl rfl, rfl, rfl, rfl⟩
set_option maxRecDepth 20000 in
theorem fX12_53 : am_F RX12 53 12 15 := ⟨RX12, TX12, 58, rfl, by decide, KX12.2.1, am_t6 23 rfl rfl⟩
set_option maxRecDepth 20000 in
theorem pX12_53 : am_Fw RX12 53 12 15 true (tyX12 15) := ⟨RX12, TX12, 58, tyX12, KX12, by decide, am_t6 23 rfl rfl, rfl, rfl, rfl⟩
set_option maxRecDepth 20000 in
theorem fX12_56 : am_F RX12 56 12 16 := ⟨RX12, TX12, 58, rfl, by decide, KX12.2.1, am_t6 24 rfl rfl⟩
set_option maxRecDepth 20000 in
theorem pX12_56 : am_Fw RX12 56 12 16 true (tyX12 16) := ⟨RX12, TX12, 58, tyX12, KX12, by decide, am_t6 24 rfl rfl, rfl, rfl, rfl⟩
set_option maxRecDepth 20000 in
theorem fX12_154 : am_F RX12 154 12 17 := ⟨RX12, TX12, 58, rfl, by decide, KX12.2.1, am_t6 25 rfl rfl⟩
set_option maxRecDepth 20000 in
theorem pX12_154 : am_Fw RX12 154 12 17 false (tyX12 17) := ⟨RX12, TX12, 58, tyX12, KX12, by decide, am_t6 25 rfl rfl, rfl, rfl, rfl⟩
set_option maxRecDepth 20000 in
theorem fX12_174 : am_F RX12 174 12 18 := ⟨RX12, TX12, 58, rfl, by decide, KX12.2.1, am_t6 26 rfl rfl⟩
set_option maxRecDepth 20000 in
theorem pX12_174 : am_Fw RX12 174 12 18 false (tyX12 18) := ⟨RX12, TX12, 58, tyX12, KX12, by decide, am_t6 26 rfl rfl, rfl, rfl, rfl⟩
set_option maxRecDepth 20000 in
theorem fX12_183 : am_F RX12 183 12 19 := ⟨RX12, TX12, 58, rfl, by decide, KX12.2.1, am_t6 27 rfl rfl⟩
set_option maxRecDepth 20000 in
theorem pX12_183 : am_Fw RX12 183 12 19 false (tyX12 19) := ⟨RX12, TX12, 58, tyX12, KX12, by decide, am_t6 27 rfl rfl, rfl, rfl, rfl⟩
set_option maxRecDepth 20000 in
theorem fX12_168 : am_F RX12 168 12 20 := ⟨RX12, TX12, 58, rfl, by decide, KX12.2.1, am_t6 28 rfl rfl⟩
set_option maxRecDepth 20000 in
theorem pX12_168 : am_Fw RX12 168 12 20 false (tyX12 20) := ⟨RX12, TX12, 58, tyX12, KX12, by decide, am_t6 28 rfl rfl, rfl, rfl, rfl⟩
set_option maxRecDepth 20000 in
theorem fX12_256 : am_F RX12 256 12 21 := ⟨RX12, TX12, 58, rfl, by decide, KX12.2.1, am_t6 29 rfl rfl⟩
set_option maxRecDepth 20000 in
theorem pX12_256 : am_Fw RX12 256 12 21 false (tyX12 21) := ⟨RX12, TX12, 58, tyX12, KX12, by decide, am_t6 29 rfl rfl, rfl, rfl, rfl⟩
set_option maxRecDepth 20000 in
theorem fX12_253 : am_F RX12 253 12 22 := ⟨RX12, TX12, 58, rfl, by decide, KX12.2.1, am_t6 30 rfl rfl⟩
set_option maxRecDepth 20000 in
theorem pX12_253 : am_Fw RX12 253 12 22 false (tyX12 22) := ⟨RX12, TX12, 58, tyX12, KX12, by decide, am_t6 30 rfl rfl, rfl, rfl, rfl⟩
set_option maxRecDepth 20000 in
theorem fX12_266 : am_F RX12 266 12 23 := ⟨RX12, TX12, 58, rfl, by decide, KX12.2.1, am_t6 31 rfl rfl⟩
set_option maxRecDepth 20000 in
theorem pX12_266 : am_Fw RX12 266 12 23 false (tyX12 23) := ⟨RX12, TX12, 58, tyX12, KX12, by decide, am_t6 31 rfl rfl, rfl, rfl, rfl⟩
set_option maxRecDepth 20000 in
theorem fX12_289 : am_F RX12 289 12 24 := ⟨RX12, TX12, 58, rfl, by decide, KX12.2.1, am_t6 32 rfl rfl⟩
set_option maxRecDepth 20000 in
theorem pX12_289 : am_Fw RX12 289 12 24 false (tyX12 24) := ⟨RX12, TX12, 58, tyX12, KX12, by decide, am_t6 32 rfl rfl, rfl, rfl, rfl⟩
set_option maxRecDepth 20000 in
theorem fX12_307 : am_F RX12 307 12 25 := ⟨RX12, TX12, 58, rfl, by decide, KX12.2.1, am_t6 33 rfl rfl⟩
set_option maxRecDepth 20000 in
theorem pX12_307 : am_Fw RX12 307 12 25 false (tyX12 25) := ⟨RX12, TX12, 58, tyX12, KX12, by decide, am_t6 33 rfl rfl, rfl, rfl, rfl⟩
set_option maxRecDepth 20000 in
theorem fX12_310 : am_F RX12 310 12 26 := ⟨RX12, TX12, 58, rfl, by decide, KX12.2.1, am_t6 34 rfl rfl⟩
set_option maxRecDepth 20000 in
theorem pX12_310 : am_Fw RX12 310 12 26 false (tyX12 26) := ⟨RX12, TX12, 58, tyX12, KX12, by decide, am_t6 34 rfl rfl, rfl, rfl, rfl⟩
set_option maxRecDepth 20000 in
theorem fX12_59 : am_F RX12 59 12 27 := ⟨RX12, TX12, 58, rfl, by decide, KX12.2.1, am_t6 35 rfl rfl⟩
set_option maxRecDepth 20000 in
theorem pX12_59 : am_Fw RX12 59 12 27 true (tyX12 27) := ⟨RX12, TX12, 58, tyX12, KX12, by decide, am_t6 35 rfl rfl, rfl, rfl, rfl⟩
set_option maxRecDepth 20000 in
theorem fX12_62 : am_F RX12 62 12 28 := ⟨RX12, TX12, 58, rfl, by decide, KX12.2.1, am_t6 36 rfl rfl⟩
set_option maxRecDepth 20000 in
theorem pX12_62 : am_Fw RX12 62 12 28 true (tyX12 28) := ⟨RX12, TX12, 58, tyX12, KX12, by decide, am_t6 36 rfl rfl, rfl, rfl, rfl⟩
set_option maxRecDepth 20000 in
theorem fX12_65 : am_F RX12 65 12 29 := ⟨RX12, TX12, 58, rfl, by decide, KX12.2.1, am_t6 37 rfl rfl⟩
set_option maxRecDepth 20000 in
theorem pX12_65 : am_Fw RX12 65 12 29 true (tyX12 29) := ⟨RX12, TX12, 58, tyX12, KX12, by decide, am_t6 37 rfl rfl, rfl, rfl, rfl⟩
set_option maxRecDepth 20000 in
theorem fX12_68 : am_F RX12 68 12 30 := ⟨RX12, TX12, 58, rfl, by decide, KX12.2.1, am_t6 38 rfl rfl⟩
set_option maxRecDepth 20000 in
theorem pX12_68 : am_Fw RX12 68 12 30 true (tyX12 30) := ⟨RX12, TX12, 58, tyX12, KX12, by decide, am_t6 38 rfl rfl, rfl, rfl, rfl⟩
set_option maxRecDepth 20000 in
theorem fX12_130 : am_F RX12 130 12 31 := ⟨RX12, TX12, 58, rfl, by decide, KX12.2.1, am_t6 39 rfl rfl⟩
set_option maxRecDepth 20000 in
theorem pX12_130 : am_Fw RX12 130 12 31 false (tyX12 31) := ⟨RX12, TX12, 58, tyX12, KX12, by decide, am_t6 39 rfl rfl, rfl, rfl, rfl⟩
set_option maxRecDepth 20000 in
theorem fX12_133 : am_F RX12 133 12 32 := ⟨RX12, TX12, 58, rfl, by decide, KX12.2.1, am_t6 40 rfl rfl⟩
set_option maxRecDepth 20000 in
theorem pX12_133 : am_Fw RX12 133 12 32 false (tyX12 32) := ⟨RX12, TX12, 58, tyX12, KX12, by decide, am_t6 40 rfl rfl, rfl, rfl, rfl⟩
set_option maxRecDepth 20000 in
theorem fX12_313 : am_F RX12 313 12 33 := ⟨RX12, TX12, 58, rfl, by decide, KX12.2.1, am_t6 41 rfl rfl⟩
set_option maxRecDepth 20000 in
theorem pX12_313 : am_Fw RX12 313 12 33 false (tyX12 33) := ⟨RX12, TX12, 58, tyX12, KX12, by decide, am_t6 41 rfl rfl, rfl, rfl, rfl⟩
set_option maxRecDepth 20000 in
theorem fX12_71 : am_F RX12 71 12 34 := ⟨RX12, TX12, 58, rfl, by decide, KX12.2.1, am_t6 42 rfl rfl⟩
set_option maxRecDepth 20000 in
theorem pX12_71 : am_Fw RX12 71 12 34 true (tyX12 34) := ⟨RX12, TX12, 58, tyX12, KX12, by decide, am_t6 42 rfl rfl, rfl, rfl, rfl⟩
set_option maxRecDepth 20000 in
theorem fX12_336 : am_F RX12 336 12 35 := ⟨RX12, TX12, 58, rfl, by decide, KX12.2.1, am_t6 43 rfl rfl⟩
set_option maxRecDepth 20000 in
theorem pX12_336 : am_Fw RX12 336 12 35 false (tyX12 35) := ⟨RX12, TX12, 58, tyX12, KX12, by decide, am_t6 43 rfl rfl, rfl, rfl, rfl⟩
set_option maxRecDepth 20000 in
theorem fX12_333 : am_F RX12 333 12 36 := ⟨RX12, TX12, 58, rfl, by decide, KX12.2.1, am_t6 44 rfl rfl⟩
set_option maxRecDepth 20000 in
theorem pX12_333 : am_Fw RX12 333 12 36 false (tyX12 36) := ⟨RX12, TX12, 58, tyX12, KX12, by decide, am_t6 44 rfl rfl, rfl, rfl, rfl⟩
set_option maxRecDepth 20000 in
theorem fX12_74 : am_F RX12 74 12 37 := ⟨RX12, TX12, 58, rfl, by decide, KX12.2.1, am_t6 45 rfl rfl⟩
set_option maxRecDepth 20000 in
theorem pX12_74 : am_Fw RX12 74 12 37 true (tyX12 37) := ⟨RX12, TX12, 58, tyX12, KX12, by decide, am_t6 45 rfl rfl, rfl, rfl, rfl⟩
set_option maxRecDepth 20000 in
theorem fX12_77 : am_F RX12 77 12 38 := ⟨RX12, TX12, 58, rfl, by decide, KX12.2.1, am_t6 46 rfl rfl⟩
set_option maxRecDepth 20000 in
theorem pX12_77 : am_Fw RX12 77 12 38 true (tyX12 38) := ⟨RX12, TX12, 58, tyX12, KX12, by decide, am_t6 46 rfl rfl, rfl, rfl, rfl⟩
set_option maxRecDepth 20000 in
theorem fX12_11 : am_F RX12 11 12 39 := ⟨RX12, TX12, 58, rfl, by decide, KX12.2.1, am_t6 47 rfl rfl⟩
set_option maxRecDepth 20000 in
theorem pX12_11 : am_Fw RX12 11 12 39 false (tyX12 39) := ⟨RX12, TX12, 58, tyX12, KX12, by decide, am_t6 47 rfl rfl, rfl, rfl, rfl⟩
set_option maxRecDepth 20000 in
theorem fX12_80 : am_F RX12 80 12 40 := ⟨RX12, TX12, 58, rfl, by decide, KX12.2.1, am_t6 48 rfl rfl⟩
set_option maxRecDepth 20000 in
theorem pX12_80 : am_Fw RX12 80 12 40 true (tyX12 40) := ⟨RX12, TX12, 58, tyX12, KX12, by decide, am_t6 48 rfl rfl, rfl, rfl, rfl⟩
set_option maxRecDepth 20000 in
theorem fX12_378 : am_F RX12 378 12 41 := ⟨RX12, TX12, 58, rfl, by decide, KX12.2.1, am_t6 49 rfl rfl⟩
set_option maxRecDepth 20000 in
theorem pX12_378 : am_Fw RX12 378 12 41 false (tyX12 41) := ⟨RX12, TX12, 58, tyX12, KX12, by decide, am_t6 49 rfl rfl, rfl, rfl, rfl⟩
set_option maxRecDepth 20000 in
theorem fX12_83 : am_F RX12 83 12 42 := ⟨RX12, TX12, 58, rfl, by decide, KX12.2.1, am_t6 50 rfl rfl⟩
set_option maxRecDepth 20000 in
theorem pX12_83 : am_Fw RX12 83 12 42 true (tyX12 42) := ⟨RX12, TX12, 58, tyX12, KX12, by decide, am_t6 50 rfl rfl, rfl, rfl, rfl⟩
set_option maxRecDepth 20000 in
theorem fX12_415 : am_F RX12 415 12 43 := ⟨RX12, TX12, 58, rfl, by decide, KX12.2.1, am_t6 51 rfl rfl⟩
set_option maxRecDepth 20000 in
theorem pX12_415 : am_Fw RX12 415 12 43 false (tyX12 43) := ⟨RX12, TX12, 58, tyX12, KX12, by decide, am_t6 51 rfl rfl, rfl, rfl, rfl⟩
set_option maxRecDepth 20000 in
theorem fX12_418 : am_F RX12 418 12 44 := ⟨RX12, TX12, 58, rfl, by decide, KX12.2.1, am_t6 52 rfl rfl⟩
set_option maxRecDepth 20000 in
theorem pX12_418 : am_Fw RX12 418 12 44 false (tyX12 44) := ⟨RX12, TX12, 58, tyX12, KX12, by decide, am_t6 52 rfl rfl, rfl, rfl, rfl⟩
set_option maxRecDepth 20000 in
theorem fX12_86 : am_F RX12 86 12 45 := ⟨RX12, TX12, 58, rfl, by decide, KX12.2.1, am_t6 53 rfl rfl⟩
set_option maxRecDepth 20000 in
theorem pX12_86 : am_Fw RX12 86 12 45 true (tyX12 45) := ⟨RX12, TX12, 58, tyX12, KX12, by decide, am_t6 53 rfl rfl, rfl, rfl, rfl⟩
set_option maxRecDepth 20000 in
theorem fX12_89 : am_F RX12 89 12 46 := ⟨RX12, TX12, 58, rfl, by decide, KX12.2.1, am_t6 54 rfl rfl⟩
set_option maxRecDepth 20000 in
theorem pX12_89 : am_Fw RX12 89 12 46 false (tyX12 46) := ⟨RX12, TX12, 58, tyX12, KX12, by decide, am_t6 54 rfl rfl, rfl, rfl, rfl⟩
set_option maxRecDepth 20000 in
theorem fX12_431 : am_F RX12 431 12 47 := ⟨RX12, TX12, 58, rfl, by decide, KX12.2.1, am_t6 55 rfl rfl⟩
set_option maxRecDepth 20000 in
theorem pX12_431 : am_Fw RX12 431 12 47 false (tyX12 47) := ⟨RX12, TX12, 58, tyX12, KX12, by decide, am_t6 55 rfl rfl, rfl, rfl, rfl⟩
set_option maxRecDepth 20000 in
theorem fX12_443 : am_F RX12 443 12 48 := ⟨RX12, TX12, 58, rfl, by decide, KX12.2.1, am_t6 56 rfl rfl⟩
set_option maxRecDepth 20000 in
theorem pX12_443 : am_Fw RX12 443 12 48 false (tyX12 48) := ⟨RX12, TX12, 58, tyX12, KX12, by decide, am_t6 56 rfl rfl, rfl, rfl, rfl⟩
set_option maxRecDepth 20000 in
theorem fX12_437 : am_F RX12 437 12 49 := ⟨RX12, TX12, 58, rfl, by decide, KX12.2.1, am_t6 57 rfl rfl⟩
set_option maxRecDepth 20000 in
theorem pX12_437 : am_Fw RX12 437 12 49 false (tyX12 49) := ⟨RX12, TX12, 58, tyX12, KX12, by decide, am_t6 57 rfl rfl, rfl, rfl, rfl⟩
set_option maxRecDepth 20000 in
theorem fX12_440 : am_F RX12 440 12 50 := ⟨RX12, TX12, 58, rfl, by decide, KX12.2.1, am_t6 58 rfl rfl⟩
set_option maxRecDepth 20000 in
theorem pX12_440 : am_Fw RX12 440 12 50 false (tyX12 50) := ⟨RX12, TX12, 58, tyX12, KX12, by decide, am_t6 58 rfl rfl, rfl, rfl, rfl⟩
set_option maxRecDepth 20000 in
theorem fX12_446 : am_F RX12 446 12 51 := ⟨RX12, TX12, 58, rfl, by decide, KX12.2.1, am_t6 59 rfl rfl⟩
set_option maxRecDepth 20000 in
theorem pX12_446 : am_Fw RX12 446 12 51 false (tyX12 51) := ⟨RX12, TX12, 58, tyX12, KX12, by decide, am_t6 59 rfl rfl, rfl, rfl, rfl⟩
set_option maxRecDepth 20000 in
theorem fX12_92 : am_F RX12 92 12 52 := ⟨RX12, TX12, 58, rfl, by decide, KX12.2.1, am_t6 60 rfl rfl⟩
set_option maxRecDepth 20000 in
theorem pX12_92 : am_Fw RX12 92 12 52 true (tyX12 52) := ⟨RX12, TX12, 58, tyX12, KX12, by decide, am_t6 60 rfl rfl, rfl, rfl, rfl⟩
set_option maxRecDepth 20000 in
theorem fX12_96 : am_F RX12 96 12 53 := ⟨RX12, TX12, 58, rfl, by decide, KX12.2.1, am_t6 61 rfl rfl⟩
set_option maxRecDepth 20000 in
theorem pX12_96 : am_Fw RX12 96 12 53 true (tyX12 53) := ⟨RX12, TX12, 58, tyX12, KX12, by decide, am_t6 61 rfl rfl, rfl, rfl, rfl⟩
set_option maxRecDepth 20000 in
theorem fX12_99 : am_F RX12 99 12 54 := ⟨RX12, TX12, 58, rfl, by decide, KX12.2.1, am_t6 62 rfl rfl⟩
set_option maxRecDepth 20000 in
theorem pX12_99 : am_Fw RX12 99 12 54 false (tyX12 54) := ⟨RX12, TX12, 58, tyX12, KX12, by decide, am_t6 62 rfl rfl, rfl, rfl, rfl⟩
set_option maxRecDepth 20000 in
theorem fX12_473 : am_F RX12 473 12 55 := ⟨RX12, TX12, 58, rfl, by decide, KX12.2.1, am_t6 63 rfl rfl⟩
set_option maxRecDepth 20000 in
theorem pX12_473 : am_Fw RX12 473 12 55 false (tyX12 55) := ⟨RX12, TX12, 58, tyX12, KX12, by decide, am_t6 63 rfl rfl, rfl, rfl, rfl⟩
set_option maxRecDepth 20000 in
theorem fX12_476 : am_F RX12 476 12 56 := ⟨RX12, TX12, 58, rfl, by decide, KX12.2.1, am_t6 64 rfl rfl⟩
set_option maxRecDepth 20000 in
theorem pX12_476 : am_Fw RX12 476 12 56 false (tyX12 56) := ⟨RX12, TX12, 58, tyX12, KX12, by decide, am_t6 64 rfl rfl, rfl, rfl, rfl⟩
set_option maxRecDepth 20000 in
theorem fX12_463 : am_F RX12 463 12 57 := ⟨RX12, TX12, 58, rfl, by decide, KX12.2.1, am_t6 65 rfl rfl⟩
set_option maxRecDepth 20000 in
theorem pX12_463 : am_Fw RX12 463 12 57 false (tyX12 57) := ⟨RX12, TX12, 58, tyX12, KX12, by decide, am_t6 65 rfl rfl, rfl, rfl, rfl⟩
set_option maxRecDepth 20000 in
theorem gJ0_9 : Cond.fieldLink RJ0 9 "java/lang/String" "value" "[B" ∈ am_tbl := am_t8 170 rfl rfl
set_option maxRecDepth 20000 in
theorem gJ0_15 : Cond.fieldLink RJ0 15 "java/lang/String" "coder" "B" ∈ am_tbl := am_t8 171 rfl rfl
set_option maxRecDepth 20000 in
theorem wL_7 : Cond.classLink RL 7 RX11 ∈ am_tbl := am_t1 22 rfl rfl
set_option maxRecDepth 20000 in
theorem nL_7 : am_N RL 7 11 15 [.null, .null, .null, .null, .null, .null, .null, .null, .null, .null, .null, .null, .null, .int 0, .int 0] := ⟨RX11, TX11, tyX11, KX11, wL_7, am_t1 23 rfl rfl, ziRX11, fun E j hj => by rcases (show j = 0 ∨ j = 1 ∨ j = 2 ∨ j = 3 ∨ j = 4 ∨ j = 5 ∨ j = 6 ∨ j = 7 ∨ j = 8 ∨ j = 9 ∨ j = 10 ∨ j = 11 ∨ j = 12 ∨ j = 13 ∨ j = 14 by omega) with rfl | rfl | rfl | rfl | rfl | rfl | rfl | rfl | rfl | rfl | rfl | rfl | rfl | rfl | rfl <;> rfl⟩
set_option maxRecDepth 20000 in
theorem wX11_7 : Cond.classLink RX11 7 RX8 ∈ am_tbl := am_t1 30 rfl rfl
set_option maxRecDepth 20000 in
theorem nX11_7 : am_N RX11 7 8 5 [.null, .int 0, .int 0, .int 0, .int 0] := ⟨RX8, TX8, tyX8, KX8, wX11_7, am_t1 31 rfl rfl, ziRX8, fun E j hj => by rcases (show j = 0 ∨ j = 1 ∨ j = 2 ∨ j = 3 ∨ j = 4 by omega) with rfl | rfl | rfl | rfl | rfl <;> rfl⟩
set_option maxRecDepth 20000 in
theorem wX11_16 : Cond.classLink RX11 16 RX7 ∈ am_tbl := am_t1 57 rfl rfl
set_option maxRecDepth 20000 in
theorem nX11_16 : am_N RX11 16 7 10 [.int 0, .int 0, .int 0, .int 0, .int 0, .int 0, .null, .null, .null, .null] := ⟨RX7, TX7, tyX7, KX7, wX11_16, am_t1 58 rfl rfl, ziRX7, fun E j hj => by rcases (show j = 0 ∨ j = 1 ∨ j = 2 ∨ j = 3 ∨ j = 4 ∨ j = 5 ∨ j = 6 ∨ j = 7 ∨ j = 8 ∨ j = 9 by omega) with rfl | rfl | rfl | rfl | rfl | rfl | rfl | rfl | rfl | rfl <;> rfl⟩
set_option maxRecDepth 20000 in
theorem wX7_18 : Cond.classLink RX7 18 RX4 ∈ am_tbl := am_t1 63 rfl rfl
set_option maxRecDepth 20000 in
theorem nX7_18 : am_N RX7 18 4 5 [.null, .int 0, .int 0, .int 0, .int 0] := ⟨RX4, TX4, tyX4, KX4, wX7_18, am_t1 67 rfl rfl, ziRX4, fun E j hj => by rcases (show j = 0 ∨ j = 1 ∨ j = 2 ∨ j = 3 ∨ j = 4 by omega) with rfl | rfl | rfl | rfl | rfl <;> rfl⟩
set_option maxRecDepth 20000 in
theorem wX7_31 : Cond.classLink RX7 31 RX9 ∈ am_tbl := am_t1 65 rfl rfl
set_option maxRecDepth 20000 in
theorem nX7_31 : am_N RX7 31 9 9 [.null, .int 0, .int 0, .null, .null, .null, .null, .null, .int 0] := ⟨RX9, TX9, tyX9, KX9, wX7_31, am_t1 187 rfl rfl, ziRX9, fun E j hj => by rcases (show j = 0 ∨ j = 1 ∨ j = 2 ∨ j = 3 ∨ j = 4 ∨ j = 5 ∨ j = 6 ∨ j = 7 ∨ j = 8 by omega) with rfl | rfl | rfl | rfl | rfl | rfl | rfl | rfl | rfl <;> rfl⟩
set_option maxRecDepth 20000 in
theorem wX11_31 : Cond.classLink RX11 31 RX2 ∈ am_tbl := am_t1 157 rfl rfl
set_option maxRecDepth 20000 in
theorem nX11_31 : am_N RX11 31 2 4 [.int 0, .int 0, .null, .null] := ⟨RX2, TX2, tyX2, KX2, wX11_31, am_t1 158 rfl rfl, ziRX2, fun E j hj => by rcases (show j = 0 ∨ j = 1 ∨ j = 2 ∨ j = 3 by omega) with rfl | rfl | rfl | rfl <;> rfl⟩
set_option maxRecDepth 20000 in
theorem wX2_11 : Cond.classLink RX2 11 RX4 ∈ am_tbl := am_t1 163 rfl rfl
set_option maxRecDepth 20000 in
theorem nX2_11 : am_N RX2 11 4 5 [.null, .int 0, .int 0, .int 0, .int 0] := ⟨RX4, TX4, tyX4, KX4, wX2_11, am_t1 67 rfl rfl, ziRX4, fun E j hj => by rcases (show j = 0 ∨ j = 1 ∨ j = 2 ∨ j = 3 ∨ j = 4 by omega) with rfl | rfl | rfl | rfl | rfl <;> rfl⟩
set_option maxRecDepth 20000 in
theorem wX11_38 : Cond.classLink RX11 38 RX3 ∈ am_tbl := am_t1 180 rfl rfl
set_option maxRecDepth 20000 in
theorem nX11_38 : am_N RX11 38 3 4 [.null, .null, .int 0, .int 0] := ⟨RX3, TX3, tyX3, KX3, wX11_38, am_t1 181 rfl rfl, ziRX3, fun E j hj => by rcases (show j = 0 ∨ j = 1 ∨ j = 2 ∨ j = 3 by omega) with rfl | rfl | rfl | rfl <;> rfl⟩
set_option maxRecDepth 20000 in
theorem wX3_9 : Cond.classLink RX3 9 RX9 ∈ am_tbl := am_t1 186 rfl rfl
set_option maxRecDepth 20000 in
theorem nX3_9 : am_N RX3 9 9 9 [.null, .int 0, .int 0, .null, .null, .null, .null, .null, .int 0] := ⟨RX9, TX9, tyX9, KX9, wX3_9, am_t1 187 rfl rfl, ziRX9, fun E j hj => by rcases (show j = 0 ∨ j = 1 ∨ j = 2 ∨ j = 3 ∨ j = 4 ∨ j = 5 ∨ j = 6 ∨ j = 7 ∨ j = 8 by omega) with rfl | rfl | rfl | rfl | rfl | rfl | rfl | rfl | rfl <;> rfl⟩
set_option maxRecDepth 20000 in
theorem wX11_47 : Cond.classLink RX11 47 RX6 ∈ am_tbl := am_t1 237 rfl rfl
set_option maxRecDepth 20000 in
theorem nX11_47 : am_N RX11 47 6 11 [.int 0, .int 0, .int 0, .int 0, .int 0, .int 0, .int 0, .int 0, .null, .null, .null] := ⟨RX6, TX6, tyX6, KX6, wX11_47, am_t1 238 rfl rfl, ziRX6, fun E j hj => by rcases (show j = 0 ∨ j = 1 ∨ j = 2 ∨ j = 3 ∨ j = 4 ∨ j = 5 ∨ j = 6 ∨ j = 7 ∨ j = 8 ∨ j = 9 ∨ j = 10 by omega) with rfl | rfl | rfl | rfl | rfl | rfl | rfl | rfl | rfl | rfl | rfl <;> rfl⟩
set_option maxRecDepth 20000 in
theorem wX11_56 : Cond.classLink RX11 56 RX1 ∈ am_tbl := am_t2 48 rfl rfl
set_option maxRecDepth 20000 in
theorem nX11_56 : am_N RX11 56 1 9 [.int 0, .null, .null, .null, .null, .null, .null, .int 0, .int 0] := ⟨RX1, TX1, tyX1, KX1, wX11_56, am_t2 49 rfl rfl, ziRX1, fun E j hj => by rcases (show j = 0 ∨ j = 1 ∨ j = 2 ∨ j = 3 ∨ j = 4 ∨ j = 5 ∨ j = 6 ∨ j = 7 ∨ j = 8 by omega) with rfl | rfl | rfl | rfl | rfl | rfl | rfl | rfl | rfl <;> rfl⟩
set_option maxRecDepth 20000 in
theorem wX1_15 : Cond.classLink RX1 15 RX7 ∈ am_tbl := am_t2 54 rfl rfl
set_option maxRecDepth 20000 in
theorem nX1_15 : am_N RX1 15 7 10 [.int 0, .int 0, .int 0, .int 0, .int 0, .int 0, .null, .null, .null, .null] := ⟨RX7, TX7, tyX7, KX7, wX1_15, am_t1 58 rfl rfl, ziRX7, fun E j hj => by rcases (show j = 0 ∨ j = 1 ∨ j = 2 ∨ j = 3 ∨ j = 4 ∨ j = 5 ∨ j = 6 ∨ j = 7 ∨ j = 8 ∨ j = 9 by omega) with rfl | rfl | rfl | rfl | rfl | rfl | rfl | rfl | rfl | rfl <;> rfl⟩
set_option maxRecDepth 20000 in
theorem wX1_22 : Cond.classLink RX1 22 RX2 ∈ am_tbl := am_t2 56 rfl rfl
set_option maxRecDepth 20000 in
theorem nX1_22 : am_N RX1 22 2 4 [.int 0, .int 0, .null, .null] := ⟨RX2, TX2, tyX2, KX2, wX1_22, am_t1 158 rfl rfl, ziRX2, fun E j hj => by rcases (show j = 0 ∨ j = 1 ∨ j = 2 ∨ j = 3 by omega) with rfl | rfl | rfl | rfl <;> rfl⟩
set_option maxRecDepth 20000 in
theorem wX11_65 : Cond.classLink RX11 65 RX10 ∈ am_tbl := am_t2 87 rfl rfl
set_option maxRecDepth 20000 in
theorem nX11_65 : am_N RX11 65 10 19 [.int 0, .int 0, .int 0, .null, .int 0, .int 0, .null, .null, .null, .null, .null, .null, .null, .null, .int 0, .int 0, .null, .null, .int 0] := ⟨RX10, TX10, tyX10, KX10, wX11_65, am_t2 88 rfl rfl, ziRX10, fun E j hj => by rcases (show j = 0 ∨ j = 1 ∨ j = 2 ∨ j = 3 ∨ j = 4 ∨ j = 5 ∨ j = 6 ∨ j = 7 ∨ j = 8 ∨ j = 9 ∨ j = 10 ∨ j = 11 ∨ j = 12 ∨ j = 13 ∨ j = 14 ∨ j = 15 ∨ j = 16 ∨ j = 17 ∨ j = 18 by omega) with rfl | rfl | rfl | rfl | rfl | rfl | rfl | rfl | rfl | rfl | rfl | rfl | rfl | rfl | rfl | rfl | rfl | rfl | rfl <;> rfl⟩
set_option maxRecDepth 20000 in
theorem wX10_15 : Cond.classLink RX10 15 RX4 ∈ am_tbl := am_t2 93 rfl rfl
set_option maxRecDepth 20000 in
theorem nX10_15 : am_N RX10 15 4 5 [.null, .int 0, .int 0, .int 0, .int 0] := ⟨RX4, TX4, tyX4, KX4, wX10_15, am_t1 67 rfl rfl, ziRX4, fun E j hj => by rcases (show j = 0 ∨ j = 1 ∨ j = 2 ∨ j = 3 ∨ j = 4 by omega) with rfl | rfl | rfl | rfl | rfl <;> rfl⟩
set_option maxRecDepth 20000 in
theorem wX11_74 : Cond.classLink RX11 74 RX5 ∈ am_tbl := am_t2 159 rfl rfl
set_option maxRecDepth 20000 in
theorem nX11_74 : am_N RX11 74 5 4 [.int 0, .null, .null, .int 0] := ⟨RX5, TX5, tyX5, KX5, wX11_74, am_t2 160 rfl rfl, ziRX5, fun E j hj => by rcases (show j = 0 ∨ j = 1 ∨ j = 2 ∨ j = 3 by omega) with rfl | rfl | rfl | rfl <;> rfl⟩
set_option maxRecDepth 20000 in
theorem wX11_81 : Cond.classLink RX11 81 RX0 ∈ am_tbl := am_t2 179 rfl rfl
set_option maxRecDepth 20000 in
theorem nX11_81 : am_N RX11 81 0 6 [.int 0, .int 0, .int 0, .null, .null, .long 0] := ⟨RX0, TX0, tyX0, KX0, wX11_81, am_t2 180 rfl rfl, ziRX0, fun E j hj => by rcases (show j = 0 ∨ j = 1 ∨ j = 2 ∨ j = 3 ∨ j = 4 ∨ j = 5 by omega) with rfl | rfl | rfl | rfl | rfl | rfl <;> rfl⟩
set_option maxRecDepth 20000 in
theorem wX0_9 : Cond.classLink RX0 9 RX4 ∈ am_tbl := am_t2 185 rfl rfl
set_option maxRecDepth 20000 in
theorem nX0_9 : am_N RX0 9 4 5 [.null, .int 0, .int 0, .int 0, .int 0] := ⟨RX4, TX4, tyX4, KX4, wX0_9, am_t1 67 rfl rfl, ziRX4, fun E j hj => by rcases (show j = 0 ∨ j = 1 ∨ j = 2 ∨ j = 3 ∨ j = 4 by omega) with rfl | rfl | rfl | rfl | rfl <;> rfl⟩
set_option maxRecDepth 20000 in
theorem wX11_90 : Cond.classLink RX11 90 RX4 ∈ am_tbl := am_t2 210 rfl rfl
set_option maxRecDepth 20000 in
theorem nX11_90 : am_N RX11 90 4 5 [.null, .int 0, .int 0, .int 0, .int 0] := ⟨RX4, TX4, tyX4, KX4, wX11_90, am_t1 67 rfl rfl, ziRX4, fun E j hj => by rcases (show j = 0 ∨ j = 1 ∨ j = 2 ∨ j = 3 ∨ j = 4 by omega) with rfl | rfl | rfl | rfl | rfl <;> rfl⟩
set_option maxRecDepth 20000 in
theorem wX9_11 : Cond.classLink RX9 11 RX9 ∈ am_tbl := am_t4 73 rfl rfl
set_option maxRecDepth 20000 in
theorem nX9_11 : am_N RX9 11 9 9 [.null, .int 0, .int 0, .null, .null, .null, .null, .null, .int 0] := ⟨RX9, TX9, tyX9, KX9, wX9_11, am_t1 187 rfl rfl, ziRX9, fun E j hj => by rcases (show j = 0 ∨ j = 1 ∨ j = 2 ∨ j = 3 ∨ j = 4 ∨ j = 5 ∨ j = 6 ∨ j = 7 ∨ j = 8 by omega) with rfl | rfl | rfl | rfl | rfl | rfl | rfl | rfl | rfl <;> rfl⟩
set_option maxRecDepth 20000 in
theorem wL_10 : Cond.classLink RL 10 RX12 ∈ am_tbl := am_t6 2 rfl rfl
set_option maxRecDepth 20000 in
theorem nL_10 : am_N RL 10 12 58 [.int 0, .null, .null, .null, .null, .null, .null, .int 0, .int 0, .int 0, .null, .null, .int 0, .int 0, .null, .null, .null, .int 0, .int 0, .int 0, .int 0, .int 0, .int 0, .int 0, .int 0, .int 0, .int 0, .null, .null, .null, .null, .int 0, .int 0, .int 0, .null, .int 0, .int 0, .null, .null, .int 0, .null, .int 0, .null, .int 0, .int 0, .null, .int 0, .int 0, .int 0, .int 0, .int 0, .int 0, .null, .null, .int 0, .int 0, .int 0, .int 0] := ⟨RX12, TX12, tyX12, KX12, wL_10, am_t6 3 rfl rfl, ziRX12, fun E j hj => by rcases (show j = 0 ∨ j = 1 ∨ j = 2 ∨ j = 3 ∨ j = 4 ∨ j = 5 ∨ j = 6 ∨ j = 7 ∨ j = 8 ∨ j = 9 ∨ j = 10 ∨ j = 11 ∨ j = 12 ∨ j = 13 ∨ j = 14 ∨ j = 15 ∨ j = 16 ∨ j = 17 ∨ j = 18 ∨ j = 19 ∨ j = 20 ∨ j = 21 ∨ j = 22 ∨ j = 23 ∨ j = 24 ∨ j = 25 ∨ j = 26 ∨ j = 27 ∨ j = 28 ∨ j = 29 ∨ j = 30 ∨ j = 31 ∨ j = 32 ∨ j = 33 ∨ j = 34 ∨ j = 35 ∨ j = 36 ∨ j = 37 ∨ j = 38 ∨ j = 39 ∨ j = 40 ∨ j = 41 ∨ j = 42 ∨ j = 43 ∨ j = 44 ∨ j = 45 ∨ j = 46 ∨ j = 47 ∨ j = 48 ∨ j = 49 ∨ j = 50 ∨ j = 51 ∨ j = 52 ∨ j = 53 ∨ j = 54 ∨ j = 55 ∨ j = 56 ∨ j = 57 by omega) with rfl | rfl | rfl | rfl | rfl | rfl | rfl | rfl | rfl | rfl | rfl | rfl | rfl | rfl | rfl | rfl | rfl | rfl | rfl | rfl | rfl | rfl | rfl | rfl | rfl | rfl | rfl | rfl | rfl | rfl | rfl | rfl | rfl | rfl | rfl | rfl | rfl | rfl | rfl | rfl | rfl | rfl | rfl | rfl | rfl | rfl | rfl | rfl | rfl | rfl | rfl | rfl | rfl | rfl | rfl | rfl | rfl | rfl <;> rfl⟩
set_option maxRecDepth 20000 in
theorem qX9_65 : Cond.constant RX9 65 (-2147483648) ∈ am_tbl := am_t3 93 rfl rfl
set_option maxRecDepth 20000 in
theorem qX1_125 : Cond.constant RX1 125 (-2147483648) ∈ am_tbl := am_t4 133 rfl rfl
set_option maxRecDepth 20000 in
theorem qJ6_265 : Cond.constant RJ6 265 (1431655765) ∈ am_tbl := am_t5 49 rfl rfl
set_option maxRecDepth 20000 in
theorem qJ6_266 : Cond.constant RJ6 266 (858993459) ∈ am_tbl := am_t5 50 rfl rfl
set_option maxRecDepth 20000 in
theorem qJ6_267 : Cond.constant RJ6 267 (252645135) ∈ am_tbl := am_t5 51 rfl rfl
set_option maxRecDepth 20000 in
theorem qX11_307 : Cond.constant RX11 307 (1000000) ∈ am_tbl := am_t5 200 rfl rfl
set_option maxRecDepth 20000 in
theorem qX12_167 : Cond.constant RX12 167 (1000000) ∈ am_tbl := am_t7 112 rfl rfl
set_option maxRecDepth 20000 in
theorem qX9_74 : Cond.constantLong RX9 74 (-2147483648) ∈ am_tbl := am_t3 97 rfl rfl
set_option maxRecDepth 20000 in
theorem qX9_70 : Cond.constantLong RX9 70 (-1000000000) ∈ am_tbl := am_t3 98 rfl rfl
set_option maxRecDepth 20000 in
theorem qX9_72 : Cond.constantLong RX9 72 (1000000000) ∈ am_tbl := am_t3 99 rfl rfl
set_option maxRecDepth 20000 in
theorem qX6_111 : Cond.constantLong RX6 111 (-1) ∈ am_tbl := am_t5 108 rfl rfl
set_option maxRecDepth 20000 in
theorem qX0_67 : Cond.constantLong RX0 67 (1103) ∈ am_tbl := am_t5 209 rfl rfl
set_option maxRecDepth 20000 in
theorem qX0_69 : Cond.constantLong RX0 69 (12345) ∈ am_tbl := am_t5 210 rfl rfl
set_option maxRecDepth 20000 in
theorem qX0_71 : Cond.constantLong RX0 71 (1000003) ∈ am_tbl := am_t5 211 rfl rfl
set_option maxRecDepth 20000 in
theorem qX12_262 : Cond.constantLong RX12 262 (1000000000) ∈ am_tbl := am_t7 35 rfl rfl
set_option maxRecDepth 20000 in
theorem qX12_264 : Cond.constantLong RX12 264 (-1000000000) ∈ am_tbl := am_t7 36 rfl rfl
set_option maxRecDepth 20000 in
theorem qX12_118 : Cond.constantLong RX12 118 (-1000) ∈ am_tbl := am_t7 72 rfl rfl
set_option maxRecDepth 20000 in
theorem qX12_120 : Cond.constantLong RX12 120 (1000) ∈ am_tbl := am_t7 73 rfl rfl
set_option maxRecDepth 20000 in
theorem qX12_449 : Cond.constantLong RX12 449 (1000000) ∈ am_tbl := am_t8 142 rfl rfl
set_option maxRecDepth 20000 in
theorem qX12_461 : Cond.constantLong RX12 461 (1103) ∈ am_tbl := am_t8 155 rfl rfl
set_option maxRecDepth 20000 in
theorem qX12_466 : Cond.constantLong RX12 466 (12345) ∈ am_tbl := am_t8 156 rfl rfl
set_option maxRecDepth 20000 in
theorem qX12_468 : Cond.constantLong RX12 468 (1000003) ∈ am_tbl := am_t8 157 rfl rfl
set_option maxRecDepth 20000 in
theorem a_byte : Cond.arrayClass .byte ∈ am_tbl := am_t1 56 rfl rfl
set_option maxRecDepth 20000 in
theorem a_int : Cond.arrayClass .int ∈ am_tbl := am_t1 112 rfl rfl
set_option maxRecDepth 20000 in
theorem a_boolean : Cond.arrayClass .boolean ∈ am_tbl := am_t1 179 rfl rfl
set_option maxRecDepth 20000 in
theorem a_long : Cond.arrayClass .long ∈ am_tbl := am_t2 47 rfl rfl
set_option maxRecDepth 20000 in
theorem a_4 : Cond.arrayOver (.object (am_ra 4)) ∈ am_tbl := am_t1 64 rfl rfl
set_option maxRecDepth 20000 in
theorem a_6 : Cond.arrayOver (.object (am_ra 6)) ∈ am_tbl := am_t1 66 rfl rfl
set_option maxRecDepth 20000 in
theorem a_5 : Cond.arrayOver (.object (am_ra 5)) ∈ am_tbl := am_t1 156 rfl rfl
set_option maxRecDepth 20000 in
theorem ac1 : Cond.native arraycopyName ∈ am_tbl := am_t4 80 rfl rfl
set_option maxRecDepth 20000 in
theorem ac2 : Cond.static arraycopyName ∈ am_tbl := am_t4 79 rfl rfl
set_option maxRecDepth 20000 in
theorem ac3 : Cond.initialized "java/lang/System" ∈ am_tbl := am_t1 19 rfl rfl
