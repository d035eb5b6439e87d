theorem st1_N {L L2 : List Value} {i : Nat} {v : Value} (hc : am_cl L i = L) (hl : L.set i v = L2) : am_st1 L i v = L2 := by unfold am_st1; rw [hc, hl]
theorem Eqs.rf (h : am_H) : Eqs h h := ⟨rfl, rfl⟩
theorem Eqs.tr {h h1 h2 : am_H} (a : Eqs h h1) (b : Eqs h1 h2) : Eqs h h2 := ⟨b.1.trans a.1, b.2.trans a.2⟩
theorem dX9_init_0 : decode cX9_init 0 = .ok (.aload_n 0, 1) := by decide +kernel
theorem dX9_init_1 : decode cX9_init 1 = .ok (.invokespecial 5, 3) := by decide +kernel
theorem dX9_init_4 : decode cX9_init 4 = .ok (.aload_n 0, 1) := by decide +kernel
theorem dX9_init_5 : decode cX9_init 5 = .ok (.sipush 512, 3) := by decide +kernel
theorem dX9_init_8 : decode cX9_init 8 = .ok (.newarray .int, 2) := by decide +kernel
theorem dX9_init_10 : decode cX9_init 10 = .ok (.putfield 13, 3) := by decide +kernel
theorem dX9_init_13 : decode cX9_init 13 = .ok (.aload_n 0, 1) := by decide +kernel
theorem dX9_init_14 : decode cX9_init 14 = .ok (.bipush 12, 2) := by decide +kernel
theorem dX9_init_16 : decode cX9_init 16 = .ok (.newarray .int, 2) := by decide +kernel
theorem dX9_init_18 : decode cX9_init 18 = .ok (.putfield 17, 3) := by decide +kernel
theorem dX9_init_21 : decode cX9_init 21 = .ok (.aload_n 0, 1) := by decide +kernel
theorem dX9_init_22 : decode cX9_init 22 = .ok (.bipush 36, 2) := by decide +kernel
theorem dX9_init_24 : decode cX9_init 24 = .ok (.newarray .int, 2) := by decide +kernel
theorem dX9_init_26 : decode cX9_init 26 = .ok (.putfield 20, 3) := by decide +kernel
theorem dX9_init_29 : decode cX9_init 29 = .ok (.aload_n 0, 1) := by decide +kernel
theorem dX9_init_30 : decode cX9_init 30 = .ok (.bipush 12, 2) := by decide +kernel
theorem dX9_init_32 : decode cX9_init 32 = .ok (.newarray .int, 2) := by decide +kernel
theorem dX9_init_34 : decode cX9_init 34 = .ok (.putfield 23, 3) := by decide +kernel
theorem dX9_init_37 : decode cX9_init 37 = .ok (.aload_n 0, 1) := by decide +kernel
theorem dX9_init_38 : decode cX9_init 38 = .ok (.bipush 12, 2) := by decide +kernel
theorem dX9_init_40 : decode cX9_init 40 = .ok (.newarray .int, 2) := by decide +kernel
theorem dX9_init_42 : decode cX9_init 42 = .ok (.putfield 26, 3) := by decide +kernel
theorem dX9_init_45 : decode cX9_init 45 = .ok (.aload_n 0, 1) := by decide +kernel
theorem dX9_init_46 : decode cX9_init 46 = .ok (.bipush 64, 2) := by decide +kernel
theorem dX9_init_48 : decode cX9_init 48 = .ok (.newarray .int, 2) := by decide +kernel
theorem dX9_init_50 : decode cX9_init 50 = .ok (.putfield 29, 3) := by decide +kernel
theorem dX9_init_53 : decode cX9_init 53 = .ok (.return_, 1) := by decide +kernel
theorem dX9_init__0 : decode cX9_init_ 0 = .ok (.aload_n 0, 1) := by decide +kernel
theorem dX9_init__1 : decode cX9_init_ 1 = .ok (.invokespecial 5, 3) := by decide +kernel
theorem dX9_init__4 : decode cX9_init_ 4 = .ok (.aload_n 0, 1) := by decide +kernel
theorem dX9_init__5 : decode cX9_init_ 5 = .ok (.iconst 0, 1) := by decide +kernel
theorem dX9_init__6 : decode cX9_init_ 6 = .ok (.aload_n 1, 1) := by decide +kernel
theorem dX9_init__7 : decode cX9_init_ 7 = .ok (.getfield 32, 3) := by decide +kernel
theorem dX9_init__10 : decode cX9_init_ 10 = .ok (.aload_n 1, 1) := by decide +kernel
theorem dX9_init__11 : decode cX9_init_ 11 = .ok (.getfield 13, 3) := by decide +kernel
theorem dX9_init__14 : decode cX9_init_ 14 = .ok (.arraylength, 1) := by decide +kernel
theorem dX9_init__15 : decode cX9_init_ 15 = .ok (.invokestatic 36, 3) := by decide +kernel
theorem dX9_init__18 : decode cX9_init_ 18 = .ok (.invokestatic 42, 3) := by decide +kernel
theorem dX9_init__21 : decode cX9_init_ 21 = .ok (.putfield 32, 3) := by decide +kernel
theorem dX9_init__24 : decode cX9_init_ 24 = .ok (.aload_n 0, 1) := by decide +kernel
theorem dX9_init__25 : decode cX9_init_ 25 = .ok (.iconst 0, 1) := by decide +kernel
theorem dX9_init__26 : decode cX9_init_ 26 = .ok (.aload_n 1, 1) := by decide +kernel
theorem dX9_init__27 : decode cX9_init_ 27 = .ok (.getfield 45, 3) := by decide +kernel
theorem dX9_init__30 : decode cX9_init_ 30 = .ok (.bipush 12, 2) := by decide +kernel
theorem dX9_init__32 : decode cX9_init_ 32 = .ok (.invokestatic 36, 3) := by decide +kernel
theorem dX9_init__35 : decode cX9_init_ 35 = .ok (.invokestatic 42, 3) := by decide +kernel
theorem dX9_init__38 : decode cX9_init_ 38 = .ok (.putfield 45, 3) := by decide +kernel
theorem dX9_init__41 : decode cX9_init_ 41 = .ok (.aload_n 0, 1) := by decide +kernel
theorem dX9_init__42 : decode cX9_init_ 42 = .ok (.aload_n 0, 1) := by decide +kernel
theorem dX9_init__43 : decode cX9_init_ 43 = .ok (.getfield 32, 3) := by decide +kernel
theorem dX9_init__46 : decode cX9_init_ 46 = .ok (.newarray .int, 2) := by decide +kernel
theorem dX9_init__48 : decode cX9_init_ 48 = .ok (.putfield 13, 3) := by decide +kernel
theorem dX9_init__51 : decode cX9_init_ 51 = .ok (.aload_n 1, 1) := by decide +kernel
theorem dX9_init__52 : decode cX9_init_ 52 = .ok (.getfield 13, 3) := by decide +kernel
theorem dX9_init__55 : decode cX9_init_ 55 = .ok (.iconst 0, 1) := by decide +kernel
theorem dX9_init__56 : decode cX9_init_ 56 = .ok (.aload_n 0, 1) := by decide +kernel
theorem dX9_init__57 : decode cX9_init_ 57 = .ok (.getfield 13, 3) := by decide +kernel
theorem dX9_init__60 : decode cX9_init_ 60 = .ok (.iconst 0, 1) := by decide +kernel
theorem dX9_init__61 : decode cX9_init_ 61 = .ok (.aload_n 0, 1) := by decide +kernel
theorem dX9_init__62 : decode cX9_init_ 62 = .ok (.getfield 32, 3) := by decide +kernel
theorem dX9_init__65 : decode cX9_init_ 65 = .ok (.invokestatic 48, 3) := by decide +kernel
theorem dX9_init__68 : decode cX9_init_ 68 = .ok (.aload_n 0, 1) := by decide +kernel
theorem dX9_init__69 : decode cX9_init_ 69 = .ok (.aload_n 0, 1) := by decide +kernel
theorem dX9_init__70 : decode cX9_init_ 70 = .ok (.getfield 45, 3) := by decide +kernel
theorem dX9_init__73 : decode cX9_init_ 73 = .ok (.newarray .int, 2) := by decide +kernel
theorem dX9_init__75 : decode cX9_init_ 75 = .ok (.putfield 17, 3) := by decide +kernel
theorem dX9_init__78 : decode cX9_init_ 78 = .ok (.aload_n 1, 1) := by decide +kernel
theorem dX9_init__79 : decode cX9_init_ 79 = .ok (.getfield 17, 3) := by decide +kernel
theorem dX9_init__82 : decode cX9_init_ 82 = .ok (.iconst 0, 1) := by decide +kernel
theorem dX9_init__83 : decode cX9_init_ 83 = .ok (.aload_n 0, 1) := by decide +kernel
theorem dX9_init__84 : decode cX9_init_ 84 = .ok (.getfield 17, 3) := by decide +kernel
theorem dX9_init__87 : decode cX9_init_ 87 = .ok (.iconst 0, 1) := by decide +kernel
theorem dX9_init__88 : decode cX9_init_ 88 = .ok (.aload_n 0, 1) := by decide +kernel
theorem dX9_init__89 : decode cX9_init_ 89 = .ok (.getfield 45, 3) := by decide +kernel
theorem dX9_init__92 : decode cX9_init_ 92 = .ok (.invokestatic 48, 3) := by decide +kernel
theorem dX9_init__95 : decode cX9_init_ 95 = .ok (.aload_n 0, 1) := by decide +kernel
theorem dX9_init__96 : decode cX9_init_ 96 = .ok (.aload_n 0, 1) := by decide +kernel
theorem dX9_init__97 : decode cX9_init_ 97 = .ok (.getfield 45, 3) := by decide +kernel
theorem dX9_init__100 : decode cX9_init_ 100 = .ok (.iconst 3, 1) := by decide +kernel
theorem dX9_init__101 : decode cX9_init_ 101 = .ok (.imul, 1) := by decide +kernel
theorem dX9_init__102 : decode cX9_init_ 102 = .ok (.newarray .int, 2) := by decide +kernel
theorem dX9_init__104 : decode cX9_init_ 104 = .ok (.putfield 20, 3) := by decide +kernel
theorem dX9_init__107 : decode cX9_init_ 107 = .ok (.aload_n 1, 1) := by decide +kernel
theorem dX9_init__108 : decode cX9_init_ 108 = .ok (.getfield 20, 3) := by decide +kernel
theorem dX9_init__111 : decode cX9_init_ 111 = .ok (.iconst 0, 1) := by decide +kernel
theorem dX9_init__112 : decode cX9_init_ 112 = .ok (.aload_n 0, 1) := by decide +kernel
theorem dX9_init__113 : decode cX9_init_ 113 = .ok (.getfield 20, 3) := by decide +kernel
theorem dX9_init__116 : decode cX9_init_ 116 = .ok (.iconst 0, 1) := by decide +kernel
theorem dX9_init__117 : decode cX9_init_ 117 = .ok (.aload_n 0, 1) := by decide +kernel
theorem dX9_init__118 : decode cX9_init_ 118 = .ok (.getfield 45, 3) := by decide +kernel
theorem dX9_init__121 : decode cX9_init_ 121 = .ok (.iconst 3, 1) := by decide +kernel
theorem dX9_init__122 : decode cX9_init_ 122 = .ok (.imul, 1) := by decide +kernel
theorem dX9_init__123 : decode cX9_init_ 123 = .ok (.invokestatic 48, 3) := by decide +kernel
theorem dX9_init__126 : decode cX9_init_ 126 = .ok (.aload_n 0, 1) := by decide +kernel
theorem dX9_init__127 : decode cX9_init_ 127 = .ok (.aload_n 0, 1) := by decide +kernel
theorem dX9_init__128 : decode cX9_init_ 128 = .ok (.getfield 45, 3) := by decide +kernel
theorem dX9_init__131 : decode cX9_init_ 131 = .ok (.newarray .int, 2) := by decide +kernel
theorem dX9_init__133 : decode cX9_init_ 133 = .ok (.putfield 23, 3) := by decide +kernel
theorem dX9_init__136 : decode cX9_init_ 136 = .ok (.aload_n 1, 1) := by decide +kernel
theorem dX9_init__137 : decode cX9_init_ 137 = .ok (.getfield 23, 3) := by decide +kernel
theorem dX9_init__140 : decode cX9_init_ 140 = .ok (.iconst 0, 1) := by decide +kernel
theorem dX9_init__141 : decode cX9_init_ 141 = .ok (.aload_n 0, 1) := by decide +kernel
theorem dX9_init__142 : decode cX9_init_ 142 = .ok (.getfield 23, 3) := by decide +kernel
theorem dX9_init__145 : decode cX9_init_ 145 = .ok (.iconst 0, 1) := by decide +kernel
theorem dX9_init__146 : decode cX9_init_ 146 = .ok (.aload_n 0, 1) := by decide +kernel
theorem dX9_init__147 : decode cX9_init_ 147 = .ok (.getfield 45, 3) := by decide +kernel
theorem dX9_init__150 : decode cX9_init_ 150 = .ok (.invokestatic 48, 3) := by decide +kernel
theorem dX9_init__153 : decode cX9_init_ 153 = .ok (.aload_n 0, 1) := by decide +kernel
theorem dX9_init__154 : decode cX9_init_ 154 = .ok (.aload_n 0, 1) := by decide +kernel
theorem dX9_init__155 : decode cX9_init_ 155 = .ok (.getfield 45, 3) := by decide +kernel
theorem dX9_init__158 : decode cX9_init_ 158 = .ok (.newarray .int, 2) := by decide +kernel
theorem dX9_init__160 : decode cX9_init_ 160 = .ok (.putfield 26, 3) := by decide +kernel
theorem dX9_init__163 : decode cX9_init_ 163 = .ok (.aload_n 1, 1) := by decide +kernel
theorem dX9_init__164 : decode cX9_init_ 164 = .ok (.getfield 26, 3) := by decide +kernel
theorem dX9_init__167 : decode cX9_init_ 167 = .ok (.iconst 0, 1) := by decide +kernel
theorem dX9_init__168 : decode cX9_init_ 168 = .ok (.aload_n 0, 1) := by decide +kernel
theorem dX9_init__169 : decode cX9_init_ 169 = .ok (.getfield 26, 3) := by decide +kernel
theorem dX9_init__172 : decode cX9_init_ 172 = .ok (.iconst 0, 1) := by decide +kernel
theorem dX9_init__173 : decode cX9_init_ 173 = .ok (.aload_n 0, 1) := by decide +kernel
theorem dX9_init__174 : decode cX9_init_ 174 = .ok (.getfield 45, 3) := by decide +kernel
theorem dX9_init__177 : decode cX9_init_ 177 = .ok (.invokestatic 48, 3) := by decide +kernel
theorem dX9_init__180 : decode cX9_init_ 180 = .ok (.aload_n 0, 1) := by decide +kernel
theorem dX9_init__181 : decode cX9_init_ 181 = .ok (.aload_n 1, 1) := by decide +kernel
theorem dX9_init__182 : decode cX9_init_ 182 = .ok (.getfield 29, 3) := by decide +kernel
theorem dX9_init__185 : decode cX9_init_ 185 = .ok (.putfield 29, 3) := by decide +kernel
theorem dX9_init__188 : decode cX9_init_ 188 = .ok (.aload_n 0, 1) := by decide +kernel
theorem dX9_init__189 : decode cX9_init_ 189 = .ok (.aload_n 1, 1) := by decide +kernel
theorem dX9_init__190 : decode cX9_init_ 190 = .ok (.getfield 54, 3) := by decide +kernel
theorem dX9_init__193 : decode cX9_init_ 193 = .ok (.putfield 54, 3) := by decide +kernel
theorem dX9_init__196 : decode cX9_init_ 196 = .ok (.return_, 1) := by decide +kernel
theorem dX9_trimmed_0 : decode cX9_trimmed 0 = .ok (.new 11, 3) := by decide +kernel
theorem dX9_trimmed_3 : decode cX9_trimmed 3 = .ok (.dup, 1) := by decide +kernel
theorem dX9_trimmed_4 : decode cX9_trimmed 4 = .ok (.aload_n 0, 1) := by decide +kernel
theorem dX9_trimmed_5 : decode cX9_trimmed 5 = .ok (.invokespecial 58, 3) := by decide +kernel
theorem dX9_trimmed_8 : decode cX9_trimmed 8 = .ok (.areturn, 1) := by decide +kernel
theorem dX9_clear_0 : decode cX9_clear 0 = .ok (.aload_n 0, 1) := by decide +kernel
theorem dX9_clear_1 : decode cX9_clear 1 = .ok (.iconst 0, 1) := by decide +kernel
theorem dX9_clear_2 : decode cX9_clear 2 = .ok (.putfield 32, 3) := by decide +kernel
theorem dX9_clear_5 : decode cX9_clear 5 = .ok (.aload_n 0, 1) := by decide +kernel
theorem dX9_clear_6 : decode cX9_clear 6 = .ok (.iconst 0, 1) := by decide +kernel
theorem dX9_clear_7 : decode cX9_clear 7 = .ok (.putfield 45, 3) := by decide +kernel
theorem dX9_clear_10 : decode cX9_clear 10 = .ok (.aload_n 0, 1) := by decide +kernel
theorem dX9_clear_11 : decode cX9_clear 11 = .ok (.iconst 0, 1) := by decide +kernel
theorem dX9_clear_12 : decode cX9_clear 12 = .ok (.putfield 54, 3) := by decide +kernel
theorem dX9_clear_15 : decode cX9_clear 15 = .ok (.return_, 1) := by decide +kernel
theorem dX9_begin_0 : decode cX9_begin 0 = .ok (.aload_n 0, 1) := by decide +kernel
theorem dX9_begin_1 : decode cX9_begin 1 = .ok (.getfield 45, 3) := by decide +kernel
theorem dX9_begin_4 : decode cX9_begin 4 = .ok (.aload_n 0, 1) := by decide +kernel
theorem dX9_begin_5 : decode cX9_begin 5 = .ok (.getfield 17, 3) := by decide +kernel
theorem dX9_begin_8 : decode cX9_begin 8 = .ok (.arraylength, 1) := by decide +kernel
theorem dX9_begin_9 : decode cX9_begin 9 = .ok (.if_icmp .ge 43, 3) := by decide +kernel
theorem dX9_begin_12 : decode cX9_begin 12 = .ok (.aload_n 0, 1) := by decide +kernel
theorem dX9_begin_13 : decode cX9_begin 13 = .ok (.getfield 17, 3) := by decide +kernel
theorem dX9_begin_16 : decode cX9_begin 16 = .ok (.aload_n 0, 1) := by decide +kernel
theorem dX9_begin_17 : decode cX9_begin 17 = .ok (.getfield 45, 3) := by decide +kernel
theorem dX9_begin_20 : decode cX9_begin 20 = .ok (.iload_n 1, 1) := by decide +kernel
theorem dX9_begin_21 : decode cX9_begin 21 = .ok (.iastore, 1) := by decide +kernel
theorem dX9_begin_22 : decode cX9_begin 22 = .ok (.aload_n 0, 1) := by decide +kernel
theorem dX9_begin_23 : decode cX9_begin 23 = .ok (.getfield 23, 3) := by decide +kernel
theorem dX9_begin_26 : decode cX9_begin 26 = .ok (.aload_n 0, 1) := by decide +kernel
theorem dX9_begin_27 : decode cX9_begin 27 = .ok (.getfield 45, 3) := by decide +kernel
theorem dX9_begin_30 : decode cX9_begin 30 = .ok (.iconst (-1), 1) := by decide +kernel
theorem dX9_begin_31 : decode cX9_begin 31 = .ok (.iastore, 1) := by decide +kernel
theorem dX9_begin_32 : decode cX9_begin 32 = .ok (.aload_n 0, 1) := by decide +kernel
theorem dX9_begin_33 : decode cX9_begin 33 = .ok (.getfield 26, 3) := by decide +kernel
theorem dX9_begin_36 : decode cX9_begin 36 = .ok (.aload_n 0, 1) := by decide +kernel
theorem dX9_begin_37 : decode cX9_begin 37 = .ok (.getfield 45, 3) := by decide +kernel
theorem dX9_begin_40 : decode cX9_begin 40 = .ok (.iconst 1, 1) := by decide +kernel
theorem dX9_begin_41 : decode cX9_begin 41 = .ok (.iastore, 1) := by decide +kernel
theorem dX9_begin_42 : decode cX9_begin 42 = .ok (.aload_n 0, 1) := by decide +kernel
theorem dX9_begin_43 : decode cX9_begin 43 = .ok (.dup, 1) := by decide +kernel
theorem dX9_begin_44 : decode cX9_begin 44 = .ok (.getfield 45, 3) := by decide +kernel
theorem dX9_begin_47 : decode cX9_begin 47 = .ok (.iconst 1, 1) := by decide +kernel
theorem dX9_begin_48 : decode cX9_begin 48 = .ok (.iadd, 1) := by decide +kernel
theorem dX9_begin_49 : decode cX9_begin 49 = .ok (.putfield 45, 3) := by decide +kernel
theorem dX9_begin_52 : decode cX9_begin 52 = .ok (.return_, 1) := by decide +kernel
theorem dX9_setSum_0 : decode cX9_setSum 0 = .ok (.aload_n 0, 1) := by decide +kernel
theorem dX9_setSum_1 : decode cX9_setSum 1 = .ok (.getfield 45, 3) := by decide +kernel
theorem dX9_setSum_4 : decode cX9_setSum 4 = .ok (.ifCond .le 31, 3) := by decide +kernel
theorem dX9_setSum_7 : decode cX9_setSum 7 = .ok (.iload_n 1, 1) := by decide +kernel
theorem dX9_setSum_8 : decode cX9_setSum 8 = .ok (.ifCond .lt 27, 3) := by decide +kernel
theorem dX9_setSum_11 : decode cX9_setSum 11 = .ok (.iload_n 1, 1) := by decide +kernel
theorem dX9_setSum_12 : decode cX9_setSum 12 = .ok (.iconst 3, 1) := by decide +kernel
theorem dX9_setSum_13 : decode cX9_setSum 13 = .ok (.if_icmp .ge 22, 3) := by decide +kernel
theorem dX9_setSum_16 : decode cX9_setSum 16 = .ok (.aload_n 0, 1) := by decide +kernel
theorem dX9_setSum_17 : decode cX9_setSum 17 = .ok (.getfield 20, 3) := by decide +kernel
theorem dX9_setSum_20 : decode cX9_setSum 20 = .ok (.aload_n 0, 1) := by decide +kernel
theorem dX9_setSum_21 : decode cX9_setSum 21 = .ok (.getfield 45, 3) := by decide +kernel
theorem dX9_setSum_24 : decode cX9_setSum 24 = .ok (.iconst 1, 1) := by decide +kernel
theorem dX9_setSum_25 : decode cX9_setSum 25 = .ok (.isub, 1) := by decide +kernel
theorem dX9_setSum_26 : decode cX9_setSum 26 = .ok (.iconst 3, 1) := by decide +kernel
theorem dX9_setSum_27 : decode cX9_setSum 27 = .ok (.imul, 1) := by decide +kernel
theorem dX9_setSum_28 : decode cX9_setSum 28 = .ok (.iload_n 1, 1) := by decide +kernel
theorem dX9_setSum_29 : decode cX9_setSum 29 = .ok (.iadd, 1) := by decide +kernel
theorem dX9_setSum_30 : decode cX9_setSum 30 = .ok (.aload_n 0, 1) := by decide +kernel
theorem dX9_setSum_31 : decode cX9_setSum 31 = .ok (.getfield 32, 3) := by decide +kernel
theorem dX9_setSum_34 : decode cX9_setSum 34 = .ok (.iastore, 1) := by decide +kernel
theorem dX9_setSum_35 : decode cX9_setSum 35 = .ok (.return_, 1) := by decide +kernel
theorem dX9_setTest_0 : decode cX9_setTest 0 = .ok (.aload_n 0, 1) := by decide +kernel
theorem dX9_setTest_1 : decode cX9_setTest 1 = .ok (.getfield 45, 3) := by decide +kernel
theorem dX9_setTest_4 : decode cX9_setTest 4 = .ok (.ifCond .le 18, 3) := by decide +kernel
theorem dX9_setTest_7 : decode cX9_setTest 7 = .ok (.aload_n 0, 1) := by decide +kernel
theorem dX9_setTest_8 : decode cX9_setTest 8 = .ok (.getfield 23, 3) := by decide +kernel
theorem dX9_setTest_11 : decode cX9_setTest 11 = .ok (.aload_n 0, 1) := by decide +kernel
theorem dX9_setTest_12 : decode cX9_setTest 12 = .ok (.getfield 45, 3) := by decide +kernel
theorem dX9_setTest_15 : decode cX9_setTest 15 = .ok (.iconst 1, 1) := by decide +kernel
theorem dX9_setTest_16 : decode cX9_setTest 16 = .ok (.isub, 1) := by decide +kernel
theorem dX9_setTest_17 : decode cX9_setTest 17 = .ok (.aload_n 0, 1) := by decide +kernel
theorem dX9_setTest_18 : decode cX9_setTest 18 = .ok (.getfield 32, 3) := by decide +kernel
theorem dX9_setTest_21 : decode cX9_setTest 21 = .ok (.iastore, 1) := by decide +kernel
theorem dX9_setTest_22 : decode cX9_setTest 22 = .ok (.return_, 1) := by decide +kernel
theorem dX9_setTimes_0 : decode cX9_setTimes 0 = .ok (.aload_n 0, 1) := by decide +kernel
theorem dX9_setTimes_1 : decode cX9_setTimes 1 = .ok (.getfield 45, 3) := by decide +kernel
theorem dX9_setTimes_4 : decode cX9_setTimes 4 = .ok (.ifCond .le 15, 3) := by decide +kernel
theorem dX9_setTimes_7 : decode cX9_setTimes 7 = .ok (.aload_n 0, 1) := by decide +kernel
theorem dX9_setTimes_8 : decode cX9_setTimes 8 = .ok (.getfield 26, 3) := by decide +kernel
theorem dX9_setTimes_11 : decode cX9_setTimes 11 = .ok (.aload_n 0, 1) := by decide +kernel
theorem dX9_setTimes_12 : decode cX9_setTimes 12 = .ok (.getfield 45, 3) := by decide +kernel
theorem dX9_setTimes_15 : decode cX9_setTimes 15 = .ok (.iconst 1, 1) := by decide +kernel
theorem dX9_setTimes_16 : decode cX9_setTimes 16 = .ok (.isub, 1) := by decide +kernel
theorem dX9_setTimes_17 : decode cX9_setTimes 17 = .ok (.iload_n 1, 1) := by decide +kernel
theorem dX9_setTimes_18 : decode cX9_setTimes 18 = .ok (.iastore, 1) := by decide +kernel
theorem dX9_setTimes_19 : decode cX9_setTimes 19 = .ok (.return_, 1) := by decide +kernel
theorem dX9_add_0 : decode cX9_add 0 = .ok (.aload_n 0, 1) := by decide +kernel
theorem dX9_add_1 : decode cX9_add 1 = .ok (.getfield 32, 3) := by decide +kernel
theorem dX9_add_4 : decode cX9_add 4 = .ok (.aload_n 0, 1) := by decide +kernel
theorem dX9_add_5 : decode cX9_add 5 = .ok (.getfield 13, 3) := by decide +kernel
theorem dX9_add_8 : decode cX9_add 8 = .ok (.arraylength, 1) := by decide +kernel
theorem dX9_add_9 : decode cX9_add 9 = .ok (.if_icmp .ge 27, 3) := by decide +kernel
theorem dX9_add_12 : decode cX9_add 12 = .ok (.aload_n 0, 1) := by decide +kernel
theorem dX9_add_13 : decode cX9_add 13 = .ok (.getfield 13, 3) := by decide +kernel
theorem dX9_add_16 : decode cX9_add 16 = .ok (.aload_n 0, 1) := by decide +kernel
theorem dX9_add_17 : decode cX9_add 17 = .ok (.getfield 32, 3) := by decide +kernel
theorem dX9_add_20 : decode cX9_add 20 = .ok (.iload_n 1, 1) := by decide +kernel
theorem dX9_add_21 : decode cX9_add 21 = .ok (.iload_n 2, 1) := by decide +kernel
theorem dX9_add_22 : decode cX9_add 22 = .ok (.iconst 4, 1) := by decide +kernel
theorem dX9_add_23 : decode cX9_add 23 = .ok (.ishl, 1) := by decide +kernel
theorem dX9_add_24 : decode cX9_add 24 = .ok (.ior, 1) := by decide +kernel
theorem dX9_add_25 : decode cX9_add 25 = .ok (.iastore, 1) := by decide +kernel
theorem dX9_add_26 : decode cX9_add 26 = .ok (.aload_n 0, 1) := by decide +kernel
theorem dX9_add_27 : decode cX9_add 27 = .ok (.dup, 1) := by decide +kernel
theorem dX9_add_28 : decode cX9_add 28 = .ok (.getfield 32, 3) := by decide +kernel
theorem dX9_add_31 : decode cX9_add 31 = .ok (.iconst 1, 1) := by decide +kernel
theorem dX9_add_32 : decode cX9_add 32 = .ok (.iadd, 1) := by decide +kernel
theorem dX9_add_33 : decode cX9_add 33 = .ok (.putfield 32, 3) := by decide +kernel
theorem dX9_add_36 : decode cX9_add 36 = .ok (.aload_n 0, 1) := by decide +kernel
theorem dX9_add_37 : decode cX9_add 37 = .ok (.getfield 32, 3) := by decide +kernel
theorem dX9_add_40 : decode cX9_add 40 = .ok (.iconst 1, 1) := by decide +kernel
theorem dX9_add_41 : decode cX9_add 41 = .ok (.isub, 1) := by decide +kernel
theorem dX9_add_42 : decode cX9_add 42 = .ok (.ireturn, 1) := by decide +kernel
theorem dX9_land_0 : decode cX9_land 0 = .ok (.iload_n 1, 1) := by decide +kernel
theorem dX9_land_1 : decode cX9_land 1 = .ok (.ifCond .lt 33, 3) := by decide +kernel
theorem dX9_land_4 : decode cX9_land 4 = .ok (.iload_n 1, 1) := by decide +kernel
theorem dX9_land_5 : decode cX9_land 5 = .ok (.aload_n 0, 1) := by decide +kernel
theorem dX9_land_6 : decode cX9_land 6 = .ok (.getfield 32, 3) := by decide +kernel
theorem dX9_land_9 : decode cX9_land 9 = .ok (.if_icmp .ge 25, 3) := by decide +kernel
theorem dX9_land_12 : decode cX9_land 12 = .ok (.aload_n 0, 1) := by decide +kernel
theorem dX9_land_13 : decode cX9_land 13 = .ok (.getfield 13, 3) := by decide +kernel
theorem dX9_land_16 : decode cX9_land 16 = .ok (.iload_n 1, 1) := by decide +kernel
theorem dX9_land_17 : decode cX9_land 17 = .ok (.aload_n 0, 1) := by decide +kernel
theorem dX9_land_18 : decode cX9_land 18 = .ok (.getfield 13, 3) := by decide +kernel
theorem dX9_land_21 : decode cX9_land 21 = .ok (.iload_n 1, 1) := by decide +kernel
theorem dX9_land_22 : decode cX9_land 22 = .ok (.iaload, 1) := by decide +kernel
theorem dX9_land_23 : decode cX9_land 23 = .ok (.bipush 15, 2) := by decide +kernel
theorem dX9_land_25 : decode cX9_land 25 = .ok (.iand, 1) := by decide +kernel
theorem dX9_land_26 : decode cX9_land 26 = .ok (.aload_n 0, 1) := by decide +kernel
theorem dX9_land_27 : decode cX9_land 27 = .ok (.getfield 32, 3) := by decide +kernel
theorem dX9_land_30 : decode cX9_land 30 = .ok (.iconst 4, 1) := by decide +kernel
theorem dX9_land_31 : decode cX9_land 31 = .ok (.ishl, 1) := by decide +kernel
theorem dX9_land_32 : decode cX9_land 32 = .ok (.ior, 1) := by decide +kernel
theorem dX9_land_33 : decode cX9_land 33 = .ok (.iastore, 1) := by decide +kernel
theorem dX9_land_34 : decode cX9_land 34 = .ok (.return_, 1) := by decide +kernel
theorem dX9_kindOf_0 : decode cX9_kindOf 0 = .ok (.iload_n 1, 1) := by decide +kernel
theorem dX9_kindOf_1 : decode cX9_kindOf 1 = .ok (.ifCond .lt 20, 3) := by decide +kernel
theorem dX9_kindOf_4 : decode cX9_kindOf 4 = .ok (.iload_n 1, 1) := by decide +kernel
theorem dX9_kindOf_5 : decode cX9_kindOf 5 = .ok (.aload_n 0, 1) := by decide +kernel
theorem dX9_kindOf_6 : decode cX9_kindOf 6 = .ok (.getfield 45, 3) := by decide +kernel
theorem dX9_kindOf_9 : decode cX9_kindOf 9 = .ok (.if_icmp .ge 12, 3) := by decide +kernel
theorem dX9_kindOf_12 : decode cX9_kindOf 12 = .ok (.aload_n 0, 1) := by decide +kernel
theorem dX9_kindOf_13 : decode cX9_kindOf 13 = .ok (.getfield 17, 3) := by decide +kernel
theorem dX9_kindOf_16 : decode cX9_kindOf 16 = .ok (.iload_n 1, 1) := by decide +kernel
theorem dX9_kindOf_17 : decode cX9_kindOf 17 = .ok (.iaload, 1) := by decide +kernel
theorem dX9_kindOf_18 : decode cX9_kindOf 18 = .ok (.goto 4, 3) := by decide +kernel
theorem dX9_kindOf_21 : decode cX9_kindOf 21 = .ok (.iconst (-1), 1) := by decide +kernel
theorem dX9_kindOf_22 : decode cX9_kindOf 22 = .ok (.ireturn, 1) := by decide +kernel
theorem dX9_timesOf_0 : decode cX9_timesOf 0 = .ok (.iload_n 1, 1) := by decide +kernel
theorem dX9_timesOf_1 : decode cX9_timesOf 1 = .ok (.ifCond .lt 20, 3) := by decide +kernel
theorem dX9_timesOf_4 : decode cX9_timesOf 4 = .ok (.iload_n 1, 1) := by decide +kernel
theorem dX9_timesOf_5 : decode cX9_timesOf 5 = .ok (.aload_n 0, 1) := by decide +kernel
theorem dX9_timesOf_6 : decode cX9_timesOf 6 = .ok (.getfield 45, 3) := by decide +kernel
theorem dX9_timesOf_9 : decode cX9_timesOf 9 = .ok (.if_icmp .ge 12, 3) := by decide +kernel
theorem dX9_timesOf_12 : decode cX9_timesOf 12 = .ok (.aload_n 0, 1) := by decide +kernel
theorem dX9_timesOf_13 : decode cX9_timesOf 13 = .ok (.getfield 26, 3) := by decide +kernel
theorem dX9_timesOf_16 : decode cX9_timesOf 16 = .ok (.iload_n 1, 1) := by decide +kernel
theorem dX9_timesOf_17 : decode cX9_timesOf 17 = .ok (.iaload, 1) := by decide +kernel
theorem dX9_timesOf_18 : decode cX9_timesOf 18 = .ok (.goto 4, 3) := by decide +kernel
theorem dX9_timesOf_21 : decode cX9_timesOf 21 = .ok (.iconst 0, 1) := by decide +kernel
theorem dX9_timesOf_22 : decode cX9_timesOf 22 = .ok (.ireturn, 1) := by decide +kernel
theorem dX9_isSo_0 : decode cX9_isSo 0 = .ok (.iload_n 1, 1) := by decide +kernel
theorem dX9_isSo_1 : decode cX9_isSo 1 = .ok (.ifCond .lt 11, 3) := by decide +kernel
theorem dX9_isSo_4 : decode cX9_isSo 4 = .ok (.iload_n 1, 1) := by decide +kernel
theorem dX9_isSo_5 : decode cX9_isSo 5 = .ok (.aload_n 0, 1) := by decide +kernel
theorem dX9_isSo_6 : decode cX9_isSo 6 = .ok (.getfield 45, 3) := by decide +kernel
theorem dX9_isSo_9 : decode cX9_isSo 9 = .ok (.if_icmp .lt 5, 3) := by decide +kernel
theorem dX9_isSo_12 : decode cX9_isSo 12 = .ok (.iconst 0, 1) := by decide +kernel
theorem dX9_isSo_13 : decode cX9_isSo 13 = .ok (.ireturn, 1) := by decide +kernel
theorem dX9_isSo_14 : decode cX9_isSo 14 = .ok (.aload_n 0, 1) := by decide +kernel
theorem dX9_isSo_15 : decode cX9_isSo 15 = .ok (.getfield 23, 3) := by decide +kernel
theorem dX9_isSo_18 : decode cX9_isSo 18 = .ok (.iload_n 1, 1) := by decide +kernel
theorem dX9_isSo_19 : decode cX9_isSo 19 = .ok (.iaload, 1) := by decide +kernel
theorem dX9_isSo_20 : decode cX9_isSo 20 = .ok (.iconst (-1), 1) := by decide +kernel
theorem dX9_isSo_21 : decode cX9_isSo 21 = .ok (.if_icmp .eq 18, 3) := by decide +kernel
theorem dX9_isSo_24 : decode cX9_isSo 24 = .ok (.aload_n 0, 1) := by decide +kernel
theorem dX9_isSo_25 : decode cX9_isSo 25 = .ok (.aload_n 0, 1) := by decide +kernel
theorem dX9_isSo_26 : decode cX9_isSo 26 = .ok (.getfield 23, 3) := by decide +kernel
theorem dX9_isSo_29 : decode cX9_isSo 29 = .ok (.iload_n 1, 1) := by decide +kernel
theorem dX9_isSo_30 : decode cX9_isSo 30 = .ok (.iaload, 1) := by decide +kernel
theorem dX9_isSo_31 : decode cX9_isSo 31 = .ok (.aload_n 2, 1) := by decide +kernel
theorem dX9_isSo_32 : decode cX9_isSo 32 = .ok (.invokevirtual 61, 3) := by decide +kernel
theorem dX9_isSo_35 : decode cX9_isSo 35 = .ok (.iconst 1, 1) := by decide +kernel
theorem dX9_isSo_36 : decode cX9_isSo 36 = .ok (.if_icmp .ne 7, 3) := by decide +kernel
theorem dX9_isSo_39 : decode cX9_isSo 39 = .ok (.iconst 1, 1) := by decide +kernel
theorem dX9_isSo_40 : decode cX9_isSo 40 = .ok (.goto 4, 3) := by decide +kernel
theorem dX9_isSo_43 : decode cX9_isSo 43 = .ok (.iconst 0, 1) := by decide +kernel
theorem dX9_isSo_44 : decode cX9_isSo 44 = .ok (.ireturn, 1) := by decide +kernel
theorem dX9_sumOf_0 : decode cX9_sumOf 0 = .ok (.iload_n 1, 1) := by decide +kernel
theorem dX9_sumOf_1 : decode cX9_sumOf 1 = .ok (.ifCond .lt 20, 3) := by decide +kernel
theorem dX9_sumOf_4 : decode cX9_sumOf 4 = .ok (.iload_n 1, 1) := by decide +kernel
theorem dX9_sumOf_5 : decode cX9_sumOf 5 = .ok (.aload_n 0, 1) := by decide +kernel
theorem dX9_sumOf_6 : decode cX9_sumOf 6 = .ok (.getfield 45, 3) := by decide +kernel
theorem dX9_sumOf_9 : decode cX9_sumOf 9 = .ok (.if_icmp .ge 12, 3) := by decide +kernel
theorem dX9_sumOf_12 : decode cX9_sumOf 12 = .ok (.iload_n 2, 1) := by decide +kernel
theorem dX9_sumOf_13 : decode cX9_sumOf 13 = .ok (.ifCond .lt 8, 3) := by decide +kernel
theorem dX9_sumOf_16 : decode cX9_sumOf 16 = .ok (.iload_n 2, 1) := by decide +kernel
theorem dX9_sumOf_17 : decode cX9_sumOf 17 = .ok (.iconst 3, 1) := by decide +kernel
theorem dX9_sumOf_18 : decode cX9_sumOf 18 = .ok (.if_icmp .lt 6, 3) := by decide +kernel
theorem dX9_sumOf_21 : decode cX9_sumOf 21 = .ok (.ldc 65, 2) := by decide +kernel
theorem dX9_sumOf_23 : decode cX9_sumOf 23 = .ok (.ireturn, 1) := by decide +kernel
theorem dX9_sumOf_24 : decode cX9_sumOf 24 = .ok (.aload_n 0, 1) := by decide +kernel
theorem dX9_sumOf_25 : decode cX9_sumOf 25 = .ok (.aload_n 0, 1) := by decide +kernel
theorem dX9_sumOf_26 : decode cX9_sumOf 26 = .ok (.getfield 20, 3) := by decide +kernel
theorem dX9_sumOf_29 : decode cX9_sumOf 29 = .ok (.iload_n 1, 1) := by decide +kernel
theorem dX9_sumOf_30 : decode cX9_sumOf 30 = .ok (.iconst 3, 1) := by decide +kernel
theorem dX9_sumOf_31 : decode cX9_sumOf 31 = .ok (.imul, 1) := by decide +kernel
theorem dX9_sumOf_32 : decode cX9_sumOf 32 = .ok (.iload_n 2, 1) := by decide +kernel
theorem dX9_sumOf_33 : decode cX9_sumOf 33 = .ok (.iadd, 1) := by decide +kernel
theorem dX9_sumOf_34 : decode cX9_sumOf 34 = .ok (.iaload, 1) := by decide +kernel
theorem dX9_sumOf_35 : decode cX9_sumOf 35 = .ok (.aload_n 3, 1) := by decide +kernel
theorem dX9_sumOf_36 : decode cX9_sumOf 36 = .ok (.invokevirtual 61, 3) := by decide +kernel
theorem dX9_sumOf_39 : decode cX9_sumOf 39 = .ok (.ireturn, 1) := by decide +kernel
theorem dX9_latestOf_0 : decode cX9_latestOf 0 = .ok (.aload_n 0, 1) := by decide +kernel
theorem dX9_latestOf_1 : decode cX9_latestOf 1 = .ok (.getfield 45, 3) := by decide +kernel
theorem dX9_latestOf_4 : decode cX9_latestOf 4 = .ok (.iconst 1, 1) := by decide +kernel
theorem dX9_latestOf_5 : decode cX9_latestOf 5 = .ok (.isub, 1) := by decide +kernel
theorem dX9_latestOf_6 : decode cX9_latestOf 6 = .ok (.istore 4, 2) := by decide +kernel
theorem dX9_latestOf_8 : decode cX9_latestOf 8 = .ok (.iload 4, 2) := by decide +kernel
theorem dX9_latestOf_10 : decode cX9_latestOf 10 = .ok (.ifCond .lt 73, 3) := by decide +kernel
theorem dX9_latestOf_13 : decode cX9_latestOf 13 = .ok (.aload_n 0, 1) := by decide +kernel
theorem dX9_latestOf_14 : decode cX9_latestOf 14 = .ok (.getfield 17, 3) := by decide +kernel
theorem dX9_latestOf_17 : decode cX9_latestOf 17 = .ok (.iload 4, 2) := by decide +kernel
theorem dX9_latestOf_19 : decode cX9_latestOf 19 = .ok (.iaload, 1) := by decide +kernel
theorem dX9_latestOf_20 : decode cX9_latestOf 20 = .ok (.iload_n 1, 1) := by decide +kernel
theorem dX9_latestOf_21 : decode cX9_latestOf 21 = .ok (.if_icmp .ne 56, 3) := by decide +kernel
theorem dX9_latestOf_24 : decode cX9_latestOf 24 = .ok (.aload_n 0, 1) := by decide +kernel
theorem dX9_latestOf_25 : decode cX9_latestOf 25 = .ok (.getfield 23, 3) := by decide +kernel
theorem dX9_latestOf_28 : decode cX9_latestOf 28 = .ok (.iload 4, 2) := by decide +kernel
theorem dX9_latestOf_30 : decode cX9_latestOf 30 = .ok (.iaload, 1) := by decide +kernel
theorem dX9_latestOf_31 : decode cX9_latestOf 31 = .ok (.iconst (-1), 1) := by decide +kernel
theorem dX9_latestOf_32 : decode cX9_latestOf 32 = .ok (.if_icmp .eq 19, 3) := by decide +kernel
theorem dX9_latestOf_35 : decode cX9_latestOf 35 = .ok (.aload_n 0, 1) := by decide +kernel
theorem dX9_latestOf_36 : decode cX9_latestOf 36 = .ok (.aload_n 0, 1) := by decide +kernel
theorem dX9_latestOf_37 : decode cX9_latestOf 37 = .ok (.getfield 23, 3) := by decide +kernel
theorem dX9_latestOf_40 : decode cX9_latestOf 40 = .ok (.iload 4, 2) := by decide +kernel
theorem dX9_latestOf_42 : decode cX9_latestOf 42 = .ok (.iaload, 1) := by decide +kernel
theorem dX9_latestOf_43 : decode cX9_latestOf 43 = .ok (.aload_n 2, 1) := by decide +kernel
theorem dX9_latestOf_44 : decode cX9_latestOf 44 = .ok (.invokevirtual 61, 3) := by decide +kernel
theorem dX9_latestOf_47 : decode cX9_latestOf 47 = .ok (.iconst 1, 1) := by decide +kernel
theorem dX9_latestOf_48 : decode cX9_latestOf 48 = .ok (.if_icmp .ne 29, 3) := by decide +kernel
theorem dX9_latestOf_51 : decode cX9_latestOf 51 = .ok (.aload_n 0, 1) := by decide +kernel
theorem dX9_latestOf_52 : decode cX9_latestOf 52 = .ok (.aload_n 0, 1) := by decide +kernel
theorem dX9_latestOf_53 : decode cX9_latestOf 53 = .ok (.getfield 20, 3) := by decide +kernel
theorem dX9_latestOf_56 : decode cX9_latestOf 56 = .ok (.iload 4, 2) := by decide +kernel
theorem dX9_latestOf_58 : decode cX9_latestOf 58 = .ok (.iconst 3, 1) := by decide +kernel
theorem dX9_latestOf_59 : decode cX9_latestOf 59 = .ok (.imul, 1) := by decide +kernel
theorem dX9_latestOf_60 : decode cX9_latestOf 60 = .ok (.iaload, 1) := by decide +kernel
theorem dX9_latestOf_61 : decode cX9_latestOf 61 = .ok (.aload_n 2, 1) := by decide +kernel
theorem dX9_latestOf_62 : decode cX9_latestOf 62 = .ok (.invokevirtual 61, 3) := by decide +kernel
theorem dX9_latestOf_65 : decode cX9_latestOf 65 = .ok (.istore 5, 2) := by decide +kernel
theorem dX9_latestOf_67 : decode cX9_latestOf 67 = .ok (.iload 5, 2) := by decide +kernel
theorem dX9_latestOf_69 : decode cX9_latestOf 69 = .ok (.ldc 65, 2) := by decide +kernel
theorem dX9_latestOf_71 : decode cX9_latestOf 71 = .ok (.if_icmp .eq 6, 3) := by decide +kernel
theorem dX9_latestOf_74 : decode cX9_latestOf 74 = .ok (.iload 5, 2) := by decide +kernel
theorem dX9_latestOf_76 : decode cX9_latestOf 76 = .ok (.ireturn, 1) := by decide +kernel
theorem dX9_latestOf_77 : decode cX9_latestOf 77 = .ok (.iinc 4 (-1), 3) := by decide +kernel
theorem dX9_latestOf_80 : decode cX9_latestOf 80 = .ok (.goto (-72), 3) := by decide +kernel
theorem dX9_latestOf_83 : decode cX9_latestOf 83 = .ok (.iload_n 3, 1) := by decide +kernel
theorem dX9_latestOf_84 : decode cX9_latestOf 84 = .ok (.ireturn, 1) := by decide +kernel
theorem dX9_hasEnded_0 : decode cX9_hasEnded 0 = .ok (.iconst 1, 1) := by decide +kernel
theorem dX9_hasEnded_1 : decode cX9_hasEnded 1 = .ok (.istore_n 3, 1) := by decide +kernel
theorem dX9_hasEnded_2 : decode cX9_hasEnded 2 = .ok (.iconst 0, 1) := by decide +kernel
theorem dX9_hasEnded_3 : decode cX9_hasEnded 3 = .ok (.istore 4, 2) := by decide +kernel
theorem dX9_hasEnded_5 : decode cX9_hasEnded 5 = .ok (.iload 4, 2) := by decide +kernel
theorem dX9_hasEnded_7 : decode cX9_hasEnded 7 = .ok (.aload_n 0, 1) := by decide +kernel
theorem dX9_hasEnded_8 : decode cX9_hasEnded 8 = .ok (.getfield 45, 3) := by decide +kernel
theorem dX9_hasEnded_11 : decode cX9_hasEnded 11 = .ok (.if_icmp .ge 51, 3) := by decide +kernel
theorem dX9_hasEnded_14 : decode cX9_hasEnded 14 = .ok (.aload_n 0, 1) := by decide +kernel
theorem dX9_hasEnded_15 : decode cX9_hasEnded 15 = .ok (.getfield 17, 3) := by decide +kernel
theorem dX9_hasEnded_18 : decode cX9_hasEnded 18 = .ok (.iload 4, 2) := by decide +kernel
theorem dX9_hasEnded_20 : decode cX9_hasEnded 20 = .ok (.iaload, 1) := by decide +kernel
theorem dX9_hasEnded_21 : decode cX9_hasEnded 21 = .ok (.iconst 2, 1) := by decide +kernel
theorem dX9_hasEnded_22 : decode cX9_hasEnded 22 = .ok (.if_icmp .ne 34, 3) := by decide +kernel
theorem dX9_hasEnded_25 : decode cX9_hasEnded 25 = .ok (.aload_n 0, 1) := by decide +kernel
theorem dX9_hasEnded_26 : decode cX9_hasEnded 26 = .ok (.getfield 23, 3) := by decide +kernel
theorem dX9_hasEnded_29 : decode cX9_hasEnded 29 = .ok (.iload 4, 2) := by decide +kernel
theorem dX9_hasEnded_31 : decode cX9_hasEnded 31 = .ok (.iaload, 1) := by decide +kernel
theorem dX9_hasEnded_32 : decode cX9_hasEnded 32 = .ok (.iconst (-1), 1) := by decide +kernel
theorem dX9_hasEnded_33 : decode cX9_hasEnded 33 = .ok (.if_icmp .eq 19, 3) := by decide +kernel
theorem dX9_hasEnded_36 : decode cX9_hasEnded 36 = .ok (.aload_n 0, 1) := by decide +kernel
theorem dX9_hasEnded_37 : decode cX9_hasEnded 37 = .ok (.aload_n 0, 1) := by decide +kernel
theorem dX9_hasEnded_38 : decode cX9_hasEnded 38 = .ok (.getfield 23, 3) := by decide +kernel
theorem dX9_hasEnded_41 : decode cX9_hasEnded 41 = .ok (.iload 4, 2) := by decide +kernel
theorem dX9_hasEnded_43 : decode cX9_hasEnded 43 = .ok (.iaload, 1) := by decide +kernel
theorem dX9_hasEnded_44 : decode cX9_hasEnded 44 = .ok (.aload_n 1, 1) := by decide +kernel
theorem dX9_hasEnded_45 : decode cX9_hasEnded 45 = .ok (.invokevirtual 61, 3) := by decide +kernel
theorem dX9_hasEnded_48 : decode cX9_hasEnded 48 = .ok (.iconst 1, 1) := by decide +kernel
theorem dX9_hasEnded_49 : decode cX9_hasEnded 49 = .ok (.if_icmp .ne 5, 3) := by decide +kernel
theorem dX9_hasEnded_52 : decode cX9_hasEnded 52 = .ok (.iconst 1, 1) := by decide +kernel
theorem dX9_hasEnded_53 : decode cX9_hasEnded 53 = .ok (.ireturn, 1) := by decide +kernel
theorem dX9_hasEnded_54 : decode cX9_hasEnded 54 = .ok (.iconst 0, 1) := by decide +kernel
theorem dX9_hasEnded_55 : decode cX9_hasEnded 55 = .ok (.istore_n 3, 1) := by decide +kernel
theorem dX9_hasEnded_56 : decode cX9_hasEnded 56 = .ok (.iinc 4 1, 3) := by decide +kernel
theorem dX9_hasEnded_59 : decode cX9_hasEnded 59 = .ok (.goto (-54), 3) := by decide +kernel
theorem dX9_hasEnded_62 : decode cX9_hasEnded 62 = .ok (.iload_n 3, 1) := by decide +kernel
theorem dX9_hasEnded_63 : decode cX9_hasEnded 63 = .ok (.ifCond .eq 11, 3) := by decide +kernel
theorem dX9_hasEnded_66 : decode cX9_hasEnded 66 = .ok (.iload_n 2, 1) := by decide +kernel
theorem dX9_hasEnded_67 : decode cX9_hasEnded 67 = .ok (.ifCond .eq 7, 3) := by decide +kernel
theorem dX9_hasEnded_70 : decode cX9_hasEnded 70 = .ok (.iconst 1, 1) := by decide +kernel
theorem dX9_hasEnded_71 : decode cX9_hasEnded 71 = .ok (.goto 4, 3) := by decide +kernel
theorem dX9_hasEnded_74 : decode cX9_hasEnded 74 = .ok (.iconst 0, 1) := by decide +kernel
theorem dX9_hasEnded_75 : decode cX9_hasEnded 75 = .ok (.ireturn, 1) := by decide +kernel
theorem dX9_ask_0 : decode cX9_ask 0 = .ok (.iconst (-1), 1) := by decide +kernel
theorem dX9_ask_1 : decode cX9_ask 1 = .ok (.istore_n 3, 1) := by decide +kernel
theorem dX9_ask_2 : decode cX9_ask 2 = .ok (.iload_n 1, 1) := by decide +kernel
theorem dX9_ask_3 : decode cX9_ask 3 = .ok (.iconst 0, 1) := by decide +kernel
theorem dX9_ask_4 : decode cX9_ask 4 = .ok (.invokestatic 42, 3) := by decide +kernel
theorem dX9_ask_7 : decode cX9_ask 7 = .ok (.istore 4, 2) := by decide +kernel
theorem dX9_ask_9 : decode cX9_ask 9 = .ok (.iload 4, 2) := by decide +kernel
theorem dX9_ask_11 : decode cX9_ask 11 = .ok (.aload_n 0, 1) := by decide +kernel
theorem dX9_ask_12 : decode cX9_ask 12 = .ok (.getfield 32, 3) := by decide +kernel
theorem dX9_ask_15 : decode cX9_ask 15 = .ok (.if_icmp .ge 284, 3) := by decide +kernel
theorem dX9_ask_18 : decode cX9_ask 18 = .ok (.aload_n 0, 1) := by decide +kernel
theorem dX9_ask_19 : decode cX9_ask 19 = .ok (.getfield 13, 3) := by decide +kernel
theorem dX9_ask_22 : decode cX9_ask 22 = .ok (.iload 4, 2) := by decide +kernel
theorem dX9_ask_24 : decode cX9_ask 24 = .ok (.iaload, 1) := by decide +kernel
theorem dX9_ask_25 : decode cX9_ask 25 = .ok (.bipush 15, 2) := by decide +kernel
theorem dX9_ask_27 : decode cX9_ask 27 = .ok (.iand, 1) := by decide +kernel
theorem dX9_ask_28 : decode cX9_ask 28 = .ok (.istore 5, 2) := by decide +kernel
theorem dX9_ask_30 : decode cX9_ask 30 = .ok (.aload_n 0, 1) := by decide +kernel
theorem dX9_ask_31 : decode cX9_ask 31 = .ok (.getfield 13, 3) := by decide +kernel
theorem dX9_ask_34 : decode cX9_ask 34 = .ok (.iload 4, 2) := by decide +kernel
theorem dX9_ask_36 : decode cX9_ask 36 = .ok (.iaload, 1) := by decide +kernel
theorem dX9_ask_37 : decode cX9_ask 37 = .ok (.iconst 4, 1) := by decide +kernel
theorem dX9_ask_38 : decode cX9_ask 38 = .ok (.ishr, 1) := by decide +kernel
theorem dX9_ask_39 : decode cX9_ask 39 = .ok (.istore 6, 2) := by decide +kernel
theorem dX9_ask_41 : decode cX9_ask 41 = .ok (.iload 5, 2) := by decide +kernel
theorem dX9_ask_43 : decode cX9_ask 43 = .ok (.ifCond .ne 19, 3) := by decide +kernel
theorem dX9_ask_46 : decode cX9_ask 46 = .ok (.iload_n 3, 1) := by decide +kernel
theorem dX9_ask_47 : decode cX9_ask 47 = .ok (.ifCond .lt 12, 3) := by decide +kernel
theorem dX9_ask_50 : decode cX9_ask 50 = .ok (.aload_n 0, 1) := by decide +kernel
theorem dX9_ask_51 : decode cX9_ask 51 = .ok (.getfield 29, 3) := by decide +kernel
theorem dX9_ask_54 : decode cX9_ask 54 = .ok (.iload_n 3, 1) := by decide +kernel
theorem dX9_ask_55 : decode cX9_ask 55 = .ok (.iaload, 1) := by decide +kernel
theorem dX9_ask_56 : decode cX9_ask 56 = .ok (.goto 5, 3) := by decide +kernel
theorem dX9_ask_59 : decode cX9_ask 59 = .ok (.ldc 65, 2) := by decide +kernel
theorem dX9_ask_61 : decode cX9_ask 61 = .ok (.ireturn, 1) := by decide +kernel
theorem dX9_ask_62 : decode cX9_ask 62 = .ok (.iload 5, 2) := by decide +kernel
theorem dX9_ask_64 : decode cX9_ask 64 = .ok (.iconst 1, 1) := by decide +kernel
theorem dX9_ask_65 : decode cX9_ask 65 = .ok (.if_icmp .eq 9, 3) := by decide +kernel
theorem dX9_ask_68 : decode cX9_ask 68 = .ok (.iload 5, 2) := by decide +kernel
theorem dX9_ask_70 : decode cX9_ask 70 = .ok (.iconst 2, 1) := by decide +kernel
theorem dX9_ask_71 : decode cX9_ask 71 = .ok (.if_icmp .ne 68, 3) := by decide +kernel
theorem dX9_ask_74 : decode cX9_ask 74 = .ok (.iload_n 3, 1) := by decide +kernel
theorem dX9_ask_75 : decode cX9_ask 75 = .ok (.iconst 1, 1) := by decide +kernel
theorem dX9_ask_76 : decode cX9_ask 76 = .ok (.iadd, 1) := by decide +kernel
theorem dX9_ask_77 : decode cX9_ask 77 = .ok (.aload_n 0, 1) := by decide +kernel
theorem dX9_ask_78 : decode cX9_ask 78 = .ok (.getfield 29, 3) := by decide +kernel
theorem dX9_ask_81 : decode cX9_ask 81 = .ok (.arraylength, 1) := by decide +kernel
theorem dX9_ask_82 : decode cX9_ask 82 = .ok (.if_icmp .lt 6, 3) := by decide +kernel
theorem dX9_ask_85 : decode cX9_ask 85 = .ok (.ldc 65, 2) := by decide +kernel
theorem dX9_ask_87 : decode cX9_ask 87 = .ok (.ireturn, 1) := by decide +kernel
theorem dX9_ask_88 : decode cX9_ask 88 = .ok (.iinc 3 1, 3) := by decide +kernel
theorem dX9_ask_91 : decode cX9_ask 91 = .ok (.iload 5, 2) := by decide +kernel
theorem dX9_ask_93 : decode cX9_ask 93 = .ok (.iconst 2, 1) := by decide +kernel
theorem dX9_ask_94 : decode cX9_ask 94 = .ok (.if_icmp .ne 19, 3) := by decide +kernel
theorem dX9_ask_97 : decode cX9_ask 97 = .ok (.iload 6, 2) := by decide +kernel
theorem dX9_ask_99 : decode cX9_ask 99 = .ok (.ifCond .lt 14, 3) := by decide +kernel
theorem dX9_ask_102 : decode cX9_ask 102 = .ok (.iload 6, 2) := by decide +kernel
theorem dX9_ask_104 : decode cX9_ask 104 = .ok (.aload_n 2, 1) := by decide +kernel
theorem dX9_ask_105 : decode cX9_ask 105 = .ok (.arraylength, 1) := by decide +kernel
theorem dX9_ask_106 : decode cX9_ask 106 = .ok (.if_icmp .ge 7, 3) := by decide +kernel
theorem dX9_ask_109 : decode cX9_ask 109 = .ok (.iconst 1, 1) := by decide +kernel
theorem dX9_ask_110 : decode cX9_ask 110 = .ok (.goto 4, 3) := by decide +kernel
theorem dX9_ask_113 : decode cX9_ask 113 = .ok (.iconst 0, 1) := by decide +kernel
theorem dX9_ask_114 : decode cX9_ask 114 = .ok (.istore 7, 2) := by decide +kernel
theorem dX9_ask_116 : decode cX9_ask 116 = .ok (.aload_n 0, 1) := by decide +kernel
theorem dX9_ask_117 : decode cX9_ask 117 = .ok (.getfield 29, 3) := by decide +kernel
theorem dX9_ask_120 : decode cX9_ask 120 = .ok (.iload_n 3, 1) := by decide +kernel
theorem dX9_ask_121 : decode cX9_ask 121 = .ok (.iload 7, 2) := by decide +kernel
theorem dX9_ask_123 : decode cX9_ask 123 = .ok (.ifCond .eq 10, 3) := by decide +kernel
theorem dX9_ask_126 : decode cX9_ask 126 = .ok (.aload_n 2, 1) := by decide +kernel
theorem dX9_ask_127 : decode cX9_ask 127 = .ok (.iload 6, 2) := by decide +kernel
theorem dX9_ask_129 : decode cX9_ask 129 = .ok (.iaload, 1) := by decide +kernel
theorem dX9_ask_130 : decode cX9_ask 130 = .ok (.goto 5, 3) := by decide +kernel
theorem dX9_ask_133 : decode cX9_ask 133 = .ok (.iload 6, 2) := by decide +kernel
theorem dX9_ask_135 : decode cX9_ask 135 = .ok (.iastore, 1) := by decide +kernel
theorem dX9_ask_136 : decode cX9_ask 136 = .ok (.goto 157, 3) := by decide +kernel
theorem dX9_ask_139 : decode cX9_ask 139 = .ok (.iload 5, 2) := by decide +kernel
theorem dX9_ask_141 : decode cX9_ask 141 = .ok (.bipush 11, 2) := by decide +kernel
theorem dX9_ask_143 : decode cX9_ask 143 = .ok (.if_icmp .ne 24, 3) := by decide +kernel
theorem dX9_ask_146 : decode cX9_ask 146 = .ok (.iload_n 3, 1) := by decide +kernel
theorem dX9_ask_147 : decode cX9_ask 147 = .ok (.ifCond .lt 20, 3) := by decide +kernel
theorem dX9_ask_150 : decode cX9_ask 150 = .ok (.aload_n 0, 1) := by decide +kernel
theorem dX9_ask_151 : decode cX9_ask 151 = .ok (.getfield 29, 3) := by decide +kernel
theorem dX9_ask_154 : decode cX9_ask 154 = .ok (.iload_n 3, 1) := by decide +kernel
theorem dX9_ask_155 : decode cX9_ask 155 = .ok (.iconst 1, 1) := by decide +kernel
theorem dX9_ask_156 : decode cX9_ask 156 = .ok (.aload_n 0, 1) := by decide +kernel
theorem dX9_ask_157 : decode cX9_ask 157 = .ok (.getfield 29, 3) := by decide +kernel
theorem dX9_ask_160 : decode cX9_ask 160 = .ok (.iload_n 3, 1) := by decide +kernel
theorem dX9_ask_161 : decode cX9_ask 161 = .ok (.iaload, 1) := by decide +kernel
theorem dX9_ask_162 : decode cX9_ask 162 = .ok (.isub, 1) := by decide +kernel
theorem dX9_ask_163 : decode cX9_ask 163 = .ok (.iastore, 1) := by decide +kernel
theorem dX9_ask_164 : decode cX9_ask 164 = .ok (.goto 129, 3) := by decide +kernel
theorem dX9_ask_167 : decode cX9_ask 167 = .ok (.iload 5, 2) := by decide +kernel
theorem dX9_ask_169 : decode cX9_ask 169 = .ok (.bipush 12, 2) := by decide +kernel
theorem dX9_ask_171 : decode cX9_ask 171 = .ok (.if_icmp .eq 10, 3) := by decide +kernel
theorem dX9_ask_174 : decode cX9_ask 174 = .ok (.iload 5, 2) := by decide +kernel
theorem dX9_ask_176 : decode cX9_ask 176 = .ok (.bipush 13, 2) := by decide +kernel
theorem dX9_ask_178 : decode cX9_ask 178 = .ok (.if_icmp .ne 48, 3) := by decide +kernel
theorem dX9_ask_181 : decode cX9_ask 181 = .ok (.iload_n 3, 1) := by decide +kernel
theorem dX9_ask_182 : decode cX9_ask 182 = .ok (.ifCond .lt 44, 3) := by decide +kernel
theorem dX9_ask_185 : decode cX9_ask 185 = .ok (.aload_n 0, 1) := by decide +kernel
theorem dX9_ask_186 : decode cX9_ask 186 = .ok (.getfield 29, 3) := by decide +kernel
theorem dX9_ask_189 : decode cX9_ask 189 = .ok (.iload_n 3, 1) := by decide +kernel
theorem dX9_ask_190 : decode cX9_ask 190 = .ok (.iaload, 1) := by decide +kernel
theorem dX9_ask_191 : decode cX9_ask 191 = .ok (.iload 5, 2) := by decide +kernel
theorem dX9_ask_193 : decode cX9_ask 193 = .ok (.bipush 12, 2) := by decide +kernel
theorem dX9_ask_195 : decode cX9_ask 195 = .ok (.if_icmp .ne 7, 3) := by decide +kernel
theorem dX9_ask_198 : decode cX9_ask 198 = .ok (.iconst 1, 1) := by decide +kernel
theorem dX9_ask_199 : decode cX9_ask 199 = .ok (.goto 4, 3) := by decide +kernel
theorem dX9_ask_202 : decode cX9_ask 202 = .ok (.iconst 0, 1) := by decide +kernel
theorem dX9_ask_203 : decode cX9_ask 203 = .ok (.if_icmp .ne 17, 3) := by decide +kernel
theorem dX9_ask_206 : decode cX9_ask 206 = .ok (.iload 4, 2) := by decide +kernel
theorem dX9_ask_208 : decode cX9_ask 208 = .ok (.iload 6, 2) := by decide +kernel
theorem dX9_ask_210 : decode cX9_ask 210 = .ok (.iconst 1, 1) := by decide +kernel
theorem dX9_ask_211 : decode cX9_ask 211 = .ok (.isub, 1) := by decide +kernel
theorem dX9_ask_212 : decode cX9_ask 212 = .ok (.invokestatic 42, 3) := by decide +kernel
theorem dX9_ask_215 : decode cX9_ask 215 = .ok (.istore 4, 2) := by decide +kernel
theorem dX9_ask_217 : decode cX9_ask 217 = .ok (.goto 76, 3) := by decide +kernel
theorem dX9_ask_220 : decode cX9_ask 220 = .ok (.iinc 3 (-1), 3) := by decide +kernel
theorem dX9_ask_223 : decode cX9_ask 223 = .ok (.goto 70, 3) := by decide +kernel
theorem dX9_ask_226 : decode cX9_ask 226 = .ok (.iload_n 3, 1) := by decide +kernel
theorem dX9_ask_227 : decode cX9_ask 227 = .ok (.iconst 1, 1) := by decide +kernel
theorem dX9_ask_228 : decode cX9_ask 228 = .ok (.if_icmp .lt 62, 3) := by decide +kernel
theorem dX9_ask_231 : decode cX9_ask 231 = .ok (.iinc 3 (-1), 3) := by decide +kernel
theorem dX9_ask_234 : decode cX9_ask 234 = .ok (.iload 5, 2) := by decide +kernel
theorem dX9_ask_236 : decode cX9_ask 236 = .ok (.aload_n 0, 1) := by decide +kernel
theorem dX9_ask_237 : decode cX9_ask 237 = .ok (.getfield 29, 3) := by decide +kernel
theorem dX9_ask_240 : decode cX9_ask 240 = .ok (.iload_n 3, 1) := by decide +kernel
theorem dX9_ask_241 : decode cX9_ask 241 = .ok (.iaload, 1) := by decide +kernel
theorem dX9_ask_242 : decode cX9_ask 242 = .ok (.i2l, 1) := by decide +kernel
theorem dX9_ask_243 : decode cX9_ask 243 = .ok (.aload_n 0, 1) := by decide +kernel
theorem dX9_ask_244 : decode cX9_ask 244 = .ok (.getfield 29, 3) := by decide +kernel
theorem dX9_ask_247 : decode cX9_ask 247 = .ok (.iload_n 3, 1) := by decide +kernel
theorem dX9_ask_248 : decode cX9_ask 248 = .ok (.iconst 1, 1) := by decide +kernel
theorem dX9_ask_249 : decode cX9_ask 249 = .ok (.iadd, 1) := by decide +kernel
theorem dX9_ask_250 : decode cX9_ask 250 = .ok (.iaload, 1) := by decide +kernel
theorem dX9_ask_251 : decode cX9_ask 251 = .ok (.i2l, 1) := by decide +kernel
theorem dX9_ask_252 : decode cX9_ask 252 = .ok (.invokestatic 66, 3) := by decide +kernel
theorem dX9_ask_255 : decode cX9_ask 255 = .ok (.lstore 7, 2) := by decide +kernel
theorem dX9_ask_257 : decode cX9_ask 257 = .ok (.lload 7, 2) := by decide +kernel
theorem dX9_ask_259 : decode cX9_ask 259 = .ok (.ldc2_w 70, 3) := by decide +kernel
theorem dX9_ask_262 : decode cX9_ask 262 = .ok (.lcmp, 1) := by decide +kernel
theorem dX9_ask_263 : decode cX9_ask 263 = .ok (.ifCond .lt 12, 3) := by decide +kernel
theorem dX9_ask_266 : decode cX9_ask 266 = .ok (.lload 7, 2) := by decide +kernel
theorem dX9_ask_268 : decode cX9_ask 268 = .ok (.ldc2_w 72, 3) := by decide +kernel
theorem dX9_ask_271 : decode cX9_ask 271 = .ok (.lcmp, 1) := by decide +kernel
theorem dX9_ask_272 : decode cX9_ask 272 = .ok (.ifCond .le 6, 3) := by decide +kernel
theorem dX9_ask_275 : decode cX9_ask 275 = .ok (.ldc 65, 2) := by decide +kernel
theorem dX9_ask_277 : decode cX9_ask 277 = .ok (.ireturn, 1) := by decide +kernel
theorem dX9_ask_278 : decode cX9_ask 278 = .ok (.aload_n 0, 1) := by decide +kernel
theorem dX9_ask_279 : decode cX9_ask 279 = .ok (.getfield 29, 3) := by decide +kernel
theorem dX9_ask_282 : decode cX9_ask 282 = .ok (.iload_n 3, 1) := by decide +kernel
theorem dX9_ask_283 : decode cX9_ask 283 = .ok (.lload 7, 2) := by decide +kernel
theorem dX9_ask_285 : decode cX9_ask 285 = .ok (.l2i, 1) := by decide +kernel
theorem dX9_ask_286 : decode cX9_ask 286 = .ok (.iastore, 1) := by decide +kernel
theorem dX9_ask_287 : decode cX9_ask 287 = .ok (.goto 6, 3) := by decide +kernel
theorem dX9_ask_290 : decode cX9_ask 290 = .ok (.ldc 65, 2) := by decide +kernel
theorem dX9_ask_292 : decode cX9_ask 292 = .ok (.ireturn, 1) := by decide +kernel
theorem dX9_ask_293 : decode cX9_ask 293 = .ok (.iinc 4 1, 3) := by decide +kernel
theorem dX9_ask_296 : decode cX9_ask 296 = .ok (.goto (-287), 3) := by decide +kernel
theorem dX9_ask_299 : decode cX9_ask 299 = .ok (.ldc 65, 2) := by decide +kernel
theorem dX9_ask_301 : decode cX9_ask 301 = .ok (.ireturn, 1) := by decide +kernel
theorem dX9_join_0 : decode cX9_join 0 = .ok (.iload_n 0, 1) := by decide +kernel
theorem dX9_join_1 : decode cX9_join 1 = .ok (.tableswitch 127 3 10 #[47, 51, 55, 59, 75, 91, 103, 115], 47) := by decide +kernel
theorem dX9_join_48 : decode cX9_join 48 = .ok (.lload_n 1, 1) := by decide +kernel
theorem dX9_join_49 : decode cX9_join 49 = .ok (.lload_n 3, 1) := by decide +kernel
theorem dX9_join_50 : decode cX9_join 50 = .ok (.ladd, 1) := by decide +kernel
theorem dX9_join_51 : decode cX9_join 51 = .ok (.lreturn, 1) := by decide +kernel
theorem dX9_join_52 : decode cX9_join 52 = .ok (.lload_n 1, 1) := by decide +kernel
theorem dX9_join_53 : decode cX9_join 53 = .ok (.lload_n 3, 1) := by decide +kernel
theorem dX9_join_54 : decode cX9_join 54 = .ok (.lsub, 1) := by decide +kernel
theorem dX9_join_55 : decode cX9_join 55 = .ok (.lreturn, 1) := by decide +kernel
theorem dX9_join_56 : decode cX9_join 56 = .ok (.lload_n 1, 1) := by decide +kernel
theorem dX9_join_57 : decode cX9_join 57 = .ok (.lload_n 3, 1) := by decide +kernel
theorem dX9_join_58 : decode cX9_join 58 = .ok (.lmul, 1) := by decide +kernel
theorem dX9_join_59 : decode cX9_join 59 = .ok (.lreturn, 1) := by decide +kernel
theorem dX9_join_60 : decode cX9_join 60 = .ok (.lload_n 3, 1) := by decide +kernel
theorem dX9_join_61 : decode cX9_join 61 = .ok (.lconst 0, 1) := by decide +kernel
theorem dX9_join_62 : decode cX9_join 62 = .ok (.lcmp, 1) := by decide +kernel
theorem dX9_join_63 : decode cX9_join 63 = .ok (.ifCond .ne 9, 3) := by decide +kernel
theorem dX9_join_66 : decode cX9_join 66 = .ok (.ldc2_w 74, 3) := by decide +kernel
theorem dX9_join_69 : decode cX9_join 69 = .ok (.goto 6, 3) := by decide +kernel
theorem dX9_join_72 : decode cX9_join 72 = .ok (.lload_n 1, 1) := by decide +kernel
theorem dX9_join_73 : decode cX9_join 73 = .ok (.lload_n 3, 1) := by decide +kernel
theorem dX9_join_74 : decode cX9_join 74 = .ok (.ldiv, 1) := by decide +kernel
theorem dX9_join_75 : decode cX9_join 75 = .ok (.lreturn, 1) := by decide +kernel
theorem dX9_join_76 : decode cX9_join 76 = .ok (.lload_n 3, 1) := by decide +kernel
theorem dX9_join_77 : decode cX9_join 77 = .ok (.lconst 0, 1) := by decide +kernel
theorem dX9_join_78 : decode cX9_join 78 = .ok (.lcmp, 1) := by decide +kernel
theorem dX9_join_79 : decode cX9_join 79 = .ok (.ifCond .ne 9, 3) := by decide +kernel
theorem dX9_join_82 : decode cX9_join 82 = .ok (.ldc2_w 74, 3) := by decide +kernel
theorem dX9_join_85 : decode cX9_join 85 = .ok (.goto 6, 3) := by decide +kernel
theorem dX9_join_88 : decode cX9_join 88 = .ok (.lload_n 1, 1) := by decide +kernel
theorem dX9_join_89 : decode cX9_join 89 = .ok (.lload_n 3, 1) := by decide +kernel
theorem dX9_join_90 : decode cX9_join 90 = .ok (.lrem, 1) := by decide +kernel
theorem dX9_join_91 : decode cX9_join 91 = .ok (.lreturn, 1) := by decide +kernel
theorem dX9_join_92 : decode cX9_join 92 = .ok (.lload_n 1, 1) := by decide +kernel
theorem dX9_join_93 : decode cX9_join 93 = .ok (.lload_n 3, 1) := by decide +kernel
theorem dX9_join_94 : decode cX9_join 94 = .ok (.lcmp, 1) := by decide +kernel
theorem dX9_join_95 : decode cX9_join 95 = .ok (.ifCond .ge 7, 3) := by decide +kernel
theorem dX9_join_98 : decode cX9_join 98 = .ok (.lconst 1, 1) := by decide +kernel
theorem dX9_join_99 : decode cX9_join 99 = .ok (.goto 4, 3) := by decide +kernel
theorem dX9_join_102 : decode cX9_join 102 = .ok (.lconst 0, 1) := by decide +kernel
theorem dX9_join_103 : decode cX9_join 103 = .ok (.lreturn, 1) := by decide +kernel
theorem dX9_join_104 : decode cX9_join 104 = .ok (.lload_n 1, 1) := by decide +kernel
theorem dX9_join_105 : decode cX9_join 105 = .ok (.lload_n 3, 1) := by decide +kernel
theorem dX9_join_106 : decode cX9_join 106 = .ok (.lcmp, 1) := by decide +kernel
theorem dX9_join_107 : decode cX9_join 107 = .ok (.ifCond .le 7, 3) := by decide +kernel
theorem dX9_join_110 : decode cX9_join 110 = .ok (.lconst 1, 1) := by decide +kernel
theorem dX9_join_111 : decode cX9_join 111 = .ok (.goto 4, 3) := by decide +kernel
theorem dX9_join_114 : decode cX9_join 114 = .ok (.lconst 0, 1) := by decide +kernel
theorem dX9_join_115 : decode cX9_join 115 = .ok (.lreturn, 1) := by decide +kernel
theorem dX9_join_116 : decode cX9_join 116 = .ok (.lload_n 1, 1) := by decide +kernel
theorem dX9_join_117 : decode cX9_join 117 = .ok (.lload_n 3, 1) := by decide +kernel
theorem dX9_join_118 : decode cX9_join 118 = .ok (.lcmp, 1) := by decide +kernel
theorem dX9_join_119 : decode cX9_join 119 = .ok (.ifCond .ne 7, 3) := by decide +kernel
theorem dX9_join_122 : decode cX9_join 122 = .ok (.lconst 1, 1) := by decide +kernel
theorem dX9_join_123 : decode cX9_join 123 = .ok (.goto 4, 3) := by decide +kernel
theorem dX9_join_126 : decode cX9_join 126 = .ok (.lconst 0, 1) := by decide +kernel
theorem dX9_join_127 : decode cX9_join 127 = .ok (.lreturn, 1) := by decide +kernel
theorem dX9_join_128 : decode cX9_join 128 = .ok (.ldc2_w 74, 3) := by decide +kernel
theorem dX9_join_131 : decode cX9_join 131 = .ok (.lreturn, 1) := by decide +kernel
theorem dX10_init_0 : decode cX10_init 0 = .ok (.aload_n 0, 1) := by decide +kernel
theorem dX10_init_1 : decode cX10_init 1 = .ok (.invokespecial 3, 3) := by decide +kernel
theorem dX10_init_4 : decode cX10_init 4 = .ok (.aload_n 0, 1) := by decide +kernel
theorem dX10_init_5 : decode cX10_init 5 = .ok (.iconst 4, 1) := by decide +kernel
theorem dX10_init_6 : decode cX10_init 6 = .ok (.newarray .int, 2) := by decide +kernel
theorem dX10_init_8 : decode cX10_init 8 = .ok (.putfield 11, 3) := by decide +kernel
theorem dX10_init_11 : decode cX10_init 11 = .ok (.aload_n 0, 1) := by decide +kernel
theorem dX10_init_12 : decode cX10_init 12 = .ok (.new 15, 3) := by decide +kernel
theorem dX10_init_15 : decode cX10_init 15 = .ok (.dup, 1) := by decide +kernel
theorem dX10_init_16 : decode cX10_init 16 = .ok (.invokespecial 17, 3) := by decide +kernel
theorem dX10_init_19 : decode cX10_init 19 = .ok (.putfield 18, 3) := by decide +kernel
theorem dX10_init_22 : decode cX10_init 22 = .ok (.aload_n 0, 1) := by decide +kernel
theorem dX10_init_23 : decode cX10_init 23 = .ok (.new 15, 3) := by decide +kernel
theorem dX10_init_26 : decode cX10_init 26 = .ok (.dup, 1) := by decide +kernel
theorem dX10_init_27 : decode cX10_init 27 = .ok (.invokespecial 17, 3) := by decide +kernel
theorem dX10_init_30 : decode cX10_init 30 = .ok (.putfield 22, 3) := by decide +kernel
theorem dX10_init_33 : decode cX10_init 33 = .ok (.aload_n 0, 1) := by decide +kernel
theorem dX10_init_34 : decode cX10_init 34 = .ok (.new 15, 3) := by decide +kernel
theorem dX10_init_37 : decode cX10_init 37 = .ok (.dup, 1) := by decide +kernel
theorem dX10_init_38 : decode cX10_init 38 = .ok (.invokespecial 17, 3) := by decide +kernel
theorem dX10_init_41 : decode cX10_init 41 = .ok (.putfield 25, 3) := by decide +kernel
theorem dX10_init_44 : decode cX10_init 44 = .ok (.aload_n 0, 1) := by decide +kernel
theorem dX10_init_45 : decode cX10_init 45 = .ok (.bipush 100, 2) := by decide +kernel
theorem dX10_init_47 : decode cX10_init 47 = .ok (.newarray .int, 2) := by decide +kernel
theorem dX10_init_49 : decode cX10_init 49 = .ok (.putfield 28, 3) := by decide +kernel
theorem dX10_init_52 : decode cX10_init 52 = .ok (.aload_n 0, 1) := by decide +kernel
theorem dX10_init_53 : decode cX10_init 53 = .ok (.bipush 16, 2) := by decide +kernel
theorem dX10_init_55 : decode cX10_init 55 = .ok (.newarray .int, 2) := by decide +kernel
theorem dX10_init_57 : decode cX10_init 57 = .ok (.putfield 31, 3) := by decide +kernel
theorem dX10_init_60 : decode cX10_init 60 = .ok (.aload_n 0, 1) := by decide +kernel
theorem dX10_init_61 : decode cX10_init 61 = .ok (.iconst 0, 1) := by decide +kernel
theorem dX10_init_62 : decode cX10_init 62 = .ok (.newarray .int, 2) := by decide +kernel
theorem dX10_init_64 : decode cX10_init 64 = .ok (.putfield 34, 3) := by decide +kernel
theorem dX10_init_67 : decode cX10_init 67 = .ok (.aload_n 0, 1) := by decide +kernel
theorem dX10_init_68 : decode cX10_init 68 = .ok (.iconst 0, 1) := by decide +kernel
theorem dX10_init_69 : decode cX10_init 69 = .ok (.newarray .int, 2) := by decide +kernel
theorem dX10_init_71 : decode cX10_init 71 = .ok (.putfield 37, 3) := by decide +kernel
theorem dX10_init_74 : decode cX10_init 74 = .ok (.aload_n 0, 1) := by decide +kernel
theorem dX10_init_75 : decode cX10_init 75 = .ok (.aload_n 1, 1) := by decide +kernel
theorem dX10_init_76 : decode cX10_init 76 = .ok (.putfield 40, 3) := by decide +kernel
theorem dX10_init_79 : decode cX10_init 79 = .ok (.aload_n 0, 1) := by decide +kernel
theorem dX10_init_80 : decode cX10_init 80 = .ok (.aload_n 2, 1) := by decide +kernel
theorem dX10_init_81 : decode cX10_init 81 = .ok (.putfield 44, 3) := by decide +kernel
theorem dX10_init_84 : decode cX10_init 84 = .ok (.return_, 1) := by decide +kernel
theorem dX10_start_0 : decode cX10_start 0 = .ok (.aload_n 0, 1) := by decide +kernel
theorem dX10_start_1 : decode cX10_start 1 = .ok (.getfield 22, 3) := by decide +kernel
theorem dX10_start_4 : decode cX10_start 4 = .ok (.aload_n 1, 1) := by decide +kernel
theorem dX10_start_5 : decode cX10_start 5 = .ok (.invokevirtual 48, 3) := by decide +kernel
theorem dX10_start_8 : decode cX10_start 8 = .ok (.aload_n 0, 1) := by decide +kernel
theorem dX10_start_9 : decode cX10_start 9 = .ok (.getfield 22, 3) := by decide +kernel
theorem dX10_start_12 : decode cX10_start 12 = .ok (.iconst 1, 1) := by decide +kernel
theorem dX10_start_13 : decode cX10_start 13 = .ok (.aload_n 0, 1) := by decide +kernel
theorem dX10_start_14 : decode cX10_start 14 = .ok (.getfield 22, 3) := by decide +kernel
theorem dX10_start_17 : decode cX10_start 17 = .ok (.getfield 52, 3) := by decide +kernel
theorem dX10_start_20 : decode cX10_start 20 = .ok (.bipush 7, 2) := by decide +kernel
theorem dX10_start_22 : decode cX10_start 22 = .ok (.invokestatic 56, 3) := by decide +kernel
theorem dX10_start_25 : decode cX10_start 25 = .ok (.invokestatic 62, 3) := by decide +kernel
theorem dX10_start_28 : decode cX10_start 28 = .ok (.putfield 52, 3) := by decide +kernel
theorem dX10_start_31 : decode cX10_start 31 = .ok (.aload_n 0, 1) := by decide +kernel
theorem dX10_start_32 : decode cX10_start 32 = .ok (.getfield 22, 3) := by decide +kernel
theorem dX10_start_35 : decode cX10_start 35 = .ok (.iconst 0, 1) := by decide +kernel
theorem dX10_start_36 : decode cX10_start 36 = .ok (.invokevirtual 65, 3) := by decide +kernel
theorem dX10_start_39 : decode cX10_start 39 = .ok (.aload_n 0, 1) := by decide +kernel
theorem dX10_start_40 : decode cX10_start 40 = .ok (.getfield 22, 3) := by decide +kernel
theorem dX10_start_43 : decode cX10_start 43 = .ok (.iconst 0, 1) := by decide +kernel
theorem dX10_start_44 : decode cX10_start 44 = .ok (.putfield 69, 3) := by decide +kernel
theorem dX10_start_47 : decode cX10_start 47 = .ok (.aload_n 0, 1) := by decide +kernel
theorem dX10_start_48 : decode cX10_start 48 = .ok (.getfield 22, 3) := by decide +kernel
theorem dX10_start_51 : decode cX10_start 51 = .ok (.iconst 0, 1) := by decide +kernel
theorem dX10_start_52 : decode cX10_start 52 = .ok (.putfield 72, 3) := by decide +kernel
theorem dX10_start_55 : decode cX10_start 55 = .ok (.aload_n 0, 1) := by decide +kernel
theorem dX10_start_56 : decode cX10_start 56 = .ok (.getfield 75, 3) := by decide +kernel
theorem dX10_start_59 : decode cX10_start 59 = .ok (.ifCond .le 87, 3) := by decide +kernel
theorem dX10_start_62 : decode cX10_start 62 = .ok (.aload_n 0, 1) := by decide +kernel
theorem dX10_start_63 : decode cX10_start 63 = .ok (.getfield 78, 3) := by decide +kernel
theorem dX10_start_66 : decode cX10_start 66 = .ok (.aload_n 0, 1) := by decide +kernel
theorem dX10_start_67 : decode cX10_start 67 = .ok (.getfield 40, 3) := by decide +kernel
theorem dX10_start_70 : decode cX10_start 70 = .ok (.invokevirtual 82, 3) := by decide +kernel
theorem dX10_start_73 : decode cX10_start 73 = .ok (.if_acmp .ne 73, 3) := by decide +kernel
theorem dX10_start_76 : decode cX10_start 76 = .ok (.aload_n 0, 1) := by decide +kernel
theorem dX10_start_77 : decode cX10_start 77 = .ok (.getfield 88, 3) := by decide +kernel
theorem dX10_start_80 : decode cX10_start 80 = .ok (.aload_n 0, 1) := by decide +kernel
theorem dX10_start_81 : decode cX10_start 81 = .ok (.getfield 40, 3) := by decide +kernel
theorem dX10_start_84 : decode cX10_start 84 = .ok (.getfield 91, 3) := by decide +kernel
theorem dX10_start_87 : decode cX10_start 87 = .ok (.if_icmp .ne 59, 3) := by decide +kernel
theorem dX10_start_90 : decode cX10_start 90 = .ok (.aload_n 0, 1) := by decide +kernel
theorem dX10_start_91 : decode cX10_start 91 = .ok (.getfield 22, 3) := by decide +kernel
theorem dX10_start_94 : decode cX10_start 94 = .ok (.getfield 52, 3) := by decide +kernel
theorem dX10_start_97 : decode cX10_start 97 = .ok (.aload_n 0, 1) := by decide +kernel
theorem dX10_start_98 : decode cX10_start 98 = .ok (.getfield 18, 3) := by decide +kernel
theorem dX10_start_101 : decode cX10_start 101 = .ok (.getfield 52, 3) := by decide +kernel
theorem dX10_start_104 : decode cX10_start 104 = .ok (.if_icmp .ne 42, 3) := by decide +kernel
theorem dX10_start_107 : decode cX10_start 107 = .ok (.aload_n 0, 1) := by decide +kernel
theorem dX10_start_108 : decode cX10_start 108 = .ok (.getfield 22, 3) := by decide +kernel
theorem dX10_start_111 : decode cX10_start 111 = .ok (.getfield 92, 3) := by decide +kernel
theorem dX10_start_114 : decode cX10_start 114 = .ok (.aload_n 0, 1) := by decide +kernel
theorem dX10_start_115 : decode cX10_start 115 = .ok (.getfield 18, 3) := by decide +kernel
theorem dX10_start_118 : decode cX10_start 118 = .ok (.getfield 92, 3) := by decide +kernel
theorem dX10_start_121 : decode cX10_start 121 = .ok (.if_icmp .ne 25, 3) := by decide +kernel
theorem dX10_start_124 : decode cX10_start 124 = .ok (.aload_n 0, 1) := by decide +kernel
theorem dX10_start_125 : decode cX10_start 125 = .ok (.getfield 22, 3) := by decide +kernel
theorem dX10_start_128 : decode cX10_start 128 = .ok (.invokevirtual 95, 3) := by decide +kernel
theorem dX10_start_131 : decode cX10_start 131 = .ok (.aload_n 0, 1) := by decide +kernel
theorem dX10_start_132 : decode cX10_start 132 = .ok (.getfield 18, 3) := by decide +kernel
theorem dX10_start_135 : decode cX10_start 135 = .ok (.invokevirtual 95, 3) := by decide +kernel
theorem dX10_start_138 : decode cX10_start 138 = .ok (.lcmp, 1) := by decide +kernel
theorem dX10_start_139 : decode cX10_start 139 = .ok (.ifCond .ne 7, 3) := by decide +kernel
theorem dX10_start_142 : decode cX10_start 142 = .ok (.iconst 1, 1) := by decide +kernel
theorem dX10_start_143 : decode cX10_start 143 = .ok (.goto 4, 3) := by decide +kernel
theorem dX10_start_146 : decode cX10_start 146 = .ok (.iconst 0, 1) := by decide +kernel
theorem dX10_start_147 : decode cX10_start 147 = .ok (.istore_n 2, 1) := by decide +kernel
theorem dX10_start_148 : decode cX10_start 148 = .ok (.iload_n 2, 1) := by decide +kernel
theorem dX10_start_149 : decode cX10_start 149 = .ok (.ifCond .ne 45, 3) := by decide +kernel
theorem dX10_start_152 : decode cX10_start 152 = .ok (.aload_n 0, 1) := by decide +kernel
theorem dX10_start_153 : decode cX10_start 153 = .ok (.getfield 18, 3) := by decide +kernel
theorem dX10_start_156 : decode cX10_start 156 = .ok (.aload_n 0, 1) := by decide +kernel
theorem dX10_start_157 : decode cX10_start 157 = .ok (.getfield 22, 3) := by decide +kernel
theorem dX10_start_160 : decode cX10_start 160 = .ok (.invokevirtual 48, 3) := by decide +kernel
theorem dX10_start_163 : decode cX10_start 163 = .ok (.aload_n 0, 1) := by decide +kernel
theorem dX10_start_164 : decode cX10_start 164 = .ok (.aload_n 0, 1) := by decide +kernel
theorem dX10_start_165 : decode cX10_start 165 = .ok (.getfield 40, 3) := by decide +kernel
theorem dX10_start_168 : decode cX10_start 168 = .ok (.invokevirtual 82, 3) := by decide +kernel
theorem dX10_start_171 : decode cX10_start 171 = .ok (.putfield 78, 3) := by decide +kernel
theorem dX10_start_174 : decode cX10_start 174 = .ok (.aload_n 0, 1) := by decide +kernel
theorem dX10_start_175 : decode cX10_start 175 = .ok (.aload_n 0, 1) := by decide +kernel
theorem dX10_start_176 : decode cX10_start 176 = .ok (.getfield 40, 3) := by decide +kernel
theorem dX10_start_179 : decode cX10_start 179 = .ok (.getfield 91, 3) := by decide +kernel
theorem dX10_start_182 : decode cX10_start 182 = .ok (.putfield 88, 3) := by decide +kernel
theorem dX10_start_185 : decode cX10_start 185 = .ok (.aload_n 0, 1) := by decide +kernel
theorem dX10_start_186 : decode cX10_start 186 = .ok (.iconst (-1), 1) := by decide +kernel
theorem dX10_start_187 : decode cX10_start 187 = .ok (.putfield 99, 3) := by decide +kernel
theorem dX10_start_190 : decode cX10_start 190 = .ok (.aload_n 0, 1) := by decide +kernel
theorem dX10_start_191 : decode cX10_start 191 = .ok (.invokevirtual 102, 3) := by decide +kernel
theorem dX10_start_194 : decode cX10_start 194 = .ok (.return_, 1) := by decide +kernel
theorem dX10_makeRoom_0 : decode cX10_makeRoom 0 = .ok (.aload_n 0, 1) := by decide +kernel
theorem dX10_makeRoom_1 : decode cX10_makeRoom 1 = .ok (.getfield 18, 3) := by decide +kernel
theorem dX10_makeRoom_4 : decode cX10_makeRoom 4 = .ok (.iconst 0, 1) := by decide +kernel
theorem dX10_makeRoom_5 : decode cX10_makeRoom 5 = .ok (.invokevirtual 105, 3) := by decide +kernel
theorem dX10_makeRoom_8 : decode cX10_makeRoom 8 = .ok (.ifCond .eq 20, 3) := by decide +kernel
theorem dX10_makeRoom_11 : decode cX10_makeRoom 11 = .ok (.aload_n 0, 1) := by decide +kernel
theorem dX10_makeRoom_12 : decode cX10_makeRoom 12 = .ok (.getfield 78, 3) := by decide +kernel
theorem dX10_makeRoom_15 : decode cX10_makeRoom 15 = .ok (.ifnull 17, 3) := by decide +kernel
theorem dX10_makeRoom_18 : decode cX10_makeRoom 18 = .ok (.aload_n 0, 1) := by decide +kernel
theorem dX10_makeRoom_19 : decode cX10_makeRoom 19 = .ok (.getfield 78, 3) := by decide +kernel
theorem dX10_makeRoom_22 : decode cX10_makeRoom 22 = .ok (.getfield 109, 3) := by decide +kernel
theorem dX10_makeRoom_25 : decode cX10_makeRoom 25 = .ok (.ifCond .eq 7, 3) := by decide +kernel
theorem dX10_makeRoom_28 : decode cX10_makeRoom 28 = .ok (.iconst 1, 1) := by decide +kernel
theorem dX10_makeRoom_29 : decode cX10_makeRoom 29 = .ok (.goto 4, 3) := by decide +kernel
theorem dX10_makeRoom_32 : decode cX10_makeRoom 32 = .ok (.iconst 0, 1) := by decide +kernel
theorem dX10_makeRoom_33 : decode cX10_makeRoom 33 = .ok (.istore_n 1, 1) := by decide +kernel
theorem dX10_makeRoom_34 : decode cX10_makeRoom 34 = .ok (.aload_n 0, 1) := by decide +kernel
theorem dX10_makeRoom_35 : decode cX10_makeRoom 35 = .ok (.iload_n 1, 1) := by decide +kernel
theorem dX10_makeRoom_36 : decode cX10_makeRoom 36 = .ok (.ifCond .eq 15, 3) := by decide +kernel
theorem dX10_makeRoom_39 : decode cX10_makeRoom 39 = .ok (.aload_n 0, 1) := by decide +kernel
theorem dX10_makeRoom_40 : decode cX10_makeRoom 40 = .ok (.getfield 18, 3) := by decide +kernel
theorem dX10_makeRoom_43 : decode cX10_makeRoom 43 = .ok (.getfield 52, 3) := by decide +kernel
theorem dX10_makeRoom_46 : decode cX10_makeRoom 46 = .ok (.iconst 1, 1) := by decide +kernel
theorem dX10_makeRoom_47 : decode cX10_makeRoom 47 = .ok (.iadd, 1) := by decide +kernel
theorem dX10_makeRoom_48 : decode cX10_makeRoom 48 = .ok (.goto 4, 3) := by decide +kernel
theorem dX10_makeRoom_51 : decode cX10_makeRoom 51 = .ok (.iconst 1, 1) := by decide +kernel
theorem dX10_makeRoom_52 : decode cX10_makeRoom 52 = .ok (.putfield 75, 3) := by decide +kernel
theorem dX10_makeRoom_55 : decode cX10_makeRoom 55 = .ok (.aload_n 0, 1) := by decide +kernel
theorem dX10_makeRoom_56 : decode cX10_makeRoom 56 = .ok (.getfield 18, 3) := by decide +kernel
theorem dX10_makeRoom_59 : decode cX10_makeRoom 59 = .ok (.getfield 52, 3) := by decide +kernel
theorem dX10_makeRoom_62 : decode cX10_makeRoom 62 = .ok (.iconst 1, 1) := by decide +kernel
theorem dX10_makeRoom_63 : decode cX10_makeRoom 63 = .ok (.isub, 1) := by decide +kernel
theorem dX10_makeRoom_64 : decode cX10_makeRoom 64 = .ok (.istore_n 2, 1) := by decide +kernel
theorem dX10_makeRoom_65 : decode cX10_makeRoom 65 = .ok (.iload_n 2, 1) := by decide +kernel
theorem dX10_makeRoom_66 : decode cX10_makeRoom 66 = .ok (.ifCond .lt 27, 3) := by decide +kernel
theorem dX10_makeRoom_69 : decode cX10_makeRoom 69 = .ok (.aload_n 0, 1) := by decide +kernel
theorem dX10_makeRoom_70 : decode cX10_makeRoom 70 = .ok (.getfield 31, 3) := by decide +kernel
theorem dX10_makeRoom_73 : decode cX10_makeRoom 73 = .ok (.aload_n 0, 1) := by decide +kernel
theorem dX10_makeRoom_74 : decode cX10_makeRoom 74 = .ok (.getfield 18, 3) := by decide +kernel
theorem dX10_makeRoom_77 : decode cX10_makeRoom 77 = .ok (.getfield 115, 3) := by decide +kernel
theorem dX10_makeRoom_80 : decode cX10_makeRoom 80 = .ok (.iload_n 2, 1) := by decide +kernel
theorem dX10_makeRoom_81 : decode cX10_makeRoom 81 = .ok (.iaload, 1) := by decide +kernel
theorem dX10_makeRoom_82 : decode cX10_makeRoom 82 = .ok (.bipush 15, 2) := by decide +kernel
theorem dX10_makeRoom_84 : decode cX10_makeRoom 84 = .ok (.iand, 1) := by decide +kernel
theorem dX10_makeRoom_85 : decode cX10_makeRoom 85 = .ok (.iload_n 2, 1) := by decide +kernel
theorem dX10_makeRoom_86 : decode cX10_makeRoom 86 = .ok (.iastore, 1) := by decide +kernel
theorem dX10_makeRoom_87 : decode cX10_makeRoom 87 = .ok (.iinc 2 (-1), 3) := by decide +kernel
theorem dX10_makeRoom_90 : decode cX10_makeRoom 90 = .ok (.goto (-25), 3) := by decide +kernel
theorem dX10_makeRoom_93 : decode cX10_makeRoom 93 = .ok (.aload_n 0, 1) := by decide +kernel
theorem dX10_makeRoom_94 : decode cX10_makeRoom 94 = .ok (.getfield 18, 3) := by decide +kernel
theorem dX10_makeRoom_97 : decode cX10_makeRoom 97 = .ok (.getfield 52, 3) := by decide +kernel
theorem dX10_makeRoom_100 : decode cX10_makeRoom 100 = .ok (.invokestatic 118, 3) := by decide +kernel
theorem dX10_makeRoom_103 : decode cX10_makeRoom 103 = .ok (.aload_n 0, 1) := by decide +kernel
theorem dX10_makeRoom_104 : decode cX10_makeRoom 104 = .ok (.getfield 75, 3) := by decide +kernel
theorem dX10_makeRoom_107 : decode cX10_makeRoom 107 = .ok (.imul, 1) := by decide +kernel
theorem dX10_makeRoom_108 : decode cX10_makeRoom 108 = .ok (.istore_n 2, 1) := by decide +kernel
theorem dX10_makeRoom_109 : decode cX10_makeRoom 109 = .ok (.aload_n 0, 1) := by decide +kernel
theorem dX10_makeRoom_110 : decode cX10_makeRoom 110 = .ok (.getfield 34, 3) := by decide +kernel
theorem dX10_makeRoom_113 : decode cX10_makeRoom 113 = .ok (.arraylength, 1) := by decide +kernel
theorem dX10_makeRoom_114 : decode cX10_makeRoom 114 = .ok (.iload_n 2, 1) := by decide +kernel
theorem dX10_makeRoom_115 : decode cX10_makeRoom 115 = .ok (.if_icmp .lt 12, 3) := by decide +kernel
theorem dX10_makeRoom_118 : decode cX10_makeRoom 118 = .ok (.aload_n 0, 1) := by decide +kernel
theorem dX10_makeRoom_119 : decode cX10_makeRoom 119 = .ok (.getfield 37, 3) := by decide +kernel
theorem dX10_makeRoom_122 : decode cX10_makeRoom 122 = .ok (.arraylength, 1) := by decide +kernel
theorem dX10_makeRoom_123 : decode cX10_makeRoom 123 = .ok (.iload_n 2, 1) := by decide +kernel
theorem dX10_makeRoom_124 : decode cX10_makeRoom 124 = .ok (.if_icmp .ge 20, 3) := by decide +kernel
theorem dX10_makeRoom_127 : decode cX10_makeRoom 127 = .ok (.aload_n 0, 1) := by decide +kernel
theorem dX10_makeRoom_128 : decode cX10_makeRoom 128 = .ok (.iload_n 2, 1) := by decide +kernel
theorem dX10_makeRoom_129 : decode cX10_makeRoom 129 = .ok (.newarray .int, 2) := by decide +kernel
theorem dX10_makeRoom_131 : decode cX10_makeRoom 131 = .ok (.putfield 34, 3) := by decide +kernel
theorem dX10_makeRoom_134 : decode cX10_makeRoom 134 = .ok (.aload_n 0, 1) := by decide +kernel
theorem dX10_makeRoom_135 : decode cX10_makeRoom 135 = .ok (.iload_n 2, 1) := by decide +kernel
theorem dX10_makeRoom_136 : decode cX10_makeRoom 136 = .ok (.newarray .int, 2) := by decide +kernel
theorem dX10_makeRoom_138 : decode cX10_makeRoom 138 = .ok (.putfield 37, 3) := by decide +kernel
theorem dX10_makeRoom_141 : decode cX10_makeRoom 141 = .ok (.goto 30, 3) := by decide +kernel
theorem dX10_makeRoom_144 : decode cX10_makeRoom 144 = .ok (.iconst 0, 1) := by decide +kernel
theorem dX10_makeRoom_145 : decode cX10_makeRoom 145 = .ok (.istore_n 3, 1) := by decide +kernel
theorem dX10_makeRoom_146 : decode cX10_makeRoom 146 = .ok (.iload_n 3, 1) := by decide +kernel
theorem dX10_makeRoom_147 : decode cX10_makeRoom 147 = .ok (.iload_n 2, 1) := by decide +kernel
theorem dX10_makeRoom_148 : decode cX10_makeRoom 148 = .ok (.if_icmp .ge 23, 3) := by decide +kernel
theorem dX10_makeRoom_151 : decode cX10_makeRoom 151 = .ok (.aload_n 0, 1) := by decide +kernel
theorem dX10_makeRoom_152 : decode cX10_makeRoom 152 = .ok (.getfield 34, 3) := by decide +kernel
theorem dX10_makeRoom_155 : decode cX10_makeRoom 155 = .ok (.iload_n 3, 1) := by decide +kernel
theorem dX10_makeRoom_156 : decode cX10_makeRoom 156 = .ok (.iconst 0, 1) := by decide +kernel
theorem dX10_makeRoom_157 : decode cX10_makeRoom 157 = .ok (.iastore, 1) := by decide +kernel
theorem dX10_makeRoom_158 : decode cX10_makeRoom 158 = .ok (.aload_n 0, 1) := by decide +kernel
theorem dX10_makeRoom_159 : decode cX10_makeRoom 159 = .ok (.getfield 37, 3) := by decide +kernel
theorem dX10_makeRoom_162 : decode cX10_makeRoom 162 = .ok (.iload_n 3, 1) := by decide +kernel
theorem dX10_makeRoom_163 : decode cX10_makeRoom 163 = .ok (.iconst 0, 1) := by decide +kernel
theorem dX10_makeRoom_164 : decode cX10_makeRoom 164 = .ok (.iastore, 1) := by decide +kernel
theorem dX10_makeRoom_165 : decode cX10_makeRoom 165 = .ok (.iinc 3 1, 3) := by decide +kernel
theorem dX10_makeRoom_168 : decode cX10_makeRoom 168 = .ok (.goto (-22), 3) := by decide +kernel
theorem dX10_makeRoom_171 : decode cX10_makeRoom 171 = .ok (.return_, 1) := by decide +kernel
theorem dX10_rowsOf_0 : decode cX10_rowsOf 0 = .ok (.iload_n 0, 1) := by decide +kernel
theorem dX10_rowsOf_1 : decode cX10_rowsOf 1 = .ok (.ifCond .lt 19, 3) := by decide +kernel
theorem dX10_rowsOf_4 : decode cX10_rowsOf 4 = .ok (.iload_n 0, 1) := by decide +kernel
theorem dX10_rowsOf_5 : decode cX10_rowsOf 5 = .ok (.getstatic 121, 3) := by decide +kernel
theorem dX10_rowsOf_8 : decode cX10_rowsOf 8 = .ok (.arraylength, 1) := by decide +kernel
theorem dX10_rowsOf_9 : decode cX10_rowsOf 9 = .ok (.if_icmp .ge 11, 3) := by decide +kernel
theorem dX10_rowsOf_12 : decode cX10_rowsOf 12 = .ok (.getstatic 121, 3) := by decide +kernel
theorem dX10_rowsOf_15 : decode cX10_rowsOf 15 = .ok (.iload_n 0, 1) := by decide +kernel
theorem dX10_rowsOf_16 : decode cX10_rowsOf 16 = .ok (.iaload, 1) := by decide +kernel
theorem dX10_rowsOf_17 : decode cX10_rowsOf 17 = .ok (.goto 4, 3) := by decide +kernel
theorem dX10_rowsOf_20 : decode cX10_rowsOf 20 = .ok (.iconst 1, 1) := by decide +kernel
theorem dX10_rowsOf_21 : decode cX10_rowsOf 21 = .ok (.ireturn, 1) := by decide +kernel
theorem dX10_timeOf_0 : decode cX10_timeOf 0 = .ok (.iconst 0, 1) := by decide +kernel
theorem dX10_timeOf_1 : decode cX10_timeOf 1 = .ok (.istore_n 2, 1) := by decide +kernel
theorem dX10_timeOf_2 : decode cX10_timeOf 2 = .ok (.iconst 0, 1) := by decide +kernel
theorem dX10_timeOf_3 : decode cX10_timeOf 3 = .ok (.istore_n 3, 1) := by decide +kernel
theorem dX10_timeOf_4 : decode cX10_timeOf 4 = .ok (.iconst 0, 1) := by decide +kernel
theorem dX10_timeOf_5 : decode cX10_timeOf 5 = .ok (.istore 4, 2) := by decide +kernel
theorem dX10_timeOf_7 : decode cX10_timeOf 7 = .ok (.iload 4, 2) := by decide +kernel
theorem dX10_timeOf_9 : decode cX10_timeOf 9 = .ok (.aload_n 0, 1) := by decide +kernel
theorem dX10_timeOf_10 : decode cX10_timeOf 10 = .ok (.getfield 18, 3) := by decide +kernel
theorem dX10_timeOf_13 : decode cX10_timeOf 13 = .ok (.getfield 52, 3) := by decide +kernel
theorem dX10_timeOf_16 : decode cX10_timeOf 16 = .ok (.if_icmp .ge 92, 3) := by decide +kernel
theorem dX10_timeOf_19 : decode cX10_timeOf 19 = .ok (.aload_n 0, 1) := by decide +kernel
theorem dX10_timeOf_20 : decode cX10_timeOf 20 = .ok (.getfield 31, 3) := by decide +kernel
theorem dX10_timeOf_23 : decode cX10_timeOf 23 = .ok (.aload_n 1, 1) := by decide +kernel
theorem dX10_timeOf_24 : decode cX10_timeOf 24 = .ok (.getfield 115, 3) := by decide +kernel
theorem dX10_timeOf_27 : decode cX10_timeOf 27 = .ok (.iload 4, 2) := by decide +kernel
theorem dX10_timeOf_29 : decode cX10_timeOf 29 = .ok (.iaload, 1) := by decide +kernel
theorem dX10_timeOf_30 : decode cX10_timeOf 30 = .ok (.bipush 15, 2) := by decide +kernel
theorem dX10_timeOf_32 : decode cX10_timeOf 32 = .ok (.iand, 1) := by decide +kernel
theorem dX10_timeOf_33 : decode cX10_timeOf 33 = .ok (.iaload, 1) := by decide +kernel
theorem dX10_timeOf_34 : decode cX10_timeOf 34 = .ok (.istore 5, 2) := by decide +kernel
theorem dX10_timeOf_36 : decode cX10_timeOf 36 = .ok (.iload 5, 2) := by decide +kernel
theorem dX10_timeOf_38 : decode cX10_timeOf 38 = .ok (.aload_n 0, 1) := by decide +kernel
theorem dX10_timeOf_39 : decode cX10_timeOf 39 = .ok (.getfield 18, 3) := by decide +kernel
theorem dX10_timeOf_42 : decode cX10_timeOf 42 = .ok (.getfield 52, 3) := by decide +kernel
theorem dX10_timeOf_45 : decode cX10_timeOf 45 = .ok (.if_icmp .ge 18, 3) := by decide +kernel
theorem dX10_timeOf_48 : decode cX10_timeOf 48 = .ok (.iload_n 2, 1) := by decide +kernel
theorem dX10_timeOf_49 : decode cX10_timeOf 49 = .ok (.iload 5, 2) := by decide +kernel
theorem dX10_timeOf_51 : decode cX10_timeOf 51 = .ok (.ishr, 1) := by decide +kernel
theorem dX10_timeOf_52 : decode cX10_timeOf 52 = .ok (.iconst 1, 1) := by decide +kernel
theorem dX10_timeOf_53 : decode cX10_timeOf 53 = .ok (.iand, 1) := by decide +kernel
theorem dX10_timeOf_54 : decode cX10_timeOf 54 = .ok (.ifCond .eq 9, 3) := by decide +kernel
theorem dX10_timeOf_57 : decode cX10_timeOf 57 = .ok (.iinc 5 1, 3) := by decide +kernel
theorem dX10_timeOf_60 : decode cX10_timeOf 60 = .ok (.goto (-24), 3) := by decide +kernel
theorem dX10_timeOf_63 : decode cX10_timeOf 63 = .ok (.iload 5, 2) := by decide +kernel
theorem dX10_timeOf_65 : decode cX10_timeOf 65 = .ok (.iload_n 2, 1) := by decide +kernel
theorem dX10_timeOf_66 : decode cX10_timeOf 66 = .ok (.iconst 1, 1) := by decide +kernel
theorem dX10_timeOf_67 : decode cX10_timeOf 67 = .ok (.iload 5, 2) := by decide +kernel
theorem dX10_timeOf_69 : decode cX10_timeOf 69 = .ok (.ishl, 1) := by decide +kernel
theorem dX10_timeOf_70 : decode cX10_timeOf 70 = .ok (.iconst 1, 1) := by decide +kernel
theorem dX10_timeOf_71 : decode cX10_timeOf 71 = .ok (.isub, 1) := by decide +kernel
theorem dX10_timeOf_72 : decode cX10_timeOf 72 = .ok (.iand, 1) := by decide +kernel
theorem dX10_timeOf_73 : decode cX10_timeOf 73 = .ok (.invokestatic 124, 3) := by decide +kernel
theorem dX10_timeOf_76 : decode cX10_timeOf 76 = .ok (.isub, 1) := by decide +kernel
theorem dX10_timeOf_77 : decode cX10_timeOf 77 = .ok (.istore 6, 2) := by decide +kernel
theorem dX10_timeOf_79 : decode cX10_timeOf 79 = .ok (.iload_n 3, 1) := by decide +kernel
theorem dX10_timeOf_80 : decode cX10_timeOf 80 = .ok (.aload_n 0, 1) := by decide +kernel
theorem dX10_timeOf_81 : decode cX10_timeOf 81 = .ok (.getfield 18, 3) := by decide +kernel
theorem dX10_timeOf_84 : decode cX10_timeOf 84 = .ok (.getfield 52, 3) := by decide +kernel
theorem dX10_timeOf_87 : decode cX10_timeOf 87 = .ok (.iload 4, 2) := by decide +kernel
theorem dX10_timeOf_89 : decode cX10_timeOf 89 = .ok (.isub, 1) := by decide +kernel
theorem dX10_timeOf_90 : decode cX10_timeOf 90 = .ok (.imul, 1) := by decide +kernel
theorem dX10_timeOf_91 : decode cX10_timeOf 91 = .ok (.iload 6, 2) := by decide +kernel
theorem dX10_timeOf_93 : decode cX10_timeOf 93 = .ok (.iadd, 1) := by decide +kernel
theorem dX10_timeOf_94 : decode cX10_timeOf 94 = .ok (.istore_n 3, 1) := by decide +kernel
theorem dX10_timeOf_95 : decode cX10_timeOf 95 = .ok (.iload_n 2, 1) := by decide +kernel
theorem dX10_timeOf_96 : decode cX10_timeOf 96 = .ok (.iconst 1, 1) := by decide +kernel
theorem dX10_timeOf_97 : decode cX10_timeOf 97 = .ok (.iload 5, 2) := by decide +kernel
theorem dX10_timeOf_99 : decode cX10_timeOf 99 = .ok (.ishl, 1) := by decide +kernel
theorem dX10_timeOf_100 : decode cX10_timeOf 100 = .ok (.ior, 1) := by decide +kernel
theorem dX10_timeOf_101 : decode cX10_timeOf 101 = .ok (.istore_n 2, 1) := by decide +kernel
theorem dX10_timeOf_102 : decode cX10_timeOf 102 = .ok (.iinc 4 1, 3) := by decide +kernel
theorem dX10_timeOf_105 : decode cX10_timeOf 105 = .ok (.goto (-98), 3) := by decide +kernel
theorem dX10_timeOf_108 : decode cX10_timeOf 108 = .ok (.iload_n 3, 1) := by decide +kernel
theorem dX10_timeOf_109 : decode cX10_timeOf 109 = .ok (.aload_n 0, 1) := by decide +kernel
theorem dX10_timeOf_110 : decode cX10_timeOf 110 = .ok (.getfield 75, 3) := by decide +kernel
theorem dX10_timeOf_113 : decode cX10_timeOf 113 = .ok (.imul, 1) := by decide +kernel
theorem dX10_timeOf_114 : decode cX10_timeOf 114 = .ok (.aload_n 1, 1) := by decide +kernel
theorem dX10_timeOf_115 : decode cX10_timeOf 115 = .ok (.getfield 69, 3) := by decide +kernel
theorem dX10_timeOf_118 : decode cX10_timeOf 118 = .ok (.aload_n 0, 1) := by decide +kernel
theorem dX10_timeOf_119 : decode cX10_timeOf 119 = .ok (.getfield 75, 3) := by decide +kernel
theorem dX10_timeOf_122 : decode cX10_timeOf 122 = .ok (.iconst 1, 1) := by decide +kernel
theorem dX10_timeOf_123 : decode cX10_timeOf 123 = .ok (.isub, 1) := by decide +kernel
theorem dX10_timeOf_124 : decode cX10_timeOf 124 = .ok (.invokestatic 56, 3) := by decide +kernel
theorem dX10_timeOf_127 : decode cX10_timeOf 127 = .ok (.iadd, 1) := by decide +kernel
theorem dX10_timeOf_128 : decode cX10_timeOf 128 = .ok (.ireturn, 1) := by decide +kernel
theorem dX10_layOut_0 : decode cX10_layOut 0 = .ok (.iconst 0, 1) := by decide +kernel
theorem dX10_layOut_1 : decode cX10_layOut 1 = .ok (.istore_n 2, 1) := by decide +kernel
theorem dX10_layOut_2 : decode cX10_layOut 2 = .ok (.iload_n 1, 1) := by decide +kernel
theorem dX10_layOut_3 : decode cX10_layOut 3 = .ok (.aload_n 0, 1) := by decide +kernel
theorem dX10_layOut_4 : decode cX10_layOut 4 = .ok (.getfield 75, 3) := by decide +kernel
theorem dX10_layOut_7 : decode cX10_layOut 7 = .ok (.iconst 1, 1) := by decide +kernel
theorem dX10_layOut_8 : decode cX10_layOut 8 = .ok (.invokestatic 62, 3) := by decide +kernel
theorem dX10_layOut_11 : decode cX10_layOut 11 = .ok (.idiv, 1) := by decide +kernel
theorem dX10_layOut_12 : decode cX10_layOut 12 = .ok (.istore_n 3, 1) := by decide +kernel
theorem dX10_layOut_13 : decode cX10_layOut 13 = .ok (.aload_n 0, 1) := by decide +kernel
theorem dX10_layOut_14 : decode cX10_layOut 14 = .ok (.getfield 25, 3) := by decide +kernel
theorem dX10_layOut_17 : decode cX10_layOut 17 = .ok (.aload_n 0, 1) := by decide +kernel
theorem dX10_layOut_18 : decode cX10_layOut 18 = .ok (.getfield 18, 3) := by decide +kernel
theorem dX10_layOut_21 : decode cX10_layOut 21 = .ok (.invokevirtual 48, 3) := by decide +kernel
theorem dX10_layOut_24 : decode cX10_layOut 24 = .ok (.aload_n 0, 1) := by decide +kernel
theorem dX10_layOut_25 : decode cX10_layOut 25 = .ok (.getfield 25, 3) := by decide +kernel
theorem dX10_layOut_28 : decode cX10_layOut 28 = .ok (.iload_n 1, 1) := by decide +kernel
theorem dX10_layOut_29 : decode cX10_layOut 29 = .ok (.aload_n 0, 1) := by decide +kernel
theorem dX10_layOut_30 : decode cX10_layOut 30 = .ok (.getfield 75, 3) := by decide +kernel
theorem dX10_layOut_33 : decode cX10_layOut 33 = .ok (.iconst 1, 1) := by decide +kernel
theorem dX10_layOut_34 : decode cX10_layOut 34 = .ok (.invokestatic 62, 3) := by decide +kernel
theorem dX10_layOut_37 : decode cX10_layOut 37 = .ok (.irem, 1) := by decide +kernel
theorem dX10_layOut_38 : decode cX10_layOut 38 = .ok (.putfield 69, 3) := by decide +kernel
theorem dX10_layOut_41 : decode cX10_layOut 41 = .ok (.iconst 0, 1) := by decide +kernel
theorem dX10_layOut_42 : decode cX10_layOut 42 = .ok (.istore 4, 2) := by decide +kernel
theorem dX10_layOut_44 : decode cX10_layOut 44 = .ok (.iload 4, 2) := by decide +kernel
theorem dX10_layOut_46 : decode cX10_layOut 46 = .ok (.aload_n 0, 1) := by decide +kernel
theorem dX10_layOut_47 : decode cX10_layOut 47 = .ok (.getfield 18, 3) := by decide +kernel
theorem dX10_layOut_50 : decode cX10_layOut 50 = .ok (.getfield 52, 3) := by decide +kernel
theorem dX10_layOut_53 : decode cX10_layOut 53 = .ok (.if_icmp .ge 109, 3) := by decide +kernel
theorem dX10_layOut_56 : decode cX10_layOut 56 = .ok (.aload_n 0, 1) := by decide +kernel
theorem dX10_layOut_57 : decode cX10_layOut 57 = .ok (.getfield 18, 3) := by decide +kernel
theorem dX10_layOut_60 : decode cX10_layOut 60 = .ok (.getfield 52, 3) := by decide +kernel
theorem dX10_layOut_63 : decode cX10_layOut 63 = .ok (.iconst 1, 1) := by decide +kernel
theorem dX10_layOut_64 : decode cX10_layOut 64 = .ok (.isub, 1) := by decide +kernel
theorem dX10_layOut_65 : decode cX10_layOut 65 = .ok (.iload 4, 2) := by decide +kernel
theorem dX10_layOut_67 : decode cX10_layOut 67 = .ok (.isub, 1) := by decide +kernel
theorem dX10_layOut_68 : decode cX10_layOut 68 = .ok (.invokestatic 118, 3) := by decide +kernel
theorem dX10_layOut_71 : decode cX10_layOut 71 = .ok (.iconst 1, 1) := by decide +kernel
theorem dX10_layOut_72 : decode cX10_layOut 72 = .ok (.invokestatic 62, 3) := by decide +kernel
theorem dX10_layOut_75 : decode cX10_layOut 75 = .ok (.istore 5, 2) := by decide +kernel
theorem dX10_layOut_77 : decode cX10_layOut 77 = .ok (.iload_n 3, 1) := by decide +kernel
theorem dX10_layOut_78 : decode cX10_layOut 78 = .ok (.iload 5, 2) := by decide +kernel
theorem dX10_layOut_80 : decode cX10_layOut 80 = .ok (.idiv, 1) := by decide +kernel
theorem dX10_layOut_81 : decode cX10_layOut 81 = .ok (.istore 6, 2) := by decide +kernel
theorem dX10_layOut_83 : decode cX10_layOut 83 = .ok (.iload_n 3, 1) := by decide +kernel
theorem dX10_layOut_84 : decode cX10_layOut 84 = .ok (.iload 5, 2) := by decide +kernel
theorem dX10_layOut_86 : decode cX10_layOut 86 = .ok (.irem, 1) := by decide +kernel
theorem dX10_layOut_87 : decode cX10_layOut 87 = .ok (.istore_n 3, 1) := by decide +kernel
theorem dX10_layOut_88 : decode cX10_layOut 88 = .ok (.iconst 0, 1) := by decide +kernel
theorem dX10_layOut_89 : decode cX10_layOut 89 = .ok (.istore 7, 2) := by decide +kernel
theorem dX10_layOut_91 : decode cX10_layOut 91 = .ok (.iload 7, 2) := by decide +kernel
theorem dX10_layOut_93 : decode cX10_layOut 93 = .ok (.aload_n 0, 1) := by decide +kernel
theorem dX10_layOut_94 : decode cX10_layOut 94 = .ok (.getfield 18, 3) := by decide +kernel
theorem dX10_layOut_97 : decode cX10_layOut 97 = .ok (.getfield 52, 3) := by decide +kernel
theorem dX10_layOut_100 : decode cX10_layOut 100 = .ok (.if_icmp .ge 56, 3) := by decide +kernel
theorem dX10_layOut_103 : decode cX10_layOut 103 = .ok (.iload_n 2, 1) := by decide +kernel
theorem dX10_layOut_104 : decode cX10_layOut 104 = .ok (.iload 7, 2) := by decide +kernel
theorem dX10_layOut_106 : decode cX10_layOut 106 = .ok (.ishr, 1) := by decide +kernel
theorem dX10_layOut_107 : decode cX10_layOut 107 = .ok (.iconst 1, 1) := by decide +kernel
theorem dX10_layOut_108 : decode cX10_layOut 108 = .ok (.iand, 1) := by decide +kernel
theorem dX10_layOut_109 : decode cX10_layOut 109 = .ok (.ifCond .ne 41, 3) := by decide +kernel
theorem dX10_layOut_112 : decode cX10_layOut 112 = .ok (.iload 6, 2) := by decide +kernel
theorem dX10_layOut_114 : decode cX10_layOut 114 = .ok (.ifCond .ne 33, 3) := by decide +kernel
theorem dX10_layOut_117 : decode cX10_layOut 117 = .ok (.iload_n 2, 1) := by decide +kernel
theorem dX10_layOut_118 : decode cX10_layOut 118 = .ok (.iconst 1, 1) := by decide +kernel
theorem dX10_layOut_119 : decode cX10_layOut 119 = .ok (.iload 7, 2) := by decide +kernel
theorem dX10_layOut_121 : decode cX10_layOut 121 = .ok (.ishl, 1) := by decide +kernel
theorem dX10_layOut_122 : decode cX10_layOut 122 = .ok (.ior, 1) := by decide +kernel
theorem dX10_layOut_123 : decode cX10_layOut 123 = .ok (.istore_n 2, 1) := by decide +kernel
theorem dX10_layOut_124 : decode cX10_layOut 124 = .ok (.aload_n 0, 1) := by decide +kernel
theorem dX10_layOut_125 : decode cX10_layOut 125 = .ok (.getfield 25, 3) := by decide +kernel
theorem dX10_layOut_128 : decode cX10_layOut 128 = .ok (.getfield 115, 3) := by decide +kernel
theorem dX10_layOut_131 : decode cX10_layOut 131 = .ok (.iload 4, 2) := by decide +kernel
theorem dX10_layOut_133 : decode cX10_layOut 133 = .ok (.aload_n 0, 1) := by decide +kernel
theorem dX10_layOut_134 : decode cX10_layOut 134 = .ok (.getfield 18, 3) := by decide +kernel
theorem dX10_layOut_137 : decode cX10_layOut 137 = .ok (.getfield 115, 3) := by decide +kernel
theorem dX10_layOut_140 : decode cX10_layOut 140 = .ok (.iload 7, 2) := by decide +kernel
theorem dX10_layOut_142 : decode cX10_layOut 142 = .ok (.iaload, 1) := by decide +kernel
theorem dX10_layOut_143 : decode cX10_layOut 143 = .ok (.iastore, 1) := by decide +kernel
theorem dX10_layOut_144 : decode cX10_layOut 144 = .ok (.goto 12, 3) := by decide +kernel
theorem dX10_layOut_147 : decode cX10_layOut 147 = .ok (.iinc 6 (-1), 3) := by decide +kernel
theorem dX10_layOut_150 : decode cX10_layOut 150 = .ok (.iinc 7 1, 3) := by decide +kernel
theorem dX10_layOut_153 : decode cX10_layOut 153 = .ok (.goto (-62), 3) := by decide +kernel
theorem dX10_layOut_156 : decode cX10_layOut 156 = .ok (.iinc 4 1, 3) := by decide +kernel
theorem dX10_layOut_159 : decode cX10_layOut 159 = .ok (.goto (-115), 3) := by decide +kernel
theorem dX10_layOut_162 : decode cX10_layOut 162 = .ok (.return_, 1) := by decide +kernel
theorem dX10_cardOf_0 : decode cX10_cardOf 0 = .ok (.aload_n 0, 1) := by decide +kernel
theorem dX10_cardOf_1 : decode cX10_cardOf 1 = .ok (.iload_n 1, 1) := by decide +kernel
theorem dX10_cardOf_2 : decode cX10_cardOf 2 = .ok (.aload_n 0, 1) := by decide +kernel
theorem dX10_cardOf_3 : decode cX10_cardOf 3 = .ok (.getfield 75, 3) := by decide +kernel
theorem dX10_cardOf_6 : decode cX10_cardOf 6 = .ok (.imul, 1) := by decide +kernel
theorem dX10_cardOf_7 : decode cX10_cardOf 7 = .ok (.invokevirtual 129, 3) := by decide +kernel
theorem dX10_cardOf_10 : decode cX10_cardOf 10 = .ok (.aload_n 0, 1) := by decide +kernel
theorem dX10_cardOf_11 : decode cX10_cardOf 11 = .ok (.getfield 25, 3) := by decide +kernel
theorem dX10_cardOf_14 : decode cX10_cardOf 14 = .ok (.iload_n 2, 1) := by decide +kernel
theorem dX10_cardOf_15 : decode cX10_cardOf 15 = .ok (.invokevirtual 105, 3) := by decide +kernel
theorem dX10_cardOf_18 : decode cX10_cardOf 18 = .ok (.ireturn, 1) := by decide +kernel
theorem dX10_topOf_0 : decode cX10_topOf 0 = .ok (.iload_n 1, 1) := by decide +kernel
theorem dX10_topOf_1 : decode cX10_topOf 1 = .ok (.aload_n 0, 1) := by decide +kernel
theorem dX10_topOf_2 : decode cX10_topOf 2 = .ok (.getfield 75, 3) := by decide +kernel
theorem dX10_topOf_5 : decode cX10_topOf 5 = .ok (.iconst 1, 1) := by decide +kernel
theorem dX10_topOf_6 : decode cX10_topOf 6 = .ok (.invokestatic 62, 3) := by decide +kernel
theorem dX10_topOf_9 : decode cX10_topOf 9 = .ok (.idiv, 1) := by decide +kernel
theorem dX10_topOf_10 : decode cX10_topOf 10 = .ok (.istore_n 2, 1) := by decide +kernel
theorem dX10_topOf_11 : decode cX10_topOf 11 = .ok (.aload_n 0, 1) := by decide +kernel
theorem dX10_topOf_12 : decode cX10_topOf 12 = .ok (.getfield 18, 3) := by decide +kernel
theorem dX10_topOf_15 : decode cX10_topOf 15 = .ok (.iload_n 2, 1) := by decide +kernel
theorem dX10_topOf_16 : decode cX10_topOf 16 = .ok (.aload_n 0, 1) := by decide +kernel
theorem dX10_topOf_17 : decode cX10_topOf 17 = .ok (.getfield 18, 3) := by decide +kernel
theorem dX10_topOf_20 : decode cX10_topOf 20 = .ok (.getfield 52, 3) := by decide +kernel
theorem dX10_topOf_23 : decode cX10_topOf 23 = .ok (.iconst 1, 1) := by decide +kernel
theorem dX10_topOf_24 : decode cX10_topOf 24 = .ok (.isub, 1) := by decide +kernel
theorem dX10_topOf_25 : decode cX10_topOf 25 = .ok (.invokestatic 118, 3) := by decide +kernel
theorem dX10_topOf_28 : decode cX10_topOf 28 = .ok (.iconst 1, 1) := by decide +kernel
theorem dX10_topOf_29 : decode cX10_topOf 29 = .ok (.invokestatic 62, 3) := by decide +kernel
theorem dX10_topOf_32 : decode cX10_topOf 32 = .ok (.idiv, 1) := by decide +kernel
theorem dX10_topOf_33 : decode cX10_topOf 33 = .ok (.invokevirtual 105, 3) := by decide +kernel
theorem dX10_topOf_36 : decode cX10_topOf 36 = .ok (.ireturn, 1) := by decide +kernel
theorem dX10_follow_0 : decode cX10_follow 0 = .ok (.iload_n 1, 1) := by decide +kernel
theorem dX10_follow_1 : decode cX10_follow 1 = .ok (.ifCond .lt 12, 3) := by decide +kernel
theorem dX10_follow_4 : decode cX10_follow 4 = .ok (.iload_n 1, 1) := by decide +kernel
theorem dX10_follow_5 : decode cX10_follow 5 = .ok (.aload_n 0, 1) := by decide +kernel
theorem dX10_follow_6 : decode cX10_follow 6 = .ok (.getfield 34, 3) := by decide +kernel
theorem dX10_follow_9 : decode cX10_follow 9 = .ok (.arraylength, 1) := by decide +kernel
theorem dX10_follow_10 : decode cX10_follow 10 = .ok (.if_icmp .lt 6, 3) := by decide +kernel
theorem dX10_follow_13 : decode cX10_follow 13 = .ok (.bipush (-2), 2) := by decide +kernel
theorem dX10_follow_15 : decode cX10_follow 15 = .ok (.ireturn, 1) := by decide +kernel
theorem dX10_follow_16 : decode cX10_follow 16 = .ok (.aload_n 0, 1) := by decide +kernel
theorem dX10_follow_17 : decode cX10_follow 17 = .ok (.getfield 34, 3) := by decide +kernel
theorem dX10_follow_20 : decode cX10_follow 20 = .ok (.iload_n 1, 1) := by decide +kernel
theorem dX10_follow_21 : decode cX10_follow 21 = .ok (.iaload, 1) := by decide +kernel
theorem dX10_follow_22 : decode cX10_follow 22 = .ok (.ifCond .ne 71, 3) := by decide +kernel
theorem dX10_follow_25 : decode cX10_follow 25 = .ok (.aload_n 0, 1) := by decide +kernel
theorem dX10_follow_26 : decode cX10_follow 26 = .ok (.iload_n 1, 1) := by decide +kernel
theorem dX10_follow_27 : decode cX10_follow 27 = .ok (.invokevirtual 129, 3) := by decide +kernel
theorem dX10_follow_30 : decode cX10_follow 30 = .ok (.aload_n 0, 1) := by decide +kernel
theorem dX10_follow_31 : decode cX10_follow 31 = .ok (.getfield 44, 3) := by decide +kernel
theorem dX10_follow_34 : decode cX10_follow 34 = .ok (.aload_n 0, 1) := by decide +kernel
theorem dX10_follow_35 : decode cX10_follow 35 = .ok (.getfield 25, 3) := by decide +kernel
theorem dX10_follow_38 : decode cX10_follow 38 = .ok (.invokevirtual 132, 3) := by decide +kernel
theorem dX10_follow_41 : decode cX10_follow 41 = .ok (.istore_n 2, 1) := by decide +kernel
theorem dX10_follow_42 : decode cX10_follow 42 = .ok (.iload_n 2, 1) := by decide +kernel
theorem dX10_follow_43 : decode cX10_follow 43 = .ok (.iconst 3, 1) := by decide +kernel
theorem dX10_follow_44 : decode cX10_follow 44 = .ok (.if_icmp .ne 33, 3) := by decide +kernel
theorem dX10_follow_47 : decode cX10_follow 47 = .ok (.aload_n 0, 1) := by decide +kernel
theorem dX10_follow_48 : decode cX10_follow 48 = .ok (.getfield 44, 3) := by decide +kernel
theorem dX10_follow_51 : decode cX10_follow 51 = .ok (.aload_n 0, 1) := by decide +kernel
theorem dX10_follow_52 : decode cX10_follow 52 = .ok (.getfield 25, 3) := by decide +kernel
theorem dX10_follow_55 : decode cX10_follow 55 = .ok (.invokevirtual 138, 3) := by decide +kernel
theorem dX10_follow_58 : decode cX10_follow 58 = .ok (.aload_n 0, 1) := by decide +kernel
theorem dX10_follow_59 : decode cX10_follow 59 = .ok (.getfield 34, 3) := by decide +kernel
theorem dX10_follow_62 : decode cX10_follow 62 = .ok (.iload_n 1, 1) := by decide +kernel
theorem dX10_follow_63 : decode cX10_follow 63 = .ok (.aload_n 0, 1) := by decide +kernel
theorem dX10_follow_64 : decode cX10_follow 64 = .ok (.aload_n 0, 1) := by decide +kernel
theorem dX10_follow_65 : decode cX10_follow 65 = .ok (.getfield 25, 3) := by decide +kernel
theorem dX10_follow_68 : decode cX10_follow 68 = .ok (.invokevirtual 141, 3) := by decide +kernel
theorem dX10_follow_71 : decode cX10_follow 71 = .ok (.iconst 1, 1) := by decide +kernel
theorem dX10_follow_72 : decode cX10_follow 72 = .ok (.iadd, 1) := by decide +kernel
theorem dX10_follow_73 : decode cX10_follow 73 = .ok (.iastore, 1) := by decide +kernel
theorem dX10_follow_74 : decode cX10_follow 74 = .ok (.goto 19, 3) := by decide +kernel
theorem dX10_follow_77 : decode cX10_follow 77 = .ok (.aload_n 0, 1) := by decide +kernel
theorem dX10_follow_78 : decode cX10_follow 78 = .ok (.getfield 34, 3) := by decide +kernel
theorem dX10_follow_81 : decode cX10_follow 81 = .ok (.iload_n 1, 1) := by decide +kernel
theorem dX10_follow_82 : decode cX10_follow 82 = .ok (.iload_n 2, 1) := by decide +kernel
theorem dX10_follow_83 : decode cX10_follow 83 = .ok (.ifCond .ne 7, 3) := by decide +kernel
theorem dX10_follow_86 : decode cX10_follow 86 = .ok (.iconst (-1), 1) := by decide +kernel
theorem dX10_follow_87 : decode cX10_follow 87 = .ok (.goto 5, 3) := by decide +kernel
theorem dX10_follow_90 : decode cX10_follow 90 = .ok (.bipush (-2), 2) := by decide +kernel
theorem dX10_follow_92 : decode cX10_follow 92 = .ok (.iastore, 1) := by decide +kernel
theorem dX10_follow_93 : decode cX10_follow 93 = .ok (.aload_n 0, 1) := by decide +kernel
theorem dX10_follow_94 : decode cX10_follow 94 = .ok (.getfield 34, 3) := by decide +kernel
theorem dX10_follow_97 : decode cX10_follow 97 = .ok (.iload_n 1, 1) := by decide +kernel
theorem dX10_follow_98 : decode cX10_follow 98 = .ok (.iaload, 1) := by decide +kernel
theorem dX10_follow_99 : decode cX10_follow 99 = .ok (.ifCond .le 14, 3) := by decide +kernel
theorem dX10_follow_102 : decode cX10_follow 102 = .ok (.aload_n 0, 1) := by decide +kernel
theorem dX10_follow_103 : decode cX10_follow 103 = .ok (.getfield 34, 3) := by decide +kernel
theorem dX10_follow_106 : decode cX10_follow 106 = .ok (.iload_n 1, 1) := by decide +kernel
theorem dX10_follow_107 : decode cX10_follow 107 = .ok (.iaload, 1) := by decide +kernel
theorem dX10_follow_108 : decode cX10_follow 108 = .ok (.iconst 1, 1) := by decide +kernel
theorem dX10_follow_109 : decode cX10_follow 109 = .ok (.isub, 1) := by decide +kernel
theorem dX10_follow_110 : decode cX10_follow 110 = .ok (.goto 9, 3) := by decide +kernel
theorem dX10_follow_113 : decode cX10_follow 113 = .ok (.aload_n 0, 1) := by decide +kernel
theorem dX10_follow_114 : decode cX10_follow 114 = .ok (.getfield 34, 3) := by decide +kernel
theorem dX10_follow_117 : decode cX10_follow 117 = .ok (.iload_n 1, 1) := by decide +kernel
theorem dX10_follow_118 : decode cX10_follow 118 = .ok (.iaload, 1) := by decide +kernel
theorem dX10_follow_119 : decode cX10_follow 119 = .ok (.ireturn, 1) := by decide +kernel
theorem dX10_fateOf_0 : decode cX10_fateOf 0 = .ok (.aload_n 0, 1) := by decide +kernel
theorem dX10_fateOf_1 : decode cX10_fateOf 1 = .ok (.aload_n 1, 1) := by decide +kernel
theorem dX10_fateOf_2 : decode cX10_fateOf 2 = .ok (.invokevirtual 141, 3) := by decide +kernel
theorem dX10_fateOf_5 : decode cX10_fateOf 5 = .ok (.istore_n 2, 1) := by decide +kernel
theorem dX10_fateOf_6 : decode cX10_fateOf 6 = .ok (.iload_n 2, 1) := by decide +kernel
theorem dX10_fateOf_7 : decode cX10_fateOf 7 = .ok (.ifCond .lt 12, 3) := by decide +kernel
theorem dX10_fateOf_10 : decode cX10_fateOf 10 = .ok (.iload_n 2, 1) := by decide +kernel
theorem dX10_fateOf_11 : decode cX10_fateOf 11 = .ok (.aload_n 0, 1) := by decide +kernel
theorem dX10_fateOf_12 : decode cX10_fateOf 12 = .ok (.getfield 37, 3) := by decide +kernel
theorem dX10_fateOf_15 : decode cX10_fateOf 15 = .ok (.arraylength, 1) := by decide +kernel
theorem dX10_fateOf_16 : decode cX10_fateOf 16 = .ok (.if_icmp .lt 6, 3) := by decide +kernel
theorem dX10_fateOf_19 : decode cX10_fateOf 19 = .ok (.bipush (-2), 2) := by decide +kernel
theorem dX10_fateOf_21 : decode cX10_fateOf 21 = .ok (.ireturn, 1) := by decide +kernel
theorem dX10_fateOf_22 : decode cX10_fateOf 22 = .ok (.aload_n 0, 1) := by decide +kernel
theorem dX10_fateOf_23 : decode cX10_fateOf 23 = .ok (.getfield 37, 3) := by decide +kernel
theorem dX10_fateOf_26 : decode cX10_fateOf 26 = .ok (.iload_n 2, 1) := by decide +kernel
theorem dX10_fateOf_27 : decode cX10_fateOf 27 = .ok (.iaload, 1) := by decide +kernel
theorem dX10_fateOf_28 : decode cX10_fateOf 28 = .ok (.ifCond .eq 10, 3) := by decide +kernel
theorem dX10_fateOf_31 : decode cX10_fateOf 31 = .ok (.aload_n 0, 1) := by decide +kernel
theorem dX10_fateOf_32 : decode cX10_fateOf 32 = .ok (.getfield 37, 3) := by decide +kernel
theorem dX10_fateOf_35 : decode cX10_fateOf 35 = .ok (.iload_n 2, 1) := by decide +kernel
theorem dX10_fateOf_36 : decode cX10_fateOf 36 = .ok (.iaload, 1) := by decide +kernel
theorem dX10_fateOf_37 : decode cX10_fateOf 37 = .ok (.ireturn, 1) := by decide +kernel
theorem dX10_fateOf_38 : decode cX10_fateOf 38 = .ok (.aload_n 0, 1) := by decide +kernel
theorem dX10_fateOf_39 : decode cX10_fateOf 39 = .ok (.getfield 25, 3) := by decide +kernel
theorem dX10_fateOf_42 : decode cX10_fateOf 42 = .ok (.aload_n 1, 1) := by decide +kernel
theorem dX10_fateOf_43 : decode cX10_fateOf 43 = .ok (.invokevirtual 48, 3) := by decide +kernel
theorem dX10_fateOf_46 : decode cX10_fateOf 46 = .ok (.iload_n 2, 1) := by decide +kernel
theorem dX10_fateOf_47 : decode cX10_fateOf 47 = .ok (.istore_n 3, 1) := by decide +kernel
theorem dX10_fateOf_48 : decode cX10_fateOf 48 = .ok (.iconst 0, 1) := by decide +kernel
theorem dX10_fateOf_49 : decode cX10_fateOf 49 = .ok (.istore 4, 2) := by decide +kernel
theorem dX10_fateOf_51 : decode cX10_fateOf 51 = .ok (.iconst 0, 1) := by decide +kernel
theorem dX10_fateOf_52 : decode cX10_fateOf 52 = .ok (.istore 5, 2) := by decide +kernel
theorem dX10_fateOf_54 : decode cX10_fateOf 54 = .ok (.iload 5, 2) := by decide +kernel
theorem dX10_fateOf_56 : decode cX10_fateOf 56 = .ok (.aload_n 0, 1) := by decide +kernel
theorem dX10_fateOf_57 : decode cX10_fateOf 57 = .ok (.getfield 37, 3) := by decide +kernel
theorem dX10_fateOf_60 : decode cX10_fateOf 60 = .ok (.arraylength, 1) := by decide +kernel
theorem dX10_fateOf_61 : decode cX10_fateOf 61 = .ok (.if_icmp .gt 136, 3) := by decide +kernel
theorem dX10_fateOf_64 : decode cX10_fateOf 64 = .ok (.iload_n 3, 1) := by decide +kernel
theorem dX10_fateOf_65 : decode cX10_fateOf 65 = .ok (.ifCond .lt 132, 3) := by decide +kernel
theorem dX10_fateOf_68 : decode cX10_fateOf 68 = .ok (.iload_n 3, 1) := by decide +kernel
theorem dX10_fateOf_69 : decode cX10_fateOf 69 = .ok (.aload_n 0, 1) := by decide +kernel
theorem dX10_fateOf_70 : decode cX10_fateOf 70 = .ok (.getfield 37, 3) := by decide +kernel
theorem dX10_fateOf_73 : decode cX10_fateOf 73 = .ok (.arraylength, 1) := by decide +kernel
theorem dX10_fateOf_74 : decode cX10_fateOf 74 = .ok (.if_icmp .ge 123, 3) := by decide +kernel
theorem dX10_fateOf_77 : decode cX10_fateOf 77 = .ok (.aload_n 0, 1) := by decide +kernel
theorem dX10_fateOf_78 : decode cX10_fateOf 78 = .ok (.getfield 37, 3) := by decide +kernel
theorem dX10_fateOf_81 : decode cX10_fateOf 81 = .ok (.iload_n 3, 1) := by decide +kernel
theorem dX10_fateOf_82 : decode cX10_fateOf 82 = .ok (.iaload, 1) := by decide +kernel
theorem dX10_fateOf_83 : decode cX10_fateOf 83 = .ok (.ifCond .ne 114, 3) := by decide +kernel
theorem dX10_fateOf_86 : decode cX10_fateOf 86 = .ok (.aload_n 0, 1) := by decide +kernel
theorem dX10_fateOf_87 : decode cX10_fateOf 87 = .ok (.getfield 44, 3) := by decide +kernel
theorem dX10_fateOf_90 : decode cX10_fateOf 90 = .ok (.aload_n 0, 1) := by decide +kernel
theorem dX10_fateOf_91 : decode cX10_fateOf 91 = .ok (.getfield 25, 3) := by decide +kernel
theorem dX10_fateOf_94 : decode cX10_fateOf 94 = .ok (.invokevirtual 132, 3) := by decide +kernel
theorem dX10_fateOf_97 : decode cX10_fateOf 97 = .ok (.istore 6, 2) := by decide +kernel
theorem dX10_fateOf_99 : decode cX10_fateOf 99 = .ok (.iload 6, 2) := by decide +kernel
theorem dX10_fateOf_101 : decode cX10_fateOf 101 = .ok (.iconst 3, 1) := by decide +kernel
theorem dX10_fateOf_102 : decode cX10_fateOf 102 = .ok (.if_icmp .ne 52, 3) := by decide +kernel
theorem dX10_fateOf_105 : decode cX10_fateOf 105 = .ok (.aload_n 0, 1) := by decide +kernel
theorem dX10_fateOf_106 : decode cX10_fateOf 106 = .ok (.getfield 44, 3) := by decide +kernel
theorem dX10_fateOf_109 : decode cX10_fateOf 109 = .ok (.aload_n 0, 1) := by decide +kernel
theorem dX10_fateOf_110 : decode cX10_fateOf 110 = .ok (.getfield 25, 3) := by decide +kernel
theorem dX10_fateOf_113 : decode cX10_fateOf 113 = .ok (.invokevirtual 138, 3) := by decide +kernel
theorem dX10_fateOf_116 : decode cX10_fateOf 116 = .ok (.aload_n 0, 1) := by decide +kernel
theorem dX10_fateOf_117 : decode cX10_fateOf 117 = .ok (.getfield 37, 3) := by decide +kernel
theorem dX10_fateOf_120 : decode cX10_fateOf 120 = .ok (.iload_n 3, 1) := by decide +kernel
theorem dX10_fateOf_121 : decode cX10_fateOf 121 = .ok (.iconst (-1), 1) := by decide +kernel
theorem dX10_fateOf_122 : decode cX10_fateOf 122 = .ok (.iastore, 1) := by decide +kernel
theorem dX10_fateOf_123 : decode cX10_fateOf 123 = .ok (.aload_n 0, 1) := by decide +kernel
theorem dX10_fateOf_124 : decode cX10_fateOf 124 = .ok (.getfield 34, 3) := by decide +kernel
theorem dX10_fateOf_127 : decode cX10_fateOf 127 = .ok (.iload_n 3, 1) := by decide +kernel
theorem dX10_fateOf_128 : decode cX10_fateOf 128 = .ok (.aload_n 0, 1) := by decide +kernel
theorem dX10_fateOf_129 : decode cX10_fateOf 129 = .ok (.aload_n 0, 1) := by decide +kernel
theorem dX10_fateOf_130 : decode cX10_fateOf 130 = .ok (.getfield 25, 3) := by decide +kernel
theorem dX10_fateOf_133 : decode cX10_fateOf 133 = .ok (.invokevirtual 141, 3) := by decide +kernel
theorem dX10_fateOf_136 : decode cX10_fateOf 136 = .ok (.iconst 1, 1) := by decide +kernel
theorem dX10_fateOf_137 : decode cX10_fateOf 137 = .ok (.iadd, 1) := by decide +kernel
theorem dX10_fateOf_138 : decode cX10_fateOf 138 = .ok (.iastore, 1) := by decide +kernel
theorem dX10_fateOf_139 : decode cX10_fateOf 139 = .ok (.aload_n 0, 1) := by decide +kernel
theorem dX10_fateOf_140 : decode cX10_fateOf 140 = .ok (.getfield 34, 3) := by decide +kernel
theorem dX10_fateOf_143 : decode cX10_fateOf 143 = .ok (.iload_n 3, 1) := by decide +kernel
theorem dX10_fateOf_144 : decode cX10_fateOf 144 = .ok (.iaload, 1) := by decide +kernel
theorem dX10_fateOf_145 : decode cX10_fateOf 145 = .ok (.iconst 1, 1) := by decide +kernel
theorem dX10_fateOf_146 : decode cX10_fateOf 146 = .ok (.isub, 1) := by decide +kernel
theorem dX10_fateOf_147 : decode cX10_fateOf 147 = .ok (.istore_n 3, 1) := by decide +kernel
theorem dX10_fateOf_148 : decode cX10_fateOf 148 = .ok (.iinc 4 1, 3) := by decide +kernel
theorem dX10_fateOf_151 : decode cX10_fateOf 151 = .ok (.goto 40, 3) := by decide +kernel
theorem dX10_fateOf_154 : decode cX10_fateOf 154 = .ok (.iload 6, 2) := by decide +kernel
theorem dX10_fateOf_156 : decode cX10_fateOf 156 = .ok (.iconst 1, 1) := by decide +kernel
theorem dX10_fateOf_157 : decode cX10_fateOf 157 = .ok (.if_icmp .ne 13, 3) := by decide +kernel
theorem dX10_fateOf_160 : decode cX10_fateOf 160 = .ok (.aload_n 0, 1) := by decide +kernel
theorem dX10_fateOf_161 : decode cX10_fateOf 161 = .ok (.getfield 37, 3) := by decide +kernel
theorem dX10_fateOf_164 : decode cX10_fateOf 164 = .ok (.iload_n 3, 1) := by decide +kernel
theorem dX10_fateOf_165 : decode cX10_fateOf 165 = .ok (.iconst 3, 1) := by decide +kernel
theorem dX10_fateOf_166 : decode cX10_fateOf 166 = .ok (.iastore, 1) := by decide +kernel
theorem dX10_fateOf_167 : decode cX10_fateOf 167 = .ok (.goto 24, 3) := by decide +kernel
theorem dX10_fateOf_170 : decode cX10_fateOf 170 = .ok (.aload_n 0, 1) := by decide +kernel
theorem dX10_fateOf_171 : decode cX10_fateOf 171 = .ok (.getfield 37, 3) := by decide +kernel
theorem dX10_fateOf_174 : decode cX10_fateOf 174 = .ok (.iload_n 3, 1) := by decide +kernel
theorem dX10_fateOf_175 : decode cX10_fateOf 175 = .ok (.aload_n 0, 1) := by decide +kernel
theorem dX10_fateOf_176 : decode cX10_fateOf 176 = .ok (.getfield 25, 3) := by decide +kernel
theorem dX10_fateOf_179 : decode cX10_fateOf 179 = .ok (.invokevirtual 144, 3) := by decide +kernel
theorem dX10_fateOf_182 : decode cX10_fateOf 182 = .ok (.ifCond .eq 7, 3) := by decide +kernel
theorem dX10_fateOf_185 : decode cX10_fateOf 185 = .ok (.iconst 2, 1) := by decide +kernel
theorem dX10_fateOf_186 : decode cX10_fateOf 186 = .ok (.goto 4, 3) := by decide +kernel
theorem dX10_fateOf_189 : decode cX10_fateOf 189 = .ok (.iconst 1, 1) := by decide +kernel
theorem dX10_fateOf_190 : decode cX10_fateOf 190 = .ok (.iastore, 1) := by decide +kernel
theorem dX10_fateOf_191 : decode cX10_fateOf 191 = .ok (.iinc 5 1, 3) := by decide +kernel
theorem dX10_fateOf_194 : decode cX10_fateOf 194 = .ok (.goto (-140), 3) := by decide +kernel
theorem dX10_fateOf_197 : decode cX10_fateOf 197 = .ok (.iload_n 3, 1) := by decide +kernel
theorem dX10_fateOf_198 : decode cX10_fateOf 198 = .ok (.ifCond .lt 21, 3) := by decide +kernel
theorem dX10_fateOf_201 : decode cX10_fateOf 201 = .ok (.iload_n 3, 1) := by decide +kernel
theorem dX10_fateOf_202 : decode cX10_fateOf 202 = .ok (.aload_n 0, 1) := by decide +kernel
theorem dX10_fateOf_203 : decode cX10_fateOf 203 = .ok (.getfield 37, 3) := by decide +kernel
theorem dX10_fateOf_206 : decode cX10_fateOf 206 = .ok (.arraylength, 1) := by decide +kernel
theorem dX10_fateOf_207 : decode cX10_fateOf 207 = .ok (.if_icmp .ge 12, 3) := by decide +kernel
theorem dX10_fateOf_210 : decode cX10_fateOf 210 = .ok (.aload_n 0, 1) := by decide +kernel
theorem dX10_fateOf_211 : decode cX10_fateOf 211 = .ok (.getfield 37, 3) := by decide +kernel
theorem dX10_fateOf_214 : decode cX10_fateOf 214 = .ok (.iload_n 3, 1) := by decide +kernel
theorem dX10_fateOf_215 : decode cX10_fateOf 215 = .ok (.iaload, 1) := by decide +kernel
theorem dX10_fateOf_216 : decode cX10_fateOf 216 = .ok (.goto 5, 3) := by decide +kernel
theorem dX10_fateOf_219 : decode cX10_fateOf 219 = .ok (.bipush (-2), 2) := by decide +kernel
theorem dX10_fateOf_221 : decode cX10_fateOf 221 = .ok (.istore 5, 2) := by decide +kernel
theorem dX10_fateOf_223 : decode cX10_fateOf 223 = .ok (.aload_n 0, 1) := by decide +kernel
theorem dX10_fateOf_224 : decode cX10_fateOf 224 = .ok (.iload_n 2, 1) := by decide +kernel
theorem dX10_fateOf_225 : decode cX10_fateOf 225 = .ok (.iload 4, 2) := by decide +kernel
theorem dX10_fateOf_227 : decode cX10_fateOf 227 = .ok (.iload 5, 2) := by decide +kernel
theorem dX10_fateOf_229 : decode cX10_fateOf 229 = .ok (.ifCond .le 8, 3) := by decide +kernel
theorem dX10_fateOf_232 : decode cX10_fateOf 232 = .ok (.iload 5, 2) := by decide +kernel
theorem dX10_fateOf_234 : decode cX10_fateOf 234 = .ok (.goto 5, 3) := by decide +kernel
theorem dX10_fateOf_237 : decode cX10_fateOf 237 = .ok (.bipush (-2), 2) := by decide +kernel
theorem dX10_fateOf_239 : decode cX10_fateOf 239 = .ok (.invokevirtual 148, 3) := by decide +kernel
theorem dX10_fateOf_242 : decode cX10_fateOf 242 = .ok (.aload_n 0, 1) := by decide +kernel
theorem dX10_fateOf_243 : decode cX10_fateOf 243 = .ok (.getfield 37, 3) := by decide +kernel
theorem dX10_fateOf_246 : decode cX10_fateOf 246 = .ok (.iload_n 2, 1) := by decide +kernel
theorem dX10_fateOf_247 : decode cX10_fateOf 247 = .ok (.iaload, 1) := by decide +kernel
theorem dX10_fateOf_248 : decode cX10_fateOf 248 = .ok (.ireturn, 1) := by decide +kernel
theorem dX10_writeDown_0 : decode cX10_writeDown 0 = .ok (.iload_n 1, 1) := by decide +kernel
theorem dX10_writeDown_1 : decode cX10_writeDown 1 = .ok (.istore 4, 2) := by decide +kernel
theorem dX10_writeDown_3 : decode cX10_writeDown 3 = .ok (.iload_n 2, 1) := by decide +kernel
theorem dX10_writeDown_4 : decode cX10_writeDown 4 = .ok (.istore 5, 2) := by decide +kernel
theorem dX10_writeDown_6 : decode cX10_writeDown 6 = .ok (.iload 5, 2) := by decide +kernel
theorem dX10_writeDown_8 : decode cX10_writeDown 8 = .ok (.ifCond .le 57, 3) := by decide +kernel
theorem dX10_writeDown_11 : decode cX10_writeDown 11 = .ok (.iload 4, 2) := by decide +kernel
theorem dX10_writeDown_13 : decode cX10_writeDown 13 = .ok (.ifCond .lt 52, 3) := by decide +kernel
theorem dX10_writeDown_16 : decode cX10_writeDown 16 = .ok (.iload 4, 2) := by decide +kernel
theorem dX10_writeDown_18 : decode cX10_writeDown 18 = .ok (.aload_n 0, 1) := by decide +kernel
theorem dX10_writeDown_19 : decode cX10_writeDown 19 = .ok (.getfield 37, 3) := by decide +kernel
theorem dX10_writeDown_22 : decode cX10_writeDown 22 = .ok (.arraylength, 1) := by decide +kernel
theorem dX10_writeDown_23 : decode cX10_writeDown 23 = .ok (.if_icmp .ge 42, 3) := by decide +kernel
theorem dX10_writeDown_26 : decode cX10_writeDown 26 = .ok (.aload_n 0, 1) := by decide +kernel
theorem dX10_writeDown_27 : decode cX10_writeDown 27 = .ok (.getfield 37, 3) := by decide +kernel
theorem dX10_writeDown_30 : decode cX10_writeDown 30 = .ok (.iload 4, 2) := by decide +kernel
theorem dX10_writeDown_32 : decode cX10_writeDown 32 = .ok (.iload_n 3, 1) := by decide +kernel
theorem dX10_writeDown_33 : decode cX10_writeDown 33 = .ok (.ifCond .le 12, 3) := by decide +kernel
theorem dX10_writeDown_36 : decode cX10_writeDown 36 = .ok (.iload_n 3, 1) := by decide +kernel
theorem dX10_writeDown_37 : decode cX10_writeDown 37 = .ok (.iload 5, 2) := by decide +kernel
theorem dX10_writeDown_39 : decode cX10_writeDown 39 = .ok (.iconst 4, 1) := by decide +kernel
theorem dX10_writeDown_40 : decode cX10_writeDown 40 = .ok (.imul, 1) := by decide +kernel
theorem dX10_writeDown_41 : decode cX10_writeDown 41 = .ok (.iadd, 1) := by decide +kernel
theorem dX10_writeDown_42 : decode cX10_writeDown 42 = .ok (.goto 5, 3) := by decide +kernel
theorem dX10_writeDown_45 : decode cX10_writeDown 45 = .ok (.bipush (-2), 2) := by decide +kernel
theorem dX10_writeDown_47 : decode cX10_writeDown 47 = .ok (.iastore, 1) := by decide +kernel
theorem dX10_writeDown_48 : decode cX10_writeDown 48 = .ok (.aload_n 0, 1) := by decide +kernel
theorem dX10_writeDown_49 : decode cX10_writeDown 49 = .ok (.getfield 34, 3) := by decide +kernel
theorem dX10_writeDown_52 : decode cX10_writeDown 52 = .ok (.iload 4, 2) := by decide +kernel
theorem dX10_writeDown_54 : decode cX10_writeDown 54 = .ok (.iaload, 1) := by decide +kernel
theorem dX10_writeDown_55 : decode cX10_writeDown 55 = .ok (.iconst 1, 1) := by decide +kernel
theorem dX10_writeDown_56 : decode cX10_writeDown 56 = .ok (.isub, 1) := by decide +kernel
theorem dX10_writeDown_57 : decode cX10_writeDown 57 = .ok (.istore 4, 2) := by decide +kernel
theorem dX10_writeDown_59 : decode cX10_writeDown 59 = .ok (.iinc 5 (-1), 3) := by decide +kernel
theorem dX10_writeDown_62 : decode cX10_writeDown 62 = .ok (.goto (-56), 3) := by decide +kernel
theorem dX10_writeDown_65 : decode cX10_writeDown 65 = .ok (.return_, 1) := by decide +kernel
theorem dX10_survey_0 : decode cX10_survey 0 = .ok (.aload_n 0, 1) := by decide +kernel
theorem dX10_survey_1 : decode cX10_survey 1 = .ok (.aload_n 1, 1) := by decide +kernel
theorem dX10_survey_2 : decode cX10_survey 2 = .ok (.invokevirtual 152, 3) := by decide +kernel
theorem dX10_survey_5 : decode cX10_survey 5 = .ok (.aload_n 0, 1) := by decide +kernel
theorem dX10_survey_6 : decode cX10_survey 6 = .ok (.getfield 99, 3) := by decide +kernel
theorem dX10_survey_9 : decode cX10_survey 9 = .ok (.aload_n 0, 1) := by decide +kernel
theorem dX10_survey_10 : decode cX10_survey 10 = .ok (.getfield 40, 3) := by decide +kernel
theorem dX10_survey_13 : decode cX10_survey 13 = .ok (.getfield 155, 3) := by decide +kernel
theorem dX10_survey_16 : decode cX10_survey 16 = .ok (.if_icmp .ne 4, 3) := by decide +kernel
theorem dX10_survey_19 : decode cX10_survey 19 = .ok (.return_, 1) := by decide +kernel
theorem dX10_survey_20 : decode cX10_survey 20 = .ok (.aload_n 0, 1) := by decide +kernel
theorem dX10_survey_21 : decode cX10_survey 21 = .ok (.aload_n 0, 1) := by decide +kernel
theorem dX10_survey_22 : decode cX10_survey 22 = .ok (.getfield 40, 3) := by decide +kernel
theorem dX10_survey_25 : decode cX10_survey 25 = .ok (.getfield 155, 3) := by decide +kernel
theorem dX10_survey_28 : decode cX10_survey 28 = .ok (.putfield 99, 3) := by decide +kernel
theorem dX10_survey_31 : decode cX10_survey 31 = .ok (.aload_n 0, 1) := by decide +kernel
theorem dX10_survey_32 : decode cX10_survey 32 = .ok (.iconst (-1), 1) := by decide +kernel
theorem dX10_survey_33 : decode cX10_survey 33 = .ok (.putfield 158, 3) := by decide +kernel
theorem dX10_survey_36 : decode cX10_survey 36 = .ok (.aload_n 0, 1) := by decide +kernel
theorem dX10_survey_37 : decode cX10_survey 37 = .ok (.iconst 0, 1) := by decide +kernel
theorem dX10_survey_38 : decode cX10_survey 38 = .ok (.putfield 161, 3) := by decide +kernel
theorem dX10_survey_41 : decode cX10_survey 41 = .ok (.aload_n 0, 1) := by decide +kernel
theorem dX10_survey_42 : decode cX10_survey 42 = .ok (.iconst 0, 1) := by decide +kernel
theorem dX10_survey_43 : decode cX10_survey 43 = .ok (.putfield 164, 3) := by decide +kernel
theorem dX10_survey_46 : decode cX10_survey 46 = .ok (.aload_n 0, 1) := by decide +kernel
theorem dX10_survey_47 : decode cX10_survey 47 = .ok (.getfield 11, 3) := by decide +kernel
theorem dX10_survey_50 : decode cX10_survey 50 = .ok (.iconst 0, 1) := by decide +kernel
theorem dX10_survey_51 : decode cX10_survey 51 = .ok (.invokestatic 167, 3) := by decide +kernel
theorem dX10_survey_54 : decode cX10_survey 54 = .ok (.iconst 1, 1) := by decide +kernel
theorem dX10_survey_55 : decode cX10_survey 55 = .ok (.istore_n 2, 1) := by decide +kernel
theorem dX10_survey_56 : decode cX10_survey 56 = .ok (.iconst 0, 1) := by decide +kernel
theorem dX10_survey_57 : decode cX10_survey 57 = .ok (.istore_n 3, 1) := by decide +kernel
theorem dX10_survey_58 : decode cX10_survey 58 = .ok (.iload_n 3, 1) := by decide +kernel
theorem dX10_survey_59 : decode cX10_survey 59 = .ok (.aload_n 0, 1) := by decide +kernel
theorem dX10_survey_60 : decode cX10_survey 60 = .ok (.getfield 18, 3) := by decide +kernel
theorem dX10_survey_63 : decode cX10_survey 63 = .ok (.getfield 52, 3) := by decide +kernel
theorem dX10_survey_66 : decode cX10_survey 66 = .ok (.invokestatic 118, 3) := by decide +kernel
theorem dX10_survey_69 : decode cX10_survey 69 = .ok (.if_icmp .ge 35, 3) := by decide +kernel
theorem dX10_survey_72 : decode cX10_survey 72 = .ok (.iload_n 2, 1) := by decide +kernel
theorem dX10_survey_73 : decode cX10_survey 73 = .ok (.ifCond .eq 31, 3) := by decide +kernel
theorem dX10_survey_76 : decode cX10_survey 76 = .ok (.aload_n 0, 1) := by decide +kernel
theorem dX10_survey_77 : decode cX10_survey 77 = .ok (.iload_n 3, 1) := by decide +kernel
theorem dX10_survey_78 : decode cX10_survey 78 = .ok (.aload_n 0, 1) := by decide +kernel
theorem dX10_survey_79 : decode cX10_survey 79 = .ok (.aload_n 0, 1) := by decide +kernel
theorem dX10_survey_80 : decode cX10_survey 80 = .ok (.getfield 22, 3) := by decide +kernel
theorem dX10_survey_83 : decode cX10_survey 83 = .ok (.invokevirtual 173, 3) := by decide +kernel
theorem dX10_survey_86 : decode cX10_survey 86 = .ok (.invokevirtual 176, 3) := by decide +kernel
theorem dX10_survey_89 : decode cX10_survey 89 = .ok (.aload_n 0, 1) := by decide +kernel
theorem dX10_survey_90 : decode cX10_survey 90 = .ok (.getfield 22, 3) := by decide +kernel
theorem dX10_survey_93 : decode cX10_survey 93 = .ok (.iconst 0, 1) := by decide +kernel
theorem dX10_survey_94 : decode cX10_survey 94 = .ok (.invokevirtual 180, 3) := by decide +kernel
theorem dX10_survey_97 : decode cX10_survey 97 = .ok (.istore_n 2, 1) := by decide +kernel
theorem dX10_survey_98 : decode cX10_survey 98 = .ok (.iinc 3 1, 3) := by decide +kernel
theorem dX10_survey_101 : decode cX10_survey 101 = .ok (.goto (-43), 3) := by decide +kernel
theorem dX10_survey_104 : decode cX10_survey 104 = .ok (.return_, 1) := by decide +kernel
theorem dX10_tally_0 : decode cX10_tally 0 = .ok (.iload_n 2, 1) := by decide +kernel
theorem dX10_tally_1 : decode cX10_tally 1 = .ok (.iconst 4, 1) := by decide +kernel
theorem dX10_tally_2 : decode cX10_tally 2 = .ok (.idiv, 1) := by decide +kernel
theorem dX10_tally_3 : decode cX10_tally 3 = .ok (.istore_n 3, 1) := by decide +kernel
theorem dX10_tally_4 : decode cX10_tally 4 = .ok (.iload_n 2, 1) := by decide +kernel
theorem dX10_tally_5 : decode cX10_tally 5 = .ok (.iconst 4, 1) := by decide +kernel
theorem dX10_tally_6 : decode cX10_tally 6 = .ok (.irem, 1) := by decide +kernel
theorem dX10_tally_7 : decode cX10_tally 7 = .ok (.istore 4, 2) := by decide +kernel
theorem dX10_tally_9 : decode cX10_tally 9 = .ok (.iload_n 2, 1) := by decide +kernel
theorem dX10_tally_10 : decode cX10_tally 10 = .ok (.ifCond .lt 14, 3) := by decide +kernel
theorem dX10_tally_13 : decode cX10_tally 13 = .ok (.iload_n 3, 1) := by decide +kernel
theorem dX10_tally_14 : decode cX10_tally 14 = .ok (.aload_n 0, 1) := by decide +kernel
theorem dX10_tally_15 : decode cX10_tally 15 = .ok (.getfield 40, 3) := by decide +kernel
theorem dX10_tally_18 : decode cX10_tally 18 = .ok (.getfield 155, 3) := by decide +kernel
theorem dX10_tally_21 : decode cX10_tally 21 = .ok (.if_icmp .le 16, 3) := by decide +kernel
theorem dX10_tally_24 : decode cX10_tally 24 = .ok (.aload_n 0, 1) := by decide +kernel
theorem dX10_tally_25 : decode cX10_tally 25 = .ok (.getfield 11, 3) := by decide +kernel
theorem dX10_tally_28 : decode cX10_tally 28 = .ok (.iconst 2, 1) := by decide +kernel
theorem dX10_tally_29 : decode cX10_tally 29 = .ok (.dup2, 1) := by decide +kernel
theorem dX10_tally_30 : decode cX10_tally 30 = .ok (.iaload, 1) := by decide +kernel
theorem dX10_tally_31 : decode cX10_tally 31 = .ok (.iconst 1, 1) := by decide +kernel
theorem dX10_tally_32 : decode cX10_tally 32 = .ok (.iadd, 1) := by decide +kernel
theorem dX10_tally_33 : decode cX10_tally 33 = .ok (.iastore, 1) := by decide +kernel
theorem dX10_tally_34 : decode cX10_tally 34 = .ok (.goto 97, 3) := by decide +kernel
theorem dX10_tally_37 : decode cX10_tally 37 = .ok (.iload 4, 2) := by decide +kernel
theorem dX10_tally_39 : decode cX10_tally 39 = .ok (.iconst 3, 1) := by decide +kernel
theorem dX10_tally_40 : decode cX10_tally 40 = .ok (.if_icmp .ne 16, 3) := by decide +kernel
theorem dX10_tally_43 : decode cX10_tally 43 = .ok (.aload_n 0, 1) := by decide +kernel
theorem dX10_tally_44 : decode cX10_tally 44 = .ok (.getfield 11, 3) := by decide +kernel
theorem dX10_tally_47 : decode cX10_tally 47 = .ok (.iconst 1, 1) := by decide +kernel
theorem dX10_tally_48 : decode cX10_tally 48 = .ok (.dup2, 1) := by decide +kernel
theorem dX10_tally_49 : decode cX10_tally 49 = .ok (.iaload, 1) := by decide +kernel
theorem dX10_tally_50 : decode cX10_tally 50 = .ok (.iconst 1, 1) := by decide +kernel
theorem dX10_tally_51 : decode cX10_tally 51 = .ok (.iadd, 1) := by decide +kernel
theorem dX10_tally_52 : decode cX10_tally 52 = .ok (.iastore, 1) := by decide +kernel
theorem dX10_tally_53 : decode cX10_tally 53 = .ok (.goto 78, 3) := by decide +kernel
theorem dX10_tally_56 : decode cX10_tally 56 = .ok (.aload_n 0, 1) := by decide +kernel
theorem dX10_tally_57 : decode cX10_tally 57 = .ok (.getfield 11, 3) := by decide +kernel
theorem dX10_tally_60 : decode cX10_tally 60 = .ok (.iconst 0, 1) := by decide +kernel
theorem dX10_tally_61 : decode cX10_tally 61 = .ok (.dup2, 1) := by decide +kernel
theorem dX10_tally_62 : decode cX10_tally 62 = .ok (.iaload, 1) := by decide +kernel
theorem dX10_tally_63 : decode cX10_tally 63 = .ok (.iconst 1, 1) := by decide +kernel
theorem dX10_tally_64 : decode cX10_tally 64 = .ok (.iadd, 1) := by decide +kernel
theorem dX10_tally_65 : decode cX10_tally 65 = .ok (.iastore, 1) := by decide +kernel
theorem dX10_tally_66 : decode cX10_tally 66 = .ok (.aload_n 0, 1) := by decide +kernel
theorem dX10_tally_67 : decode cX10_tally 67 = .ok (.getfield 11, 3) := by decide +kernel
theorem dX10_tally_70 : decode cX10_tally 70 = .ok (.iconst 3, 1) := by decide +kernel
theorem dX10_tally_71 : decode cX10_tally 71 = .ok (.dup2, 1) := by decide +kernel
theorem dX10_tally_72 : decode cX10_tally 72 = .ok (.iaload, 1) := by decide +kernel
theorem dX10_tally_73 : decode cX10_tally 73 = .ok (.iload 4, 2) := by decide +kernel
theorem dX10_tally_75 : decode cX10_tally 75 = .ok (.iconst 2, 1) := by decide +kernel
theorem dX10_tally_76 : decode cX10_tally 76 = .ok (.if_icmp .ne 7, 3) := by decide +kernel
theorem dX10_tally_79 : decode cX10_tally 79 = .ok (.iconst 1, 1) := by decide +kernel
theorem dX10_tally_80 : decode cX10_tally 80 = .ok (.goto 4, 3) := by decide +kernel
theorem dX10_tally_83 : decode cX10_tally 83 = .ok (.iconst 0, 1) := by decide +kernel
theorem dX10_tally_84 : decode cX10_tally 84 = .ok (.iadd, 1) := by decide +kernel
theorem dX10_tally_85 : decode cX10_tally 85 = .ok (.iastore, 1) := by decide +kernel
theorem dX10_tally_86 : decode cX10_tally 86 = .ok (.iload_n 3, 1) := by decide +kernel
theorem dX10_tally_87 : decode cX10_tally 87 = .ok (.aload_n 0, 1) := by decide +kernel
theorem dX10_tally_88 : decode cX10_tally 88 = .ok (.getfield 158, 3) := by decide +kernel
theorem dX10_tally_91 : decode cX10_tally 91 = .ok (.if_icmp .le 18, 3) := by decide +kernel
theorem dX10_tally_94 : decode cX10_tally 94 = .ok (.aload_n 0, 1) := by decide +kernel
theorem dX10_tally_95 : decode cX10_tally 95 = .ok (.iload_n 3, 1) := by decide +kernel
theorem dX10_tally_96 : decode cX10_tally 96 = .ok (.putfield 158, 3) := by decide +kernel
theorem dX10_tally_99 : decode cX10_tally 99 = .ok (.aload_n 0, 1) := by decide +kernel
theorem dX10_tally_100 : decode cX10_tally 100 = .ok (.iconst 0, 1) := by decide +kernel
theorem dX10_tally_101 : decode cX10_tally 101 = .ok (.putfield 161, 3) := by decide +kernel
theorem dX10_tally_104 : decode cX10_tally 104 = .ok (.aload_n 0, 1) := by decide +kernel
theorem dX10_tally_105 : decode cX10_tally 105 = .ok (.iload_n 1, 1) := by decide +kernel
theorem dX10_tally_106 : decode cX10_tally 106 = .ok (.putfield 164, 3) := by decide +kernel
theorem dX10_tally_109 : decode cX10_tally 109 = .ok (.aload_n 0, 1) := by decide +kernel
theorem dX10_tally_110 : decode cX10_tally 110 = .ok (.dup, 1) := by decide +kernel
theorem dX10_tally_111 : decode cX10_tally 111 = .ok (.getfield 161, 3) := by decide +kernel
theorem dX10_tally_114 : decode cX10_tally 114 = .ok (.iload_n 3, 1) := by decide +kernel
theorem dX10_tally_115 : decode cX10_tally 115 = .ok (.aload_n 0, 1) := by decide +kernel
theorem dX10_tally_116 : decode cX10_tally 116 = .ok (.getfield 158, 3) := by decide +kernel
theorem dX10_tally_119 : decode cX10_tally 119 = .ok (.if_icmp .ne 7, 3) := by decide +kernel
theorem dX10_tally_122 : decode cX10_tally 122 = .ok (.iconst 1, 1) := by decide +kernel
theorem dX10_tally_123 : decode cX10_tally 123 = .ok (.goto 4, 3) := by decide +kernel
theorem dX10_tally_126 : decode cX10_tally 126 = .ok (.iconst 0, 1) := by decide +kernel
theorem dX10_tally_127 : decode cX10_tally 127 = .ok (.iadd, 1) := by decide +kernel
theorem dX10_tally_128 : decode cX10_tally 128 = .ok (.putfield 161, 3) := by decide +kernel
theorem dX10_tally_131 : decode cX10_tally 131 = .ok (.return_, 1) := by decide +kernel
theorem dX10_leading_0 : decode cX10_leading 0 = .ok (.aload_n 0, 1) := by decide +kernel
theorem dX10_leading_1 : decode cX10_leading 1 = .ok (.aload_n 1, 1) := by decide +kernel
theorem dX10_leading_2 : decode cX10_leading 2 = .ok (.invokevirtual 152, 3) := by decide +kernel
theorem dX10_leading_5 : decode cX10_leading 5 = .ok (.aload_n 0, 1) := by decide +kernel
theorem dX10_leading_6 : decode cX10_leading 6 = .ok (.aload_n 1, 1) := by decide +kernel
theorem dX10_leading_7 : decode cX10_leading 7 = .ok (.invokevirtual 141, 3) := by decide +kernel
theorem dX10_leading_10 : decode cX10_leading 10 = .ok (.aload_n 0, 1) := by decide +kernel
theorem dX10_leading_11 : decode cX10_leading 11 = .ok (.getfield 75, 3) := by decide +kernel
theorem dX10_leading_14 : decode cX10_leading 14 = .ok (.iconst 1, 1) := by decide +kernel
theorem dX10_leading_15 : decode cX10_leading 15 = .ok (.invokestatic 62, 3) := by decide +kernel
theorem dX10_leading_18 : decode cX10_leading 18 = .ok (.idiv, 1) := by decide +kernel
theorem dX10_leading_19 : decode cX10_leading 19 = .ok (.istore 4, 2) := by decide +kernel
theorem dX10_leading_21 : decode cX10_leading 21 = .ok (.iconst 0, 1) := by decide +kernel
theorem dX10_leading_22 : decode cX10_leading 22 = .ok (.istore 5, 2) := by decide +kernel
theorem dX10_leading_24 : decode cX10_leading 24 = .ok (.iconst 1, 1) := by decide +kernel
theorem dX10_leading_25 : decode cX10_leading 25 = .ok (.istore 6, 2) := by decide +kernel
theorem dX10_leading_27 : decode cX10_leading 27 = .ok (.iconst 0, 1) := by decide +kernel
theorem dX10_leading_28 : decode cX10_leading 28 = .ok (.istore 7, 2) := by decide +kernel
theorem dX10_leading_30 : decode cX10_leading 30 = .ok (.iload 7, 2) := by decide +kernel
theorem dX10_leading_32 : decode cX10_leading 32 = .ok (.aload_n 0, 1) := by decide +kernel
theorem dX10_leading_33 : decode cX10_leading 33 = .ok (.getfield 18, 3) := by decide +kernel
theorem dX10_leading_36 : decode cX10_leading 36 = .ok (.getfield 52, 3) := by decide +kernel
theorem dX10_leading_39 : decode cX10_leading 39 = .ok (.invokestatic 118, 3) := by decide +kernel
theorem dX10_leading_42 : decode cX10_leading 42 = .ok (.if_icmp .ge 77, 3) := by decide +kernel
theorem dX10_leading_45 : decode cX10_leading 45 = .ok (.iload 6, 2) := by decide +kernel
theorem dX10_leading_47 : decode cX10_leading 47 = .ok (.ifCond .eq 72, 3) := by decide +kernel
theorem dX10_leading_50 : decode cX10_leading 50 = .ok (.aload_n 0, 1) := by decide +kernel
theorem dX10_leading_51 : decode cX10_leading 51 = .ok (.aload_n 0, 1) := by decide +kernel
theorem dX10_leading_52 : decode cX10_leading 52 = .ok (.aload_n 0, 1) := by decide +kernel
theorem dX10_leading_53 : decode cX10_leading 53 = .ok (.getfield 22, 3) := by decide +kernel
theorem dX10_leading_56 : decode cX10_leading 56 = .ok (.invokevirtual 141, 3) := by decide +kernel
theorem dX10_leading_59 : decode cX10_leading 59 = .ok (.invokevirtual 184, 3) := by decide +kernel
theorem dX10_leading_62 : decode cX10_leading 62 = .ok (.istore 8, 2) := by decide +kernel
theorem dX10_leading_64 : decode cX10_leading 64 = .ok (.iload 8, 2) := by decide +kernel
theorem dX10_leading_66 : decode cX10_leading 66 = .ok (.ifCond .lt 37, 3) := by decide +kernel
theorem dX10_leading_69 : decode cX10_leading 69 = .ok (.iload 8, 2) := by decide +kernel
theorem dX10_leading_71 : decode cX10_leading 71 = .ok (.aload_n 0, 1) := by decide +kernel
theorem dX10_leading_72 : decode cX10_leading 72 = .ok (.getfield 75, 3) := by decide +kernel
theorem dX10_leading_75 : decode cX10_leading 75 = .ok (.iconst 1, 1) := by decide +kernel
theorem dX10_leading_76 : decode cX10_leading 76 = .ok (.invokestatic 62, 3) := by decide +kernel
theorem dX10_leading_79 : decode cX10_leading 79 = .ok (.idiv, 1) := by decide +kernel
theorem dX10_leading_80 : decode cX10_leading 80 = .ok (.iload 4, 2) := by decide +kernel
theorem dX10_leading_82 : decode cX10_leading 82 = .ok (.if_icmp .ne 21, 3) := by decide +kernel
theorem dX10_leading_85 : decode cX10_leading 85 = .ok (.iload 5, 2) := by decide +kernel
theorem dX10_leading_87 : decode cX10_leading 87 = .ok (.iload_n 2, 1) := by decide +kernel
theorem dX10_leading_88 : decode cX10_leading 88 = .ok (.if_icmp .ne 12, 3) := by decide +kernel
theorem dX10_leading_91 : decode cX10_leading 91 = .ok (.aload_n 0, 1) := by decide +kernel
theorem dX10_leading_92 : decode cX10_leading 92 = .ok (.getfield 22, 3) := by decide +kernel
theorem dX10_leading_95 : decode cX10_leading 95 = .ok (.iload_n 3, 1) := by decide +kernel
theorem dX10_leading_96 : decode cX10_leading 96 = .ok (.invokevirtual 105, 3) := by decide +kernel
theorem dX10_leading_99 : decode cX10_leading 99 = .ok (.ireturn, 1) := by decide +kernel
theorem dX10_leading_100 : decode cX10_leading 100 = .ok (.iinc 5 1, 3) := by decide +kernel
theorem dX10_leading_103 : decode cX10_leading 103 = .ok (.aload_n 0, 1) := by decide +kernel
theorem dX10_leading_104 : decode cX10_leading 104 = .ok (.getfield 22, 3) := by decide +kernel
theorem dX10_leading_107 : decode cX10_leading 107 = .ok (.iconst 0, 1) := by decide +kernel
theorem dX10_leading_108 : decode cX10_leading 108 = .ok (.invokevirtual 180, 3) := by decide +kernel
theorem dX10_leading_111 : decode cX10_leading 111 = .ok (.istore 6, 2) := by decide +kernel
theorem dX10_leading_113 : decode cX10_leading 113 = .ok (.iinc 7 1, 3) := by decide +kernel
theorem dX10_leading_116 : decode cX10_leading 116 = .ok (.goto (-86), 3) := by decide +kernel
theorem dX10_leading_119 : decode cX10_leading 119 = .ok (.iload_n 2, 1) := by decide +kernel
theorem dX10_leading_120 : decode cX10_leading 120 = .ok (.iconst (-1), 1) := by decide +kernel
theorem dX10_leading_121 : decode cX10_leading 121 = .ok (.if_icmp .ne 8, 3) := by decide +kernel
theorem dX10_leading_124 : decode cX10_leading 124 = .ok (.iload 5, 2) := by decide +kernel
theorem dX10_leading_126 : decode cX10_leading 126 = .ok (.goto 4, 3) := by decide +kernel
theorem dX10_leading_129 : decode cX10_leading 129 = .ok (.iconst (-1), 1) := by decide +kernel
theorem dX10_leading_130 : decode cX10_leading 130 = .ok (.ireturn, 1) := by decide +kernel
theorem dX10_weigh_0 : decode cX10_weigh 0 = .ok (.aload_n 0, 1) := by decide +kernel
theorem dX10_weigh_1 : decode cX10_weigh 1 = .ok (.aload_n 1, 1) := by decide +kernel
theorem dX10_weigh_2 : decode cX10_weigh 2 = .ok (.invokevirtual 152, 3) := by decide +kernel
theorem dX10_weigh_5 : decode cX10_weigh 5 = .ok (.aload_n 0, 1) := by decide +kernel
theorem dX10_weigh_6 : decode cX10_weigh 6 = .ok (.getfield 22, 3) := by decide +kernel
theorem dX10_weigh_9 : decode cX10_weigh 9 = .ok (.aload_n 1, 1) := by decide +kernel
theorem dX10_weigh_10 : decode cX10_weigh 10 = .ok (.invokevirtual 48, 3) := by decide +kernel
theorem dX10_weigh_13 : decode cX10_weigh 13 = .ok (.aload_n 0, 1) := by decide +kernel
theorem dX10_weigh_14 : decode cX10_weigh 14 = .ok (.getfield 22, 3) := by decide +kernel
theorem dX10_weigh_17 : decode cX10_weigh 17 = .ok (.iconst 0, 1) := by decide +kernel
theorem dX10_weigh_18 : decode cX10_weigh 18 = .ok (.putfield 69, 3) := by decide +kernel
theorem dX10_weigh_21 : decode cX10_weigh 21 = .ok (.aload_n 0, 1) := by decide +kernel
theorem dX10_weigh_22 : decode cX10_weigh 22 = .ok (.getfield 22, 3) := by decide +kernel
theorem dX10_weigh_25 : decode cX10_weigh 25 = .ok (.iload_n 2, 1) := by decide +kernel
theorem dX10_weigh_26 : decode cX10_weigh 26 = .ok (.invokevirtual 65, 3) := by decide +kernel
theorem dX10_weigh_29 : decode cX10_weigh 29 = .ok (.iconst 0, 1) := by decide +kernel
theorem dX10_weigh_30 : decode cX10_weigh 30 = .ok (.istore 4, 2) := by decide +kernel
theorem dX10_weigh_32 : decode cX10_weigh 32 = .ok (.iconst 0, 1) := by decide +kernel
theorem dX10_weigh_33 : decode cX10_weigh 33 = .ok (.istore 5, 2) := by decide +kernel
theorem dX10_weigh_35 : decode cX10_weigh 35 = .ok (.iconst 1, 1) := by decide +kernel
theorem dX10_weigh_36 : decode cX10_weigh 36 = .ok (.istore 6, 2) := by decide +kernel
theorem dX10_weigh_38 : decode cX10_weigh 38 = .ok (.iconst 0, 1) := by decide +kernel
theorem dX10_weigh_39 : decode cX10_weigh 39 = .ok (.istore 7, 2) := by decide +kernel
theorem dX10_weigh_41 : decode cX10_weigh 41 = .ok (.iload 7, 2) := by decide +kernel
theorem dX10_weigh_43 : decode cX10_weigh 43 = .ok (.aload_n 0, 1) := by decide +kernel
theorem dX10_weigh_44 : decode cX10_weigh 44 = .ok (.getfield 18, 3) := by decide +kernel
theorem dX10_weigh_47 : decode cX10_weigh 47 = .ok (.getfield 52, 3) := by decide +kernel
theorem dX10_weigh_50 : decode cX10_weigh 50 = .ok (.invokestatic 118, 3) := by decide +kernel
theorem dX10_weigh_53 : decode cX10_weigh 53 = .ok (.if_icmp .ge 72, 3) := by decide +kernel
theorem dX10_weigh_56 : decode cX10_weigh 56 = .ok (.iload 6, 2) := by decide +kernel
theorem dX10_weigh_58 : decode cX10_weigh 58 = .ok (.ifCond .eq 67, 3) := by decide +kernel
theorem dX10_weigh_61 : decode cX10_weigh 61 = .ok (.aload_n 0, 1) := by decide +kernel
theorem dX10_weigh_62 : decode cX10_weigh 62 = .ok (.aload_n 0, 1) := by decide +kernel
theorem dX10_weigh_63 : decode cX10_weigh 63 = .ok (.getfield 22, 3) := by decide +kernel
theorem dX10_weigh_66 : decode cX10_weigh 66 = .ok (.invokevirtual 173, 3) := by decide +kernel
theorem dX10_weigh_69 : decode cX10_weigh 69 = .ok (.istore 8, 2) := by decide +kernel
theorem dX10_weigh_71 : decode cX10_weigh 71 = .ok (.iload 8, 2) := by decide +kernel
theorem dX10_weigh_73 : decode cX10_weigh 73 = .ok (.ifCond .le 33, 3) := by decide +kernel
theorem dX10_weigh_76 : decode cX10_weigh 76 = .ok (.iload 8, 2) := by decide +kernel
theorem dX10_weigh_78 : decode cX10_weigh 78 = .ok (.iconst 4, 1) := by decide +kernel
theorem dX10_weigh_79 : decode cX10_weigh 79 = .ok (.irem, 1) := by decide +kernel
theorem dX10_weigh_80 : decode cX10_weigh 80 = .ok (.iconst 3, 1) := by decide +kernel
theorem dX10_weigh_81 : decode cX10_weigh 81 = .ok (.if_icmp .eq 25, 3) := by decide +kernel
theorem dX10_weigh_84 : decode cX10_weigh 84 = .ok (.iload 8, 2) := by decide +kernel
theorem dX10_weigh_86 : decode cX10_weigh 86 = .ok (.iconst 4, 1) := by decide +kernel
theorem dX10_weigh_87 : decode cX10_weigh 87 = .ok (.idiv, 1) := by decide +kernel
theorem dX10_weigh_88 : decode cX10_weigh 88 = .ok (.iload_n 3, 1) := by decide +kernel
theorem dX10_weigh_89 : decode cX10_weigh 89 = .ok (.if_icmp .ne 17, 3) := by decide +kernel
theorem dX10_weigh_92 : decode cX10_weigh 92 = .ok (.iload_n 3, 1) := by decide +kernel
theorem dX10_weigh_93 : decode cX10_weigh 93 = .ok (.aload_n 0, 1) := by decide +kernel
theorem dX10_weigh_94 : decode cX10_weigh 94 = .ok (.getfield 40, 3) := by decide +kernel
theorem dX10_weigh_97 : decode cX10_weigh 97 = .ok (.getfield 155, 3) := by decide +kernel
theorem dX10_weigh_100 : decode cX10_weigh 100 = .ok (.if_icmp .gt 6, 3) := by decide +kernel
theorem dX10_weigh_103 : decode cX10_weigh 103 = .ok (.iinc 5 1, 3) := by decide +kernel
theorem dX10_weigh_106 : decode cX10_weigh 106 = .ok (.iinc 4 1, 3) := by decide +kernel
theorem dX10_weigh_109 : decode cX10_weigh 109 = .ok (.aload_n 0, 1) := by decide +kernel
theorem dX10_weigh_110 : decode cX10_weigh 110 = .ok (.getfield 22, 3) := by decide +kernel
theorem dX10_weigh_113 : decode cX10_weigh 113 = .ok (.iload_n 2, 1) := by decide +kernel
theorem dX10_weigh_114 : decode cX10_weigh 114 = .ok (.invokevirtual 180, 3) := by decide +kernel
theorem dX10_weigh_117 : decode cX10_weigh 117 = .ok (.istore 6, 2) := by decide +kernel
theorem dX10_weigh_119 : decode cX10_weigh 119 = .ok (.iinc 7 1, 3) := by decide +kernel
theorem dX10_weigh_122 : decode cX10_weigh 122 = .ok (.goto (-81), 3) := by decide +kernel
theorem dX10_weigh_125 : decode cX10_weigh 125 = .ok (.iload 4, 2) := by decide +kernel
theorem dX10_weigh_127 : decode cX10_weigh 127 = .ok (.iload 5, 2) := by decide +kernel
theorem dX10_weigh_129 : decode cX10_weigh 129 = .ok (.invokestatic 187, 3) := by decide +kernel
theorem dX10_weigh_132 : decode cX10_weigh 132 = .ok (.iconst 1, 1) := by decide +kernel
theorem dX10_weigh_133 : decode cX10_weigh 133 = .ok (.invokestatic 62, 3) := by decide +kernel
theorem dX10_weigh_136 : decode cX10_weigh 136 = .ok (.istore 7, 2) := by decide +kernel
theorem dX10_weigh_138 : decode cX10_weigh 138 = .ok (.aload_n 0, 1) := by decide +kernel
theorem dX10_weigh_139 : decode cX10_weigh 139 = .ok (.iload 5, 2) := by decide +kernel
theorem dX10_weigh_141 : decode cX10_weigh 141 = .ok (.iload 7, 2) := by decide +kernel
theorem dX10_weigh_143 : decode cX10_weigh 143 = .ok (.idiv, 1) := by decide +kernel
theorem dX10_weigh_144 : decode cX10_weigh 144 = .ok (.putfield 190, 3) := by decide +kernel
theorem dX10_weigh_147 : decode cX10_weigh 147 = .ok (.aload_n 0, 1) := by decide +kernel
theorem dX10_weigh_148 : decode cX10_weigh 148 = .ok (.iload 4, 2) := by decide +kernel
theorem dX10_weigh_150 : decode cX10_weigh 150 = .ok (.iload 7, 2) := by decide +kernel
theorem dX10_weigh_152 : decode cX10_weigh 152 = .ok (.idiv, 1) := by decide +kernel
theorem dX10_weigh_153 : decode cX10_weigh 153 = .ok (.putfield 193, 3) := by decide +kernel
theorem dX10_weigh_156 : decode cX10_weigh 156 = .ok (.return_, 1) := by decide +kernel
theorem dX10_commonDivisor_0 : decode cX10_commonDivisor 0 = .ok (.iload_n 0, 1) := by decide +kernel
theorem dX10_commonDivisor_1 : decode cX10_commonDivisor 1 = .ok (.istore_n 2, 1) := by decide +kernel
theorem dX10_commonDivisor_2 : decode cX10_commonDivisor 2 = .ok (.iload_n 1, 1) := by decide +kernel
theorem dX10_commonDivisor_3 : decode cX10_commonDivisor 3 = .ok (.istore_n 3, 1) := by decide +kernel
theorem dX10_commonDivisor_4 : decode cX10_commonDivisor 4 = .ok (.iconst 0, 1) := by decide +kernel
theorem dX10_commonDivisor_5 : decode cX10_commonDivisor 5 = .ok (.istore 4, 2) := by decide +kernel
theorem dX10_commonDivisor_7 : decode cX10_commonDivisor 7 = .ok (.iload 4, 2) := by decide +kernel
theorem dX10_commonDivisor_9 : decode cX10_commonDivisor 9 = .ok (.bipush 64, 2) := by decide +kernel
theorem dX10_commonDivisor_11 : decode cX10_commonDivisor 11 = .ok (.if_icmp .ge 23, 3) := by decide +kernel
theorem dX10_commonDivisor_14 : decode cX10_commonDivisor 14 = .ok (.iload_n 3, 1) := by decide +kernel
theorem dX10_commonDivisor_15 : decode cX10_commonDivisor 15 = .ok (.ifCond .le 19, 3) := by decide +kernel
theorem dX10_commonDivisor_18 : decode cX10_commonDivisor 18 = .ok (.iload_n 2, 1) := by decide +kernel
theorem dX10_commonDivisor_19 : decode cX10_commonDivisor 19 = .ok (.iload_n 3, 1) := by decide +kernel
theorem dX10_commonDivisor_20 : decode cX10_commonDivisor 20 = .ok (.irem, 1) := by decide +kernel
theorem dX10_commonDivisor_21 : decode cX10_commonDivisor 21 = .ok (.istore 5, 2) := by decide +kernel
theorem dX10_commonDivisor_23 : decode cX10_commonDivisor 23 = .ok (.iload_n 3, 1) := by decide +kernel
theorem dX10_commonDivisor_24 : decode cX10_commonDivisor 24 = .ok (.istore_n 2, 1) := by decide +kernel
theorem dX10_commonDivisor_25 : decode cX10_commonDivisor 25 = .ok (.iload 5, 2) := by decide +kernel
theorem dX10_commonDivisor_27 : decode cX10_commonDivisor 27 = .ok (.istore_n 3, 1) := by decide +kernel
theorem dX10_commonDivisor_28 : decode cX10_commonDivisor 28 = .ok (.iinc 4 1, 3) := by decide +kernel
theorem dX10_commonDivisor_31 : decode cX10_commonDivisor 31 = .ok (.goto (-24), 3) := by decide +kernel
theorem dX10_commonDivisor_34 : decode cX10_commonDivisor 34 = .ok (.iload_n 2, 1) := by decide +kernel
theorem dX10_commonDivisor_35 : decode cX10_commonDivisor 35 = .ok (.ireturn, 1) := by decide +kernel
theorem dX10_fitting_0 : decode cX10_fitting 0 = .ok (.aload_n 0, 1) := by decide +kernel
theorem dX10_fitting_1 : decode cX10_fitting 1 = .ok (.aload_n 1, 1) := by decide +kernel
theorem dX10_fitting_2 : decode cX10_fitting 2 = .ok (.invokevirtual 152, 3) := by decide +kernel
theorem dX10_fitting_5 : decode cX10_fitting 5 = .ok (.aload_n 0, 1) := by decide +kernel
theorem dX10_fitting_6 : decode cX10_fitting 6 = .ok (.invokevirtual 196, 3) := by decide +kernel
theorem dX10_fitting_9 : decode cX10_fitting 9 = .ok (.istore 4, 2) := by decide +kernel
theorem dX10_fitting_11 : decode cX10_fitting 11 = .ok (.iconst 0, 1) := by decide +kernel
theorem dX10_fitting_12 : decode cX10_fitting 12 = .ok (.istore 5, 2) := by decide +kernel
theorem dX10_fitting_14 : decode cX10_fitting 14 = .ok (.iconst 1, 1) := by decide +kernel
theorem dX10_fitting_15 : decode cX10_fitting 15 = .ok (.istore 6, 2) := by decide +kernel
theorem dX10_fitting_17 : decode cX10_fitting 17 = .ok (.iconst 0, 1) := by decide +kernel
theorem dX10_fitting_18 : decode cX10_fitting 18 = .ok (.istore 7, 2) := by decide +kernel
theorem dX10_fitting_20 : decode cX10_fitting 20 = .ok (.iload 7, 2) := by decide +kernel
theorem dX10_fitting_22 : decode cX10_fitting 22 = .ok (.aload_n 0, 1) := by decide +kernel
theorem dX10_fitting_23 : decode cX10_fitting 23 = .ok (.getfield 18, 3) := by decide +kernel
theorem dX10_fitting_26 : decode cX10_fitting 26 = .ok (.getfield 52, 3) := by decide +kernel
theorem dX10_fitting_29 : decode cX10_fitting 29 = .ok (.invokestatic 118, 3) := by decide +kernel
theorem dX10_fitting_32 : decode cX10_fitting 32 = .ok (.if_icmp .ge 59, 3) := by decide +kernel
theorem dX10_fitting_35 : decode cX10_fitting 35 = .ok (.iload 6, 2) := by decide +kernel
theorem dX10_fitting_37 : decode cX10_fitting 37 = .ok (.ifCond .eq 54, 3) := by decide +kernel
theorem dX10_fitting_40 : decode cX10_fitting 40 = .ok (.aload_n 0, 1) := by decide +kernel
theorem dX10_fitting_41 : decode cX10_fitting 41 = .ok (.aload_n 0, 1) := by decide +kernel
theorem dX10_fitting_42 : decode cX10_fitting 42 = .ok (.aload_n 0, 1) := by decide +kernel
theorem dX10_fitting_43 : decode cX10_fitting 43 = .ok (.getfield 22, 3) := by decide +kernel
theorem dX10_fitting_46 : decode cX10_fitting 46 = .ok (.invokevirtual 141, 3) := by decide +kernel
theorem dX10_fitting_49 : decode cX10_fitting 49 = .ok (.iload 4, 2) := by decide +kernel
theorem dX10_fitting_51 : decode cX10_fitting 51 = .ok (.invokevirtual 200, 3) := by decide +kernel
theorem dX10_fitting_54 : decode cX10_fitting 54 = .ok (.ifCond .eq 21, 3) := by decide +kernel
theorem dX10_fitting_57 : decode cX10_fitting 57 = .ok (.iload 5, 2) := by decide +kernel
theorem dX10_fitting_59 : decode cX10_fitting 59 = .ok (.iload_n 2, 1) := by decide +kernel
theorem dX10_fitting_60 : decode cX10_fitting 60 = .ok (.if_icmp .ne 12, 3) := by decide +kernel
theorem dX10_fitting_63 : decode cX10_fitting 63 = .ok (.aload_n 0, 1) := by decide +kernel
theorem dX10_fitting_64 : decode cX10_fitting 64 = .ok (.getfield 22, 3) := by decide +kernel
theorem dX10_fitting_67 : decode cX10_fitting 67 = .ok (.iload_n 3, 1) := by decide +kernel
theorem dX10_fitting_68 : decode cX10_fitting 68 = .ok (.invokevirtual 105, 3) := by decide +kernel
theorem dX10_fitting_71 : decode cX10_fitting 71 = .ok (.ireturn, 1) := by decide +kernel
theorem dX10_fitting_72 : decode cX10_fitting 72 = .ok (.iinc 5 1, 3) := by decide +kernel
theorem dX10_fitting_75 : decode cX10_fitting 75 = .ok (.aload_n 0, 1) := by decide +kernel
theorem dX10_fitting_76 : decode cX10_fitting 76 = .ok (.getfield 22, 3) := by decide +kernel
theorem dX10_fitting_79 : decode cX10_fitting 79 = .ok (.iconst 0, 1) := by decide +kernel
theorem dX10_fitting_80 : decode cX10_fitting 80 = .ok (.invokevirtual 180, 3) := by decide +kernel
theorem dX10_fitting_83 : decode cX10_fitting 83 = .ok (.istore 6, 2) := by decide +kernel
theorem dX10_fitting_85 : decode cX10_fitting 85 = .ok (.iinc 7 1, 3) := by decide +kernel
theorem dX10_fitting_88 : decode cX10_fitting 88 = .ok (.goto (-68), 3) := by decide +kernel
theorem dX10_fitting_91 : decode cX10_fitting 91 = .ok (.iload_n 2, 1) := by decide +kernel
theorem dX10_fitting_92 : decode cX10_fitting 92 = .ok (.iconst (-1), 1) := by decide +kernel
theorem dX10_fitting_93 : decode cX10_fitting 93 = .ok (.if_icmp .ne 8, 3) := by decide +kernel
theorem dX10_fitting_96 : decode cX10_fitting 96 = .ok (.iload 5, 2) := by decide +kernel
theorem dX10_fitting_98 : decode cX10_fitting 98 = .ok (.goto 4, 3) := by decide +kernel
theorem dX10_fitting_101 : decode cX10_fitting 101 = .ok (.iconst (-1), 1) := by decide +kernel
theorem dX10_fitting_102 : decode cX10_fitting 102 = .ok (.ireturn, 1) := by decide +kernel
theorem dX10_wantSights_0 : decode cX10_wantSights 0 = .ok (.iconst 0, 1) := by decide +kernel
theorem dX10_wantSights_1 : decode cX10_wantSights 1 = .ok (.istore_n 1, 1) := by decide +kernel
theorem dX10_wantSights_2 : decode cX10_wantSights 2 = .ok (.aload_n 0, 1) := by decide +kernel
theorem dX10_wantSights_3 : decode cX10_wantSights 3 = .ok (.getfield 28, 3) := by decide +kernel
theorem dX10_wantSights_6 : decode cX10_wantSights 6 = .ok (.iconst (-1), 1) := by decide +kernel
theorem dX10_wantSights_7 : decode cX10_wantSights 7 = .ok (.invokestatic 167, 3) := by decide +kernel
theorem dX10_wantSights_10 : decode cX10_wantSights 10 = .ok (.iconst 0, 1) := by decide +kernel
theorem dX10_wantSights_11 : decode cX10_wantSights 11 = .ok (.istore_n 2, 1) := by decide +kernel
theorem dX10_wantSights_12 : decode cX10_wantSights 12 = .ok (.iload_n 2, 1) := by decide +kernel
theorem dX10_wantSights_13 : decode cX10_wantSights 13 = .ok (.aload_n 0, 1) := by decide +kernel
theorem dX10_wantSights_14 : decode cX10_wantSights 14 = .ok (.getfield 40, 3) := by decide +kernel
theorem dX10_wantSights_17 : decode cX10_wantSights 17 = .ok (.getfield 204, 3) := by decide +kernel
theorem dX10_wantSights_20 : decode cX10_wantSights 20 = .ok (.if_icmp .ge 81, 3) := by decide +kernel
theorem dX10_wantSights_23 : decode cX10_wantSights 23 = .ok (.aload_n 0, 1) := by decide +kernel
theorem dX10_wantSights_24 : decode cX10_wantSights 24 = .ok (.getfield 40, 3) := by decide +kernel
theorem dX10_wantSights_27 : decode cX10_wantSights 27 = .ok (.iload_n 2, 1) := by decide +kernel
theorem dX10_wantSights_28 : decode cX10_wantSights 28 = .ok (.invokevirtual 207, 3) := by decide +kernel
theorem dX10_wantSights_31 : decode cX10_wantSights 31 = .ok (.istore_n 3, 1) := by decide +kernel
theorem dX10_wantSights_32 : decode cX10_wantSights 32 = .ok (.iload_n 3, 1) := by decide +kernel
theorem dX10_wantSights_33 : decode cX10_wantSights 33 = .ok (.ifCond .lt 62, 3) := by decide +kernel
theorem dX10_wantSights_36 : decode cX10_wantSights 36 = .ok (.iload_n 3, 1) := by decide +kernel
theorem dX10_wantSights_37 : decode cX10_wantSights 37 = .ok (.aload_n 0, 1) := by decide +kernel
theorem dX10_wantSights_38 : decode cX10_wantSights 38 = .ok (.getfield 28, 3) := by decide +kernel
theorem dX10_wantSights_41 : decode cX10_wantSights 41 = .ok (.arraylength, 1) := by decide +kernel
theorem dX10_wantSights_42 : decode cX10_wantSights 42 = .ok (.if_icmp .ge 53, 3) := by decide +kernel
theorem dX10_wantSights_45 : decode cX10_wantSights 45 = .ok (.aload_n 0, 1) := by decide +kernel
theorem dX10_wantSights_46 : decode cX10_wantSights 46 = .ok (.getfield 40, 3) := by decide +kernel
theorem dX10_wantSights_49 : decode cX10_wantSights 49 = .ok (.iload_n 2, 1) := by decide +kernel
theorem dX10_wantSights_50 : decode cX10_wantSights 50 = .ok (.invokevirtual 210, 3) := by decide +kernel
theorem dX10_wantSights_53 : decode cX10_wantSights 53 = .ok (.istore 4, 2) := by decide +kernel
theorem dX10_wantSights_55 : decode cX10_wantSights 55 = .ok (.aload_n 0, 1) := by decide +kernel
theorem dX10_wantSights_56 : decode cX10_wantSights 56 = .ok (.getfield 28, 3) := by decide +kernel
theorem dX10_wantSights_59 : decode cX10_wantSights 59 = .ok (.iload_n 3, 1) := by decide +kernel
theorem dX10_wantSights_60 : decode cX10_wantSights 60 = .ok (.aload_n 0, 1) := by decide +kernel
theorem dX10_wantSights_61 : decode cX10_wantSights 61 = .ok (.getfield 28, 3) := by decide +kernel
theorem dX10_wantSights_64 : decode cX10_wantSights 64 = .ok (.iload_n 3, 1) := by decide +kernel
theorem dX10_wantSights_65 : decode cX10_wantSights 65 = .ok (.iaload, 1) := by decide +kernel
theorem dX10_wantSights_66 : decode cX10_wantSights 66 = .ok (.iconst (-1), 1) := by decide +kernel
theorem dX10_wantSights_67 : decode cX10_wantSights 67 = .ok (.if_icmp .eq 14, 3) := by decide +kernel
theorem dX10_wantSights_70 : decode cX10_wantSights 70 = .ok (.aload_n 0, 1) := by decide +kernel
theorem dX10_wantSights_71 : decode cX10_wantSights 71 = .ok (.getfield 28, 3) := by decide +kernel
theorem dX10_wantSights_74 : decode cX10_wantSights 74 = .ok (.iload_n 3, 1) := by decide +kernel
theorem dX10_wantSights_75 : decode cX10_wantSights 75 = .ok (.iaload, 1) := by decide +kernel
theorem dX10_wantSights_76 : decode cX10_wantSights 76 = .ok (.iload 4, 2) := by decide +kernel
theorem dX10_wantSights_78 : decode cX10_wantSights 78 = .ok (.if_icmp .ne 8, 3) := by decide +kernel
theorem dX10_wantSights_81 : decode cX10_wantSights 81 = .ok (.iload 4, 2) := by decide +kernel
theorem dX10_wantSights_83 : decode cX10_wantSights 83 = .ok (.goto 5, 3) := by decide +kernel
theorem dX10_wantSights_86 : decode cX10_wantSights 86 = .ok (.bipush 14, 2) := by decide +kernel
theorem dX10_wantSights_88 : decode cX10_wantSights 88 = .ok (.iastore, 1) := by decide +kernel
theorem dX10_wantSights_89 : decode cX10_wantSights 89 = .ok (.iload_n 1, 1) := by decide +kernel
theorem dX10_wantSights_90 : decode cX10_wantSights 90 = .ok (.iload_n 3, 1) := by decide +kernel
theorem dX10_wantSights_91 : decode cX10_wantSights 91 = .ok (.invokestatic 62, 3) := by decide +kernel
theorem dX10_wantSights_94 : decode cX10_wantSights 94 = .ok (.istore_n 1, 1) := by decide +kernel
theorem dX10_wantSights_95 : decode cX10_wantSights 95 = .ok (.iinc 2 1, 3) := by decide +kernel
theorem dX10_wantSights_98 : decode cX10_wantSights 98 = .ok (.goto (-86), 3) := by decide +kernel
theorem dX10_wantSights_101 : decode cX10_wantSights 101 = .ok (.iload_n 1, 1) := by decide +kernel
theorem dX10_wantSights_102 : decode cX10_wantSights 102 = .ok (.ireturn, 1) := by decide +kernel
theorem dX10_fitsSights_0 : decode cX10_fitsSights 0 = .ok (.iload_n 1, 1) := by decide +kernel
theorem dX10_fitsSights_1 : decode cX10_fitsSights 1 = .ok (.istore_n 3, 1) := by decide +kernel
theorem dX10_fitsSights_2 : decode cX10_fitsSights 2 = .ok (.iconst 0, 1) := by decide +kernel
theorem dX10_fitsSights_3 : decode cX10_fitsSights 3 = .ok (.istore 4, 2) := by decide +kernel
theorem dX10_fitsSights_5 : decode cX10_fitsSights 5 = .ok (.iload 4, 2) := by decide +kernel
theorem dX10_fitsSights_7 : decode cX10_fitsSights 7 = .ok (.iload_n 2, 1) := by decide +kernel
theorem dX10_fitsSights_8 : decode cX10_fitsSights 8 = .ok (.if_icmp .gt 62, 3) := by decide +kernel
theorem dX10_fitsSights_11 : decode cX10_fitsSights 11 = .ok (.iload 4, 2) := by decide +kernel
theorem dX10_fitsSights_13 : decode cX10_fitsSights 13 = .ok (.aload_n 0, 1) := by decide +kernel
theorem dX10_fitsSights_14 : decode cX10_fitsSights 14 = .ok (.getfield 28, 3) := by decide +kernel
theorem dX10_fitsSights_17 : decode cX10_fitsSights 17 = .ok (.arraylength, 1) := by decide +kernel
theorem dX10_fitsSights_18 : decode cX10_fitsSights 18 = .ok (.if_icmp .ge 52, 3) := by decide +kernel
theorem dX10_fitsSights_21 : decode cX10_fitsSights 21 = .ok (.iload 4, 2) := by decide +kernel
theorem dX10_fitsSights_23 : decode cX10_fitsSights 23 = .ok (.ifCond .le 9, 3) := by decide +kernel
theorem dX10_fitsSights_26 : decode cX10_fitsSights 26 = .ok (.aload_n 0, 1) := by decide +kernel
theorem dX10_fitsSights_27 : decode cX10_fitsSights 27 = .ok (.iload_n 3, 1) := by decide +kernel
theorem dX10_fitsSights_28 : decode cX10_fitsSights 28 = .ok (.invokevirtual 184, 3) := by decide +kernel
theorem dX10_fitsSights_31 : decode cX10_fitsSights 31 = .ok (.istore_n 3, 1) := by decide +kernel
theorem dX10_fitsSights_32 : decode cX10_fitsSights 32 = .ok (.iload_n 3, 1) := by decide +kernel
theorem dX10_fitsSights_33 : decode cX10_fitsSights 33 = .ok (.ifCond .lt 29, 3) := by decide +kernel
theorem dX10_fitsSights_36 : decode cX10_fitsSights 36 = .ok (.aload_n 0, 1) := by decide +kernel
theorem dX10_fitsSights_37 : decode cX10_fitsSights 37 = .ok (.getfield 28, 3) := by decide +kernel
theorem dX10_fitsSights_40 : decode cX10_fitsSights 40 = .ok (.iload 4, 2) := by decide +kernel
theorem dX10_fitsSights_42 : decode cX10_fitsSights 42 = .ok (.iaload, 1) := by decide +kernel
theorem dX10_fitsSights_43 : decode cX10_fitsSights 43 = .ok (.iconst (-1), 1) := by decide +kernel
theorem dX10_fitsSights_44 : decode cX10_fitsSights 44 = .ok (.if_icmp .eq 20, 3) := by decide +kernel
theorem dX10_fitsSights_47 : decode cX10_fitsSights 47 = .ok (.aload_n 0, 1) := by decide +kernel
theorem dX10_fitsSights_48 : decode cX10_fitsSights 48 = .ok (.getfield 28, 3) := by decide +kernel
theorem dX10_fitsSights_51 : decode cX10_fitsSights 51 = .ok (.iload 4, 2) := by decide +kernel
theorem dX10_fitsSights_53 : decode cX10_fitsSights 53 = .ok (.iaload, 1) := by decide +kernel
theorem dX10_fitsSights_54 : decode cX10_fitsSights 54 = .ok (.aload_n 0, 1) := by decide +kernel
theorem dX10_fitsSights_55 : decode cX10_fitsSights 55 = .ok (.iload_n 3, 1) := by decide +kernel
theorem dX10_fitsSights_56 : decode cX10_fitsSights 56 = .ok (.invokevirtual 213, 3) := by decide +kernel
theorem dX10_fitsSights_59 : decode cX10_fitsSights 59 = .ok (.if_icmp .eq 5, 3) := by decide +kernel
theorem dX10_fitsSights_62 : decode cX10_fitsSights 62 = .ok (.iconst 0, 1) := by decide +kernel
theorem dX10_fitsSights_63 : decode cX10_fitsSights 63 = .ok (.ireturn, 1) := by decide +kernel
theorem dX10_fitsSights_64 : decode cX10_fitsSights 64 = .ok (.iinc 4 1, 3) := by decide +kernel
theorem dX10_fitsSights_67 : decode cX10_fitsSights 67 = .ok (.goto (-62), 3) := by decide +kernel
theorem dX10_fitsSights_70 : decode cX10_fitsSights 70 = .ok (.iconst 1, 1) := by decide +kernel
theorem dX10_fitsSights_71 : decode cX10_fitsSights 71 = .ok (.ireturn, 1) := by decide +kernel
theorem dX11_init_0 : decode cX11_init 0 = .ok (.aload_n 0, 1) := by decide +kernel
theorem dX11_init_1 : decode cX11_init 1 = .ok (.invokespecial 1, 3) := by decide +kernel
theorem dX11_init_4 : decode cX11_init 4 = .ok (.aload_n 0, 1) := by decide +kernel
theorem dX11_init_5 : decode cX11_init 5 = .ok (.new 7, 3) := by decide +kernel
theorem dX11_init_8 : decode cX11_init 8 = .ok (.dup, 1) := by decide +kernel
theorem dX11_init_9 : decode cX11_init 9 = .ok (.invokespecial 9, 3) := by decide +kernel
theorem dX11_init_12 : decode cX11_init 12 = .ok (.putfield 10, 3) := by decide +kernel
theorem dX11_init_15 : decode cX11_init 15 = .ok (.aload_n 0, 1) := by decide +kernel
theorem dX11_init_16 : decode cX11_init 16 = .ok (.new 16, 3) := by decide +kernel
theorem dX11_init_19 : decode cX11_init 19 = .ok (.dup, 1) := by decide +kernel
theorem dX11_init_20 : decode cX11_init 20 = .ok (.invokespecial 18, 3) := by decide +kernel
theorem dX11_init_23 : decode cX11_init 23 = .ok (.putfield 19, 3) := by decide +kernel
theorem dX11_init_26 : decode cX11_init 26 = .ok (.aload_n 0, 1) := by decide +kernel
theorem dX11_init_27 : decode cX11_init 27 = .ok (.iconst 2, 1) := by decide +kernel
theorem dX11_init_28 : decode cX11_init 28 = .ok (.anewarray 16, 3) := by decide +kernel
theorem dX11_init_31 : decode cX11_init 31 = .ok (.putfield 23, 3) := by decide +kernel
theorem dX11_init_34 : decode cX11_init 34 = .ok (.iconst 0, 1) := by decide +kernel
theorem dX11_init_35 : decode cX11_init 35 = .ok (.istore_n 1, 1) := by decide +kernel
theorem dX11_init_36 : decode cX11_init 36 = .ok (.iload_n 1, 1) := by decide +kernel
theorem dX11_init_37 : decode cX11_init 37 = .ok (.aload_n 0, 1) := by decide +kernel
theorem dX11_init_38 : decode cX11_init 38 = .ok (.getfield 23, 3) := by decide +kernel
theorem dX11_init_41 : decode cX11_init 41 = .ok (.arraylength, 1) := by decide +kernel
theorem dX11_init_42 : decode cX11_init 42 = .ok (.if_icmp .ge 22, 3) := by decide +kernel
theorem dX11_init_45 : decode cX11_init 45 = .ok (.aload_n 0, 1) := by decide +kernel
theorem dX11_init_46 : decode cX11_init 46 = .ok (.getfield 23, 3) := by decide +kernel
theorem dX11_init_49 : decode cX11_init 49 = .ok (.iload_n 1, 1) := by decide +kernel
theorem dX11_init_50 : decode cX11_init 50 = .ok (.new 16, 3) := by decide +kernel
theorem dX11_init_53 : decode cX11_init 53 = .ok (.dup, 1) := by decide +kernel
theorem dX11_init_54 : decode cX11_init 54 = .ok (.invokespecial 18, 3) := by decide +kernel
theorem dX11_init_57 : decode cX11_init 57 = .ok (.aastore, 1) := by decide +kernel
theorem dX11_init_58 : decode cX11_init 58 = .ok (.iinc 1 1, 3) := by decide +kernel
theorem dX11_init_61 : decode cX11_init 61 = .ok (.goto (-25), 3) := by decide +kernel
theorem dX11_init_64 : decode cX11_init 64 = .ok (.aload_n 0, 1) := by decide +kernel
theorem dX11_init_65 : decode cX11_init 65 = .ok (.iconst 2, 1) := by decide +kernel
theorem dX11_init_66 : decode cX11_init 66 = .ok (.newarray .boolean, 2) := by decide +kernel
theorem dX11_init_68 : decode cX11_init 68 = .ok (.putfield 27, 3) := by decide +kernel
theorem dX11_init_71 : decode cX11_init 71 = .ok (.aload_n 0, 1) := by decide +kernel
theorem dX11_init_72 : decode cX11_init 72 = .ok (.new 31, 3) := by decide +kernel
theorem dX11_init_75 : decode cX11_init 75 = .ok (.dup, 1) := by decide +kernel
theorem dX11_init_76 : decode cX11_init 76 = .ok (.invokespecial 33, 3) := by decide +kernel
theorem dX11_init_79 : decode cX11_init 79 = .ok (.putfield 34, 3) := by decide +kernel
theorem dX11_init_82 : decode cX11_init 82 = .ok (.aload_n 0, 1) := by decide +kernel
theorem dX11_init_83 : decode cX11_init 83 = .ok (.new 38, 3) := by decide +kernel
theorem dX11_init_86 : decode cX11_init 86 = .ok (.dup, 1) := by decide +kernel
theorem dX11_init_87 : decode cX11_init 87 = .ok (.aload_n 0, 1) := by decide +kernel
theorem dX11_init_88 : decode cX11_init 88 = .ok (.getfield 10, 3) := by decide +kernel
theorem dX11_init_91 : decode cX11_init 91 = .ok (.invokespecial 40, 3) := by decide +kernel
theorem dX11_init_94 : decode cX11_init 94 = .ok (.putfield 43, 3) := by decide +kernel
theorem dX11_init_97 : decode cX11_init 97 = .ok (.aload_n 0, 1) := by decide +kernel
theorem dX11_init_98 : decode cX11_init 98 = .ok (.new 47, 3) := by decide +kernel
theorem dX11_init_101 : decode cX11_init 101 = .ok (.dup, 1) := by decide +kernel
theorem dX11_init_102 : decode cX11_init 102 = .ok (.aload_n 0, 1) := by decide +kernel
theorem dX11_init_103 : decode cX11_init 103 = .ok (.getfield 19, 3) := by decide +kernel
theorem dX11_init_106 : decode cX11_init 106 = .ok (.invokespecial 49, 3) := by decide +kernel
theorem dX11_init_109 : decode cX11_init 109 = .ok (.putfield 52, 3) := by decide +kernel
theorem dX11_init_112 : decode cX11_init 112 = .ok (.aload_n 0, 1) := by decide +kernel
theorem dX11_init_113 : decode cX11_init 113 = .ok (.new 56, 3) := by decide +kernel
theorem dX11_init_116 : decode cX11_init 116 = .ok (.dup, 1) := by decide +kernel
theorem dX11_init_117 : decode cX11_init 117 = .ok (.aload_n 0, 1) := by decide +kernel
theorem dX11_init_118 : decode cX11_init 118 = .ok (.getfield 19, 3) := by decide +kernel
theorem dX11_init_121 : decode cX11_init 121 = .ok (.aload_n 0, 1) := by decide +kernel
theorem dX11_init_122 : decode cX11_init 122 = .ok (.getfield 34, 3) := by decide +kernel
theorem dX11_init_125 : decode cX11_init 125 = .ok (.aload_n 0, 1) := by decide +kernel
theorem dX11_init_126 : decode cX11_init 126 = .ok (.getfield 52, 3) := by decide +kernel
theorem dX11_init_129 : decode cX11_init 129 = .ok (.invokespecial 58, 3) := by decide +kernel
theorem dX11_init_132 : decode cX11_init 132 = .ok (.putfield 61, 3) := by decide +kernel
theorem dX11_init_135 : decode cX11_init 135 = .ok (.aload_n 0, 1) := by decide +kernel
theorem dX11_init_136 : decode cX11_init 136 = .ok (.new 65, 3) := by decide +kernel
theorem dX11_init_139 : decode cX11_init 139 = .ok (.dup, 1) := by decide +kernel
theorem dX11_init_140 : decode cX11_init 140 = .ok (.aload_n 0, 1) := by decide +kernel
theorem dX11_init_141 : decode cX11_init 141 = .ok (.getfield 19, 3) := by decide +kernel
theorem dX11_init_144 : decode cX11_init 144 = .ok (.aload_n 0, 1) := by decide +kernel
theorem dX11_init_145 : decode cX11_init 145 = .ok (.getfield 52, 3) := by decide +kernel
theorem dX11_init_148 : decode cX11_init 148 = .ok (.invokespecial 67, 3) := by decide +kernel
theorem dX11_init_151 : decode cX11_init 151 = .ok (.putfield 70, 3) := by decide +kernel
theorem dX11_init_154 : decode cX11_init 154 = .ok (.aload_n 0, 1) := by decide +kernel
theorem dX11_init_155 : decode cX11_init 155 = .ok (.new 74, 3) := by decide +kernel
theorem dX11_init_158 : decode cX11_init 158 = .ok (.dup, 1) := by decide +kernel
theorem dX11_init_159 : decode cX11_init 159 = .ok (.invokespecial 76, 3) := by decide +kernel
theorem dX11_init_162 : decode cX11_init 162 = .ok (.putfield 77, 3) := by decide +kernel
theorem dX11_init_165 : decode cX11_init 165 = .ok (.aload_n 0, 1) := by decide +kernel
theorem dX11_init_166 : decode cX11_init 166 = .ok (.new 81, 3) := by decide +kernel
theorem dX11_init_169 : decode cX11_init 169 = .ok (.dup, 1) := by decide +kernel
theorem dX11_init_170 : decode cX11_init 170 = .ok (.aload_n 0, 1) := by decide +kernel
theorem dX11_init_171 : decode cX11_init 171 = .ok (.getfield 52, 3) := by decide +kernel
theorem dX11_init_174 : decode cX11_init 174 = .ok (.invokespecial 83, 3) := by decide +kernel
theorem dX11_init_177 : decode cX11_init 177 = .ok (.putfield 86, 3) := by decide +kernel
theorem dX11_init_180 : decode cX11_init 180 = .ok (.aload_n 0, 1) := by decide +kernel
theorem dX11_init_181 : decode cX11_init 181 = .ok (.new 90, 3) := by decide +kernel
theorem dX11_init_184 : decode cX11_init 184 = .ok (.dup, 1) := by decide +kernel
theorem dX11_init_185 : decode cX11_init 185 = .ok (.invokespecial 92, 3) := by decide +kernel
theorem dX11_init_188 : decode cX11_init 188 = .ok (.putfield 93, 3) := by decide +kernel
theorem dX11_init_191 : decode cX11_init 191 = .ok (.aload_n 0, 1) := by decide +kernel
theorem dX11_init_192 : decode cX11_init 192 = .ok (.bipush 7, 2) := by decide +kernel
theorem dX11_init_194 : decode cX11_init 194 = .ok (.newarray .int, 2) := by decide +kernel
theorem dX11_init_196 : decode cX11_init 196 = .ok (.putfield 97, 3) := by decide +kernel
theorem dX11_init_199 : decode cX11_init 199 = .ok (.aload_n 0, 1) := by decide +kernel
theorem dX11_init_200 : decode cX11_init 200 = .ok (.iconst (-1), 1) := by decide +kernel
theorem dX11_init_201 : decode cX11_init 201 = .ok (.putfield 101, 3) := by decide +kernel
theorem dX11_init_204 : decode cX11_init 204 = .ok (.aload_n 0, 1) := by decide +kernel
theorem dX11_init_205 : decode cX11_init 205 = .ok (.iconst 0, 1) := by decide +kernel
theorem dX11_init_206 : decode cX11_init 206 = .ok (.putfield 105, 3) := by decide +kernel
theorem dX11_init_209 : decode cX11_init 209 = .ok (.return_, 1) := by decide +kernel
theorem dX11_feed_0 : decode cX11_feed 0 = .ok (.aload_n 0, 1) := by decide +kernel
theorem dX11_feed_1 : decode cX11_feed 1 = .ok (.getfield 10, 3) := by decide +kernel
theorem dX11_feed_4 : decode cX11_feed 4 = .ok (.getfield 108, 3) := by decide +kernel
theorem dX11_feed_7 : decode cX11_feed 7 = .ok (.sipush 380, 3) := by decide +kernel
theorem dX11_feed_10 : decode cX11_feed 10 = .ok (.if_icmp .le 5, 3) := by decide +kernel
theorem dX11_feed_13 : decode cX11_feed 13 = .ok (.iconst (-1), 1) := by decide +kernel
theorem dX11_feed_14 : decode cX11_feed 14 = .ok (.ireturn, 1) := by decide +kernel
theorem dX11_feed_15 : decode cX11_feed 15 = .ok (.aload_n 0, 1) := by decide +kernel
theorem dX11_feed_16 : decode cX11_feed 16 = .ok (.getfield 10, 3) := by decide +kernel
theorem dX11_feed_19 : decode cX11_feed 19 = .ok (.iload_n 1, 1) := by decide +kernel
theorem dX11_feed_20 : decode cX11_feed 20 = .ok (.invokevirtual 111, 3) := by decide +kernel
theorem dX11_feed_23 : decode cX11_feed 23 = .ok (.aload_n 0, 1) := by decide +kernel
theorem dX11_feed_24 : decode cX11_feed 24 = .ok (.getfield 10, 3) := by decide +kernel
theorem dX11_feed_27 : decode cX11_feed 27 = .ok (.iload_n 2, 1) := by decide +kernel
theorem dX11_feed_28 : decode cX11_feed 28 = .ok (.invokevirtual 111, 3) := by decide +kernel
theorem dX11_feed_31 : decode cX11_feed 31 = .ok (.aload_n 0, 1) := by decide +kernel
theorem dX11_feed_32 : decode cX11_feed 32 = .ok (.getfield 10, 3) := by decide +kernel
theorem dX11_feed_35 : decode cX11_feed 35 = .ok (.iload_n 3, 1) := by decide +kernel
theorem dX11_feed_36 : decode cX11_feed 36 = .ok (.invokevirtual 111, 3) := by decide +kernel
theorem dX11_feed_39 : decode cX11_feed 39 = .ok (.aload_n 0, 1) := by decide +kernel
theorem dX11_feed_40 : decode cX11_feed 40 = .ok (.getfield 10, 3) := by decide +kernel
theorem dX11_feed_43 : decode cX11_feed 43 = .ok (.iload 4, 2) := by decide +kernel
theorem dX11_feed_45 : decode cX11_feed 45 = .ok (.invokevirtual 111, 3) := by decide +kernel
theorem dX11_feed_48 : decode cX11_feed 48 = .ok (.aload_n 0, 1) := by decide +kernel
theorem dX11_feed_49 : decode cX11_feed 49 = .ok (.getfield 10, 3) := by decide +kernel
theorem dX11_feed_52 : decode cX11_feed 52 = .ok (.iload 5, 2) := by decide +kernel
theorem dX11_feed_54 : decode cX11_feed 54 = .ok (.invokevirtual 111, 3) := by decide +kernel
theorem dX11_feed_57 : decode cX11_feed 57 = .ok (.aload_n 0, 1) := by decide +kernel
theorem dX11_feed_58 : decode cX11_feed 58 = .ok (.getfield 10, 3) := by decide +kernel
theorem dX11_feed_61 : decode cX11_feed 61 = .ok (.getfield 108, 3) := by decide +kernel
theorem dX11_feed_64 : decode cX11_feed 64 = .ok (.ireturn, 1) := by decide +kernel
theorem dX11_end_0 : decode cX11_end 0 = .ok (.iload_n 1, 1) := by decide +kernel
theorem dX11_end_1 : decode cX11_end 1 = .ok (.ifCond .lt 14, 3) := by decide +kernel
theorem dX11_end_4 : decode cX11_end 4 = .ok (.iload_n 1, 1) := by decide +kernel
theorem dX11_end_5 : decode cX11_end 5 = .ok (.aload_n 0, 1) := by decide +kernel
theorem dX11_end_6 : decode cX11_end 6 = .ok (.getfield 10, 3) := by decide +kernel
theorem dX11_end_9 : decode cX11_end 9 = .ok (.getfield 108, 3) := by decide +kernel
theorem dX11_end_12 : decode cX11_end 12 = .ok (.if_icmp .le 5, 3) := by decide +kernel
theorem dX11_end_15 : decode cX11_end 15 = .ok (.iconst (-1), 1) := by decide +kernel
theorem dX11_end_16 : decode cX11_end 16 = .ok (.ireturn, 1) := by decide +kernel
theorem dX11_end_17 : decode cX11_end 17 = .ok (.aload_n 0, 1) := by decide +kernel
theorem dX11_end_18 : decode cX11_end 18 = .ok (.getfield 10, 3) := by decide +kernel
theorem dX11_end_21 : decode cX11_end 21 = .ok (.iload_n 1, 1) := by decide +kernel
theorem dX11_end_22 : decode cX11_end 22 = .ok (.putfield 108, 3) := by decide +kernel
theorem dX11_end_25 : decode cX11_end 25 = .ok (.iload_n 1, 1) := by decide +kernel
theorem dX11_end_26 : decode cX11_end 26 = .ok (.ireturn, 1) := by decide +kernel
theorem dX11_heap_0 : decode cX11_heap 0 = .ok (.aload_n 0, 1) := by decide +kernel
theorem dX11_heap_1 : decode cX11_heap 1 = .ok (.getfield 10, 3) := by decide +kernel
theorem dX11_heap_4 : decode cX11_heap 4 = .ok (.getfield 108, 3) := by decide +kernel
theorem dX11_heap_7 : decode cX11_heap 7 = .ok (.istore_n 1, 1) := by decide +kernel
theorem dX11_heap_8 : decode cX11_heap 8 = .ok (.aload_n 0, 1) := by decide +kernel
theorem dX11_heap_9 : decode cX11_heap 9 = .ok (.getfield 10, 3) := by decide +kernel
theorem dX11_heap_12 : decode cX11_heap 12 = .ok (.iconst 0, 1) := by decide +kernel
theorem dX11_heap_13 : decode cX11_heap 13 = .ok (.putfield 108, 3) := by decide +kernel
theorem dX11_heap_16 : decode cX11_heap 16 = .ok (.aload_n 0, 1) := by decide +kernel
theorem dX11_heap_17 : decode cX11_heap 17 = .ok (.getfield 19, 3) := by decide +kernel
theorem dX11_heap_20 : decode cX11_heap 20 = .ok (.getfield 115, 3) := by decide +kernel
theorem dX11_heap_23 : decode cX11_heap 23 = .ok (.bipush 6, 2) := by decide +kernel
theorem dX11_heap_25 : decode cX11_heap 25 = .ok (.if_icmp .lt 10, 3) := by decide +kernel
theorem dX11_heap_28 : decode cX11_heap 28 = .ok (.aload_n 0, 1) := by decide +kernel
theorem dX11_heap_29 : decode cX11_heap 29 = .ok (.bipush (-5), 2) := by decide +kernel
theorem dX11_heap_31 : decode cX11_heap 31 = .ok (.invokevirtual 118, 3) := by decide +kernel
theorem dX11_heap_34 : decode cX11_heap 34 = .ok (.ireturn, 1) := by decide +kernel
theorem dX11_heap_35 : decode cX11_heap 35 = .ok (.aload_n 0, 1) := by decide +kernel
theorem dX11_heap_36 : decode cX11_heap 36 = .ok (.getfield 10, 3) := by decide +kernel
theorem dX11_heap_39 : decode cX11_heap 39 = .ok (.iload_n 1, 1) := by decide +kernel
theorem dX11_heap_40 : decode cX11_heap 40 = .ok (.invokevirtual 122, 3) := by decide +kernel
theorem dX11_heap_43 : decode cX11_heap 43 = .ok (.ifCond .ne 10, 3) := by decide +kernel
theorem dX11_heap_46 : decode cX11_heap 46 = .ok (.aload_n 0, 1) := by decide +kernel
theorem dX11_heap_47 : decode cX11_heap 47 = .ok (.bipush (-6), 2) := by decide +kernel
theorem dX11_heap_49 : decode cX11_heap 49 = .ok (.invokevirtual 118, 3) := by decide +kernel
theorem dX11_heap_52 : decode cX11_heap 52 = .ok (.ireturn, 1) := by decide +kernel
theorem dX11_heap_53 : decode cX11_heap 53 = .ok (.aload_n 0, 1) := by decide +kernel
theorem dX11_heap_54 : decode cX11_heap 54 = .ok (.getfield 34, 3) := by decide +kernel
theorem dX11_heap_57 : decode cX11_heap 57 = .ok (.invokevirtual 126, 3) := by decide +kernel
theorem dX11_heap_60 : decode cX11_heap 60 = .ok (.aload_n 0, 1) := by decide +kernel
theorem dX11_heap_61 : decode cX11_heap 61 = .ok (.aload_n 0, 1) := by decide +kernel
theorem dX11_heap_62 : decode cX11_heap 62 = .ok (.getfield 19, 3) := by decide +kernel
theorem dX11_heap_65 : decode cX11_heap 65 = .ok (.aload_n 0, 1) := by decide +kernel
theorem dX11_heap_66 : decode cX11_heap 66 = .ok (.getfield 10, 3) := by decide +kernel
theorem dX11_heap_69 : decode cX11_heap 69 = .ok (.getfield 129, 3) := by decide +kernel
theorem dX11_heap_72 : decode cX11_heap 72 = .ok (.iload_n 1, 1) := by decide +kernel
theorem dX11_heap_73 : decode cX11_heap 73 = .ok (.invokevirtual 133, 3) := by decide +kernel
theorem dX11_heap_76 : decode cX11_heap 76 = .ok (.invokevirtual 137, 3) := by decide +kernel
theorem dX11_heap_79 : decode cX11_heap 79 = .ok (.ireturn, 1) := by decide +kernel
theorem dX11_of_0 : decode cX11_of 0 = .ok (.aload_n 0, 1) := by decide +kernel
theorem dX11_of_1 : decode cX11_of 1 = .ok (.getfield 19, 3) := by decide +kernel
theorem dX11_of_4 : decode cX11_of 4 = .ok (.iload_n 1, 1) := by decide +kernel
theorem dX11_of_5 : decode cX11_of 5 = .ok (.invokevirtual 140, 3) := by decide +kernel
theorem dX11_of_8 : decode cX11_of 8 = .ok (.astore_n 3, 1) := by decide +kernel
theorem dX11_of_9 : decode cX11_of 9 = .ok (.aload_n 3, 1) := by decide +kernel
theorem dX11_of_10 : decode cX11_of 10 = .ok (.ifnull 7, 3) := by decide +kernel
theorem dX11_of_13 : decode cX11_of 13 = .ok (.iload_n 2, 1) := by decide +kernel
theorem dX11_of_14 : decode cX11_of 14 = .ok (.ifCond .ge 7, 3) := by decide +kernel
theorem dX11_of_17 : decode cX11_of 17 = .ok (.sipush (-1001), 3) := by decide +kernel
theorem dX11_of_20 : decode cX11_of 20 = .ok (.ireturn, 1) := by decide +kernel
theorem dX11_of_21 : decode cX11_of 21 = .ok (.iload_n 2, 1) := by decide +kernel
theorem dX11_of_22 : decode cX11_of 22 = .ok (.tableswitch 132 0 6 #[42, 47, 52, 57, 74, 92, 112], 42) := by decide +kernel
theorem dX11_of_64 : decode cX11_of 64 = .ok (.aload_n 3, 1) := by decide +kernel
theorem dX11_of_65 : decode cX11_of 65 = .ok (.getfield 144, 3) := by decide +kernel
theorem dX11_of_68 : decode cX11_of 68 = .ok (.ireturn, 1) := by decide +kernel
theorem dX11_of_69 : decode cX11_of 69 = .ok (.aload_n 3, 1) := by decide +kernel
theorem dX11_of_70 : decode cX11_of 70 = .ok (.getfield 145, 3) := by decide +kernel
theorem dX11_of_73 : decode cX11_of 73 = .ok (.ireturn, 1) := by decide +kernel
theorem dX11_of_74 : decode cX11_of 74 = .ok (.aload_n 3, 1) := by decide +kernel
theorem dX11_of_75 : decode cX11_of 75 = .ok (.getfield 148, 3) := by decide +kernel
theorem dX11_of_78 : decode cX11_of 78 = .ok (.ireturn, 1) := by decide +kernel
theorem dX11_of_79 : decode cX11_of 79 = .ok (.aload_n 0, 1) := by decide +kernel
theorem dX11_of_80 : decode cX11_of 80 = .ok (.getfield 52, 3) := by decide +kernel
theorem dX11_of_83 : decode cX11_of 83 = .ok (.aload_n 3, 1) := by decide +kernel
theorem dX11_of_84 : decode cX11_of 84 = .ok (.invokevirtual 151, 3) := by decide +kernel
theorem dX11_of_87 : decode cX11_of 87 = .ok (.ifCond .ne 7, 3) := by decide +kernel
theorem dX11_of_90 : decode cX11_of 90 = .ok (.iconst 1, 1) := by decide +kernel
theorem dX11_of_91 : decode cX11_of 91 = .ok (.goto 4, 3) := by decide +kernel
theorem dX11_of_94 : decode cX11_of 94 = .ok (.iconst 0, 1) := by decide +kernel
theorem dX11_of_95 : decode cX11_of 95 = .ok (.ireturn, 1) := by decide +kernel
theorem dX11_of_96 : decode cX11_of 96 = .ok (.aload_n 0, 1) := by decide +kernel
theorem dX11_of_97 : decode cX11_of 97 = .ok (.getfield 52, 3) := by decide +kernel
theorem dX11_of_100 : decode cX11_of 100 = .ok (.aload_n 3, 1) := by decide +kernel
theorem dX11_of_101 : decode cX11_of 101 = .ok (.invokevirtual 151, 3) := by decide +kernel
theorem dX11_of_104 : decode cX11_of 104 = .ok (.iconst 1, 1) := by decide +kernel
theorem dX11_of_105 : decode cX11_of 105 = .ok (.if_icmp .ne 7, 3) := by decide +kernel
theorem dX11_of_108 : decode cX11_of 108 = .ok (.iconst 1, 1) := by decide +kernel
theorem dX11_of_109 : decode cX11_of 109 = .ok (.goto 4, 3) := by decide +kernel
theorem dX11_of_112 : decode cX11_of 112 = .ok (.iconst 0, 1) := by decide +kernel
theorem dX11_of_113 : decode cX11_of 113 = .ok (.ireturn, 1) := by decide +kernel
theorem dX11_of_114 : decode cX11_of 114 = .ok (.aload_n 0, 1) := by decide +kernel
theorem dX11_of_115 : decode cX11_of 115 = .ok (.getfield 52, 3) := by decide +kernel
theorem dX11_of_118 : decode cX11_of 118 = .ok (.aload_n 3, 1) := by decide +kernel
theorem dX11_of_119 : decode cX11_of 119 = .ok (.invokevirtual 151, 3) := by decide +kernel
theorem dX11_of_122 : decode cX11_of 122 = .ok (.pop, 1) := by decide +kernel
theorem dX11_of_123 : decode cX11_of 123 = .ok (.aload_n 0, 1) := by decide +kernel
theorem dX11_of_124 : decode cX11_of 124 = .ok (.getfield 52, 3) := by decide +kernel
theorem dX11_of_127 : decode cX11_of 127 = .ok (.getfield 155, 3) := by decide +kernel
theorem dX11_of_130 : decode cX11_of 130 = .ok (.invokestatic 158, 3) := by decide +kernel
theorem dX11_of_133 : decode cX11_of 133 = .ok (.ireturn, 1) := by decide +kernel
theorem dX11_of_134 : decode cX11_of 134 = .ok (.aload_n 0, 1) := by decide +kernel
theorem dX11_of_135 : decode cX11_of 135 = .ok (.getfield 52, 3) := by decide +kernel
theorem dX11_of_138 : decode cX11_of 138 = .ok (.aload_n 3, 1) := by decide +kernel
theorem dX11_of_139 : decode cX11_of 139 = .ok (.invokevirtual 151, 3) := by decide +kernel
theorem dX11_of_142 : decode cX11_of 142 = .ok (.pop, 1) := by decide +kernel
theorem dX11_of_143 : decode cX11_of 143 = .ok (.aload_n 0, 1) := by decide +kernel
theorem dX11_of_144 : decode cX11_of 144 = .ok (.getfield 52, 3) := by decide +kernel
theorem dX11_of_147 : decode cX11_of 147 = .ok (.getfield 161, 3) := by decide +kernel
theorem dX11_of_150 : decode cX11_of 150 = .ok (.invokestatic 158, 3) := by decide +kernel
theorem dX11_of_153 : decode cX11_of 153 = .ok (.ireturn, 1) := by decide +kernel
theorem dX11_of_154 : decode cX11_of 154 = .ok (.iload_n 2, 1) := by decide +kernel
theorem dX11_of_155 : decode cX11_of 155 = .ok (.bipush 7, 2) := by decide +kernel
theorem dX11_of_157 : decode cX11_of 157 = .ok (.isub, 1) := by decide +kernel
theorem dX11_of_158 : decode cX11_of 158 = .ok (.aload_n 3, 1) := by decide +kernel
theorem dX11_of_159 : decode cX11_of 159 = .ok (.getfield 144, 3) := by decide +kernel
theorem dX11_of_162 : decode cX11_of 162 = .ok (.if_icmp .ge 14, 3) := by decide +kernel
theorem dX11_of_165 : decode cX11_of 165 = .ok (.aload_n 3, 1) := by decide +kernel
theorem dX11_of_166 : decode cX11_of 166 = .ok (.iload_n 2, 1) := by decide +kernel
theorem dX11_of_167 : decode cX11_of 167 = .ok (.bipush 7, 2) := by decide +kernel
theorem dX11_of_169 : decode cX11_of 169 = .ok (.isub, 1) := by decide +kernel
theorem dX11_of_170 : decode cX11_of 170 = .ok (.invokevirtual 164, 3) := by decide +kernel
theorem dX11_of_173 : decode cX11_of 173 = .ok (.goto 6, 3) := by decide +kernel
theorem dX11_of_176 : decode cX11_of 176 = .ok (.sipush (-1001), 3) := by decide +kernel
theorem dX11_of_179 : decode cX11_of 179 = .ok (.ireturn, 1) := by decide +kernel
theorem dX11_terms_0 : decode cX11_terms 0 = .ok (.iload_n 1, 1) := by decide +kernel
theorem dX11_terms_1 : decode cX11_terms 1 = .ok (.ifCond .ne 32, 3) := by decide +kernel
theorem dX11_terms_4 : decode cX11_terms 4 = .ok (.iload_n 2, 1) := by decide +kernel
theorem dX11_terms_5 : decode cX11_terms 5 = .ok (.ifCond .lt 28, 3) := by decide +kernel
theorem dX11_terms_8 : decode cX11_terms 8 = .ok (.iload_n 2, 1) := by decide +kernel
theorem dX11_terms_9 : decode cX11_terms 9 = .ok (.bipush 9, 2) := by decide +kernel
theorem dX11_terms_11 : decode cX11_terms 11 = .ok (.if_icmp .gt 22, 3) := by decide +kernel
theorem dX11_terms_14 : decode cX11_terms 14 = .ok (.aload_n 0, 1) := by decide +kernel
theorem dX11_terms_15 : decode cX11_terms 15 = .ok (.getfield 19, 3) := by decide +kernel
theorem dX11_terms_18 : decode cX11_terms 18 = .ok (.getfield 167, 3) := by decide +kernel
theorem dX11_terms_21 : decode cX11_terms 21 = .ok (.istore_n 3, 1) := by decide +kernel
theorem dX11_terms_22 : decode cX11_terms 22 = .ok (.aload_n 0, 1) := by decide +kernel
theorem dX11_terms_23 : decode cX11_terms 23 = .ok (.getfield 19, 3) := by decide +kernel
theorem dX11_terms_26 : decode cX11_terms 26 = .ok (.iload_n 2, 1) := by decide +kernel
theorem dX11_terms_27 : decode cX11_terms 27 = .ok (.putfield 167, 3) := by decide +kernel
theorem dX11_terms_30 : decode cX11_terms 30 = .ok (.goto 45, 3) := by decide +kernel
theorem dX11_terms_33 : decode cX11_terms 33 = .ok (.iload_n 1, 1) := by decide +kernel
theorem dX11_terms_34 : decode cX11_terms 34 = .ok (.iconst 1, 1) := by decide +kernel
theorem dX11_terms_35 : decode cX11_terms 35 = .ok (.if_icmp .ne 34, 3) := by decide +kernel
theorem dX11_terms_38 : decode cX11_terms 38 = .ok (.iload_n 2, 1) := by decide +kernel
theorem dX11_terms_39 : decode cX11_terms 39 = .ok (.iconst 1, 1) := by decide +kernel
theorem dX11_terms_40 : decode cX11_terms 40 = .ok (.if_icmp .lt 29, 3) := by decide +kernel
theorem dX11_terms_43 : decode cX11_terms 43 = .ok (.iload_n 2, 1) := by decide +kernel
theorem dX11_terms_44 : decode cX11_terms 44 = .ok (.sipush 300, 3) := by decide +kernel
theorem dX11_terms_47 : decode cX11_terms 47 = .ok (.if_icmp .gt 22, 3) := by decide +kernel
theorem dX11_terms_50 : decode cX11_terms 50 = .ok (.aload_n 0, 1) := by decide +kernel
theorem dX11_terms_51 : decode cX11_terms 51 = .ok (.getfield 19, 3) := by decide +kernel
theorem dX11_terms_54 : decode cX11_terms 54 = .ok (.getfield 170, 3) := by decide +kernel
theorem dX11_terms_57 : decode cX11_terms 57 = .ok (.istore_n 3, 1) := by decide +kernel
theorem dX11_terms_58 : decode cX11_terms 58 = .ok (.aload_n 0, 1) := by decide +kernel
theorem dX11_terms_59 : decode cX11_terms 59 = .ok (.getfield 19, 3) := by decide +kernel
theorem dX11_terms_62 : decode cX11_terms 62 = .ok (.iload_n 2, 1) := by decide +kernel
theorem dX11_terms_63 : decode cX11_terms 63 = .ok (.putfield 170, 3) := by decide +kernel
theorem dX11_terms_66 : decode cX11_terms 66 = .ok (.goto 9, 3) := by decide +kernel
theorem dX11_terms_69 : decode cX11_terms 69 = .ok (.aload_n 0, 1) := by decide +kernel
theorem dX11_terms_70 : decode cX11_terms 70 = .ok (.iconst (-1), 1) := by decide +kernel
theorem dX11_terms_71 : decode cX11_terms 71 = .ok (.invokevirtual 118, 3) := by decide +kernel
theorem dX11_terms_74 : decode cX11_terms 74 = .ok (.ireturn, 1) := by decide +kernel
theorem dX11_terms_75 : decode cX11_terms 75 = .ok (.aload_n 0, 1) := by decide +kernel
theorem dX11_terms_76 : decode cX11_terms 76 = .ok (.getfield 34, 3) := by decide +kernel
theorem dX11_terms_79 : decode cX11_terms 79 = .ok (.invokevirtual 126, 3) := by decide +kernel
theorem dX11_terms_82 : decode cX11_terms 82 = .ok (.aload_n 0, 1) := by decide +kernel
theorem dX11_terms_83 : decode cX11_terms 83 = .ok (.iload_n 3, 1) := by decide +kernel
theorem dX11_terms_84 : decode cX11_terms 84 = .ok (.invokevirtual 137, 3) := by decide +kernel
theorem dX11_terms_87 : decode cX11_terms 87 = .ok (.ireturn, 1) := by decide +kernel
theorem dX11_law_0 : decode cX11_law 0 = .ok (.aload_n 0, 1) := by decide +kernel
theorem dX11_law_1 : decode cX11_law 1 = .ok (.getfield 19, 3) := by decide +kernel
theorem dX11_law_4 : decode cX11_law 4 = .ok (.getfield 173, 3) := by decide +kernel
theorem dX11_law_7 : decode cX11_law 7 = .ok (.bipush 6, 2) := by decide +kernel
theorem dX11_law_9 : decode cX11_law 9 = .ok (.if_icmp .lt 18, 3) := by decide +kernel
theorem dX11_law_12 : decode cX11_law 12 = .ok (.aload_n 0, 1) := by decide +kernel
theorem dX11_law_13 : decode cX11_law 13 = .ok (.getfield 10, 3) := by decide +kernel
theorem dX11_law_16 : decode cX11_law 16 = .ok (.iconst 0, 1) := by decide +kernel
theorem dX11_law_17 : decode cX11_law 17 = .ok (.putfield 108, 3) := by decide +kernel
theorem dX11_law_20 : decode cX11_law 20 = .ok (.aload_n 0, 1) := by decide +kernel
theorem dX11_law_21 : decode cX11_law 21 = .ok (.bipush (-5), 2) := by decide +kernel
theorem dX11_law_23 : decode cX11_law 23 = .ok (.invokevirtual 118, 3) := by decide +kernel
theorem dX11_law_26 : decode cX11_law 26 = .ok (.ireturn, 1) := by decide +kernel
theorem dX11_law_27 : decode cX11_law 27 = .ok (.aload_n 0, 1) := by decide +kernel
theorem dX11_law_28 : decode cX11_law 28 = .ok (.aload_n 0, 1) := by decide +kernel
theorem dX11_law_29 : decode cX11_law 29 = .ok (.getfield 43, 3) := by decide +kernel
theorem dX11_law_32 : decode cX11_law 32 = .ok (.iconst 0, 1) := by decide +kernel
theorem dX11_law_33 : decode cX11_law 33 = .ok (.invokevirtual 176, 3) := by decide +kernel
theorem dX11_law_36 : decode cX11_law 36 = .ok (.putfield 101, 3) := by decide +kernel
theorem dX11_law_39 : decode cX11_law 39 = .ok (.aload_n 0, 1) := by decide +kernel
theorem dX11_law_40 : decode cX11_law 40 = .ok (.getfield 10, 3) := by decide +kernel
theorem dX11_law_43 : decode cX11_law 43 = .ok (.iconst 0, 1) := by decide +kernel
theorem dX11_law_44 : decode cX11_law 44 = .ok (.putfield 108, 3) := by decide +kernel
theorem dX11_law_47 : decode cX11_law 47 = .ok (.aload_n 0, 1) := by decide +kernel
theorem dX11_law_48 : decode cX11_law 48 = .ok (.getfield 101, 3) := by decide +kernel
theorem dX11_law_51 : decode cX11_law 51 = .ok (.iconst (-1), 1) := by decide +kernel
theorem dX11_law_52 : decode cX11_law 52 = .ok (.if_icmp .eq 10, 3) := by decide +kernel
theorem dX11_law_55 : decode cX11_law 55 = .ok (.aload_n 0, 1) := by decide +kernel
theorem dX11_law_56 : decode cX11_law 56 = .ok (.bipush (-6), 2) := by decide +kernel
theorem dX11_law_58 : decode cX11_law 58 = .ok (.invokevirtual 118, 3) := by decide +kernel
theorem dX11_law_61 : decode cX11_law 61 = .ok (.ireturn, 1) := by decide +kernel
theorem dX11_law_62 : decode cX11_law 62 = .ok (.aload_n 0, 1) := by decide +kernel
theorem dX11_law_63 : decode cX11_law 63 = .ok (.aload_n 0, 1) := by decide +kernel
theorem dX11_law_64 : decode cX11_law 64 = .ok (.getfield 19, 3) := by decide +kernel
theorem dX11_law_67 : decode cX11_law 67 = .ok (.aload_n 0, 1) := by decide +kernel
theorem dX11_law_68 : decode cX11_law 68 = .ok (.getfield 43, 3) := by decide +kernel
theorem dX11_law_71 : decode cX11_law 71 = .ok (.getfield 180, 3) := by decide +kernel
theorem dX11_law_74 : decode cX11_law 74 = .ok (.invokevirtual 184, 3) := by decide +kernel
theorem dX11_law_77 : decode cX11_law 77 = .ok (.invokevirtual 190, 3) := by decide +kernel
theorem dX11_law_80 : decode cX11_law 80 = .ok (.invokevirtual 137, 3) := by decide +kernel
theorem dX11_law_83 : decode cX11_law 83 = .ok (.ireturn, 1) := by decide +kernel
theorem dX11_orders_0 : decode cX11_orders 0 = .ok (.aload_n 0, 1) := by decide +kernel
theorem dX11_orders_1 : decode cX11_orders 1 = .ok (.getfield 61, 3) := by decide +kernel
theorem dX11_orders_4 : decode cX11_orders 4 = .ok (.iconst (-1), 1) := by decide +kernel
theorem dX11_orders_5 : decode cX11_orders 5 = .ok (.putfield 194, 3) := by decide +kernel
theorem dX11_orders_8 : decode cX11_orders 8 = .ok (.aload_n 0, 1) := by decide +kernel
theorem dX11_orders_9 : decode cX11_orders 9 = .ok (.aload_n 0, 1) := by decide +kernel
theorem dX11_orders_10 : decode cX11_orders 10 = .ok (.getfield 43, 3) := by decide +kernel
theorem dX11_orders_13 : decode cX11_orders 13 = .ok (.iconst 1, 1) := by decide +kernel
theorem dX11_orders_14 : decode cX11_orders 14 = .ok (.invokevirtual 176, 3) := by decide +kernel
theorem dX11_orders_17 : decode cX11_orders 17 = .ok (.putfield 101, 3) := by decide +kernel
theorem dX11_orders_20 : decode cX11_orders 20 = .ok (.aload_n 0, 1) := by decide +kernel
theorem dX11_orders_21 : decode cX11_orders 21 = .ok (.getfield 10, 3) := by decide +kernel
theorem dX11_orders_24 : decode cX11_orders 24 = .ok (.iconst 0, 1) := by decide +kernel
theorem dX11_orders_25 : decode cX11_orders 25 = .ok (.putfield 108, 3) := by decide +kernel
theorem dX11_orders_28 : decode cX11_orders 28 = .ok (.aload_n 0, 1) := by decide +kernel
theorem dX11_orders_29 : decode cX11_orders 29 = .ok (.getfield 101, 3) := by decide +kernel
theorem dX11_orders_32 : decode cX11_orders 32 = .ok (.iconst (-1), 1) := by decide +kernel
theorem dX11_orders_33 : decode cX11_orders 33 = .ok (.if_icmp .eq 10, 3) := by decide +kernel
theorem dX11_orders_36 : decode cX11_orders 36 = .ok (.aload_n 0, 1) := by decide +kernel
theorem dX11_orders_37 : decode cX11_orders 37 = .ok (.bipush (-6), 2) := by decide +kernel
theorem dX11_orders_39 : decode cX11_orders 39 = .ok (.invokevirtual 118, 3) := by decide +kernel
theorem dX11_orders_42 : decode cX11_orders 42 = .ok (.ireturn, 1) := by decide +kernel
theorem dX11_orders_43 : decode cX11_orders 43 = .ok (.aload_n 0, 1) := by decide +kernel
theorem dX11_orders_44 : decode cX11_orders 44 = .ok (.getfield 61, 3) := by decide +kernel
theorem dX11_orders_47 : decode cX11_orders 47 = .ok (.aload_n 0, 1) := by decide +kernel
theorem dX11_orders_48 : decode cX11_orders 48 = .ok (.getfield 43, 3) := by decide +kernel
theorem dX11_orders_51 : decode cX11_orders 51 = .ok (.getfield 180, 3) := by decide +kernel
theorem dX11_orders_54 : decode cX11_orders 54 = .ok (.invokevirtual 197, 3) := by decide +kernel
theorem dX11_orders_57 : decode cX11_orders 57 = .ok (.istore_n 1, 1) := by decide +kernel
theorem dX11_orders_58 : decode cX11_orders 58 = .ok (.iload_n 1, 1) := by decide +kernel
theorem dX11_orders_59 : decode cX11_orders 59 = .ok (.ifCond .ge 11, 3) := by decide +kernel
theorem dX11_orders_62 : decode cX11_orders 62 = .ok (.aload_n 0, 1) := by decide +kernel
theorem dX11_orders_63 : decode cX11_orders 63 = .ok (.iload_n 1, 1) := by decide +kernel
theorem dX11_orders_64 : decode cX11_orders 64 = .ok (.invokevirtual 118, 3) := by decide +kernel
theorem dX11_orders_67 : decode cX11_orders 67 = .ok (.goto 8, 3) := by decide +kernel
theorem dX11_orders_70 : decode cX11_orders 70 = .ok (.aload_n 0, 1) := by decide +kernel
theorem dX11_orders_71 : decode cX11_orders 71 = .ok (.iload_n 1, 1) := by decide +kernel
theorem dX11_orders_72 : decode cX11_orders 72 = .ok (.invokevirtual 137, 3) := by decide +kernel
theorem dX11_orders_75 : decode cX11_orders 75 = .ok (.ireturn, 1) := by decide +kernel
theorem dX11_fault_0 : decode cX11_fault 0 = .ok (.aload_n 0, 1) := by decide +kernel
theorem dX11_fault_1 : decode cX11_fault 1 = .ok (.getfield 101, 3) := by decide +kernel
theorem dX11_fault_4 : decode cX11_fault 4 = .ok (.ireturn, 1) := by decide +kernel
theorem dX11_stopped_0 : decode cX11_stopped 0 = .ok (.aload_n 0, 1) := by decide +kernel
theorem dX11_stopped_1 : decode cX11_stopped 1 = .ok (.getfield 61, 3) := by decide +kernel
theorem dX11_stopped_4 : decode cX11_stopped 4 = .ok (.getfield 194, 3) := by decide +kernel
theorem dX11_stopped_7 : decode cX11_stopped 7 = .ok (.ireturn, 1) := by decide +kernel
theorem dX11_force_0 : decode cX11_force 0 = .ok (.iload_n 1, 1) := by decide +kernel
theorem dX11_force_1 : decode cX11_force 1 = .ok (.iconst (-1), 1) := by decide +kernel
theorem dX11_force_2 : decode cX11_force 2 = .ok (.if_icmp .lt 14, 3) := by decide +kernel
theorem dX11_force_5 : decode cX11_force 5 = .ok (.iload_n 1, 1) := by decide +kernel
theorem dX11_force_6 : decode cX11_force 6 = .ok (.aload_n 0, 1) := by decide +kernel
theorem dX11_force_7 : decode cX11_force 7 = .ok (.getfield 19, 3) := by decide +kernel
theorem dX11_force_10 : decode cX11_force 10 = .ok (.getfield 173, 3) := by decide +kernel
theorem dX11_force_13 : decode cX11_force 13 = .ok (.if_icmp .lt 10, 3) := by decide +kernel
theorem dX11_force_16 : decode cX11_force 16 = .ok (.aload_n 0, 1) := by decide +kernel
theorem dX11_force_17 : decode cX11_force 17 = .ok (.bipush (-2), 2) := by decide +kernel
theorem dX11_force_19 : decode cX11_force 19 = .ok (.invokevirtual 118, 3) := by decide +kernel
theorem dX11_force_22 : decode cX11_force 22 = .ok (.ireturn, 1) := by decide +kernel
theorem dX11_force_23 : decode cX11_force 23 = .ok (.aload_n 0, 1) := by decide +kernel
theorem dX11_force_24 : decode cX11_force 24 = .ok (.getfield 19, 3) := by decide +kernel
theorem dX11_force_27 : decode cX11_force 27 = .ok (.getfield 200, 3) := by decide +kernel
theorem dX11_force_30 : decode cX11_force 30 = .ok (.istore_n 2, 1) := by decide +kernel
theorem dX11_force_31 : decode cX11_force 31 = .ok (.aload_n 0, 1) := by decide +kernel
theorem dX11_force_32 : decode cX11_force 32 = .ok (.getfield 19, 3) := by decide +kernel
theorem dX11_force_35 : decode cX11_force 35 = .ok (.iload_n 1, 1) := by decide +kernel
theorem dX11_force_36 : decode cX11_force 36 = .ok (.putfield 200, 3) := by decide +kernel
theorem dX11_force_39 : decode cX11_force 39 = .ok (.aload_n 0, 1) := by decide +kernel
theorem dX11_force_40 : decode cX11_force 40 = .ok (.iload_n 2, 1) := by decide +kernel
theorem dX11_force_41 : decode cX11_force 41 = .ok (.invokevirtual 137, 3) := by decide +kernel
theorem dX11_force_44 : decode cX11_force 44 = .ok (.ireturn, 1) := by decide +kernel
theorem dX11_step_0 : decode cX11_step 0 = .ok (.aload_n 0, 1) := by decide +kernel
theorem dX11_step_1 : decode cX11_step 1 = .ok (.getfield 61, 3) := by decide +kernel
theorem dX11_step_4 : decode cX11_step 4 = .ok (.iload_n 1, 1) := by decide +kernel
theorem dX11_step_5 : decode cX11_step 5 = .ok (.invokevirtual 203, 3) := by decide +kernel
theorem dX11_step_8 : decode cX11_step 8 = .ok (.istore_n 2, 1) := by decide +kernel
theorem dX11_step_9 : decode cX11_step 9 = .ok (.iload_n 2, 1) := by decide +kernel
theorem dX11_step_10 : decode cX11_step 10 = .ok (.ifCond .ge 11, 3) := by decide +kernel
theorem dX11_step_13 : decode cX11_step 13 = .ok (.aload_n 0, 1) := by decide +kernel
theorem dX11_step_14 : decode cX11_step 14 = .ok (.iload_n 2, 1) := by decide +kernel
theorem dX11_step_15 : decode cX11_step 15 = .ok (.invokevirtual 118, 3) := by decide +kernel
theorem dX11_step_18 : decode cX11_step 18 = .ok (.goto 8, 3) := by decide +kernel
theorem dX11_step_21 : decode cX11_step 21 = .ok (.aload_n 0, 1) := by decide +kernel
theorem dX11_step_22 : decode cX11_step 22 = .ok (.iload_n 2, 1) := by decide +kernel
theorem dX11_step_23 : decode cX11_step 23 = .ok (.invokevirtual 137, 3) := by decide +kernel
theorem dX11_step_26 : decode cX11_step 26 = .ok (.ireturn, 1) := by decide +kernel
theorem dX11_swap_0 : decode cX11_swap 0 = .ok (.aload_n 0, 1) := by decide +kernel
theorem dX11_swap_1 : decode cX11_swap 1 = .ok (.getfield 61, 3) := by decide +kernel
theorem dX11_swap_4 : decode cX11_swap 4 = .ok (.iload_n 1, 1) := by decide +kernel
theorem dX11_swap_5 : decode cX11_swap 5 = .ok (.iload_n 2, 1) := by decide +kernel
theorem dX11_swap_6 : decode cX11_swap 6 = .ok (.iload_n 3, 1) := by decide +kernel
theorem dX11_swap_7 : decode cX11_swap 7 = .ok (.invokevirtual 206, 3) := by decide +kernel
theorem dX11_swap_10 : decode cX11_swap 10 = .ok (.istore 4, 2) := by decide +kernel
theorem dX11_swap_12 : decode cX11_swap 12 = .ok (.iload 4, 2) := by decide +kernel
theorem dX11_swap_14 : decode cX11_swap 14 = .ok (.ifCond .ge 12, 3) := by decide +kernel
theorem dX11_swap_17 : decode cX11_swap 17 = .ok (.aload_n 0, 1) := by decide +kernel
theorem dX11_swap_18 : decode cX11_swap 18 = .ok (.iload 4, 2) := by decide +kernel
theorem dX11_swap_20 : decode cX11_swap 20 = .ok (.invokevirtual 118, 3) := by decide +kernel
theorem dX11_swap_23 : decode cX11_swap 23 = .ok (.goto 9, 3) := by decide +kernel
theorem dX11_swap_26 : decode cX11_swap 26 = .ok (.aload_n 0, 1) := by decide +kernel
theorem dX11_swap_27 : decode cX11_swap 27 = .ok (.iload 4, 2) := by decide +kernel
theorem dX11_swap_29 : decode cX11_swap 29 = .ok (.invokevirtual 137, 3) := by decide +kernel
theorem dX11_swap_32 : decode cX11_swap 32 = .ok (.ireturn, 1) := by decide +kernel
theorem dX11_cut_0 : decode cX11_cut 0 = .ok (.aload_n 0, 1) := by decide +kernel
theorem dX11_cut_1 : decode cX11_cut 1 = .ok (.getfield 61, 3) := by decide +kernel
theorem dX11_cut_4 : decode cX11_cut 4 = .ok (.iload_n 1, 1) := by decide +kernel
theorem dX11_cut_5 : decode cX11_cut 5 = .ok (.iload_n 2, 1) := by decide +kernel
theorem dX11_cut_6 : decode cX11_cut 6 = .ok (.invokevirtual 210, 3) := by decide +kernel
theorem dX11_cut_9 : decode cX11_cut 9 = .ok (.istore_n 3, 1) := by decide +kernel
theorem dX11_cut_10 : decode cX11_cut 10 = .ok (.iload_n 3, 1) := by decide +kernel
theorem dX11_cut_11 : decode cX11_cut 11 = .ok (.ifCond .ge 11, 3) := by decide +kernel
theorem dX11_cut_14 : decode cX11_cut 14 = .ok (.aload_n 0, 1) := by decide +kernel
theorem dX11_cut_15 : decode cX11_cut 15 = .ok (.iload_n 3, 1) := by decide +kernel
theorem dX11_cut_16 : decode cX11_cut 16 = .ok (.invokevirtual 118, 3) := by decide +kernel
theorem dX11_cut_19 : decode cX11_cut 19 = .ok (.goto 8, 3) := by decide +kernel
theorem dX11_cut_22 : decode cX11_cut 22 = .ok (.aload_n 0, 1) := by decide +kernel
theorem dX11_cut_23 : decode cX11_cut 23 = .ok (.iload_n 3, 1) := by decide +kernel
theorem dX11_cut_24 : decode cX11_cut 24 = .ok (.invokevirtual 137, 3) := by decide +kernel
theorem dX11_cut_27 : decode cX11_cut 27 = .ok (.ireturn, 1) := by decide +kernel
theorem dX11_undo_0 : decode cX11_undo 0 = .ok (.aload_n 0, 1) := by decide +kernel
theorem dX11_undo_1 : decode cX11_undo 1 = .ok (.getfield 34, 3) := by decide +kernel
theorem dX11_undo_4 : decode cX11_undo 4 = .ok (.getfield 214, 3) := by decide +kernel
theorem dX11_undo_7 : decode cX11_undo 7 = .ok (.ifCond .ne 10, 3) := by decide +kernel
theorem dX11_undo_10 : decode cX11_undo 10 = .ok (.aload_n 0, 1) := by decide +kernel
theorem dX11_undo_11 : decode cX11_undo 11 = .ok (.bipush (-3), 2) := by decide +kernel
theorem dX11_undo_13 : decode cX11_undo 13 = .ok (.invokevirtual 118, 3) := by decide +kernel
theorem dX11_undo_16 : decode cX11_undo 16 = .ok (.ireturn, 1) := by decide +kernel
theorem dX11_undo_17 : decode cX11_undo 17 = .ok (.aload_n 0, 1) := by decide +kernel
theorem dX11_undo_18 : decode cX11_undo 18 = .ok (.aload_n 0, 1) := by decide +kernel
theorem dX11_undo_19 : decode cX11_undo 19 = .ok (.getfield 34, 3) := by decide +kernel
theorem dX11_undo_22 : decode cX11_undo 22 = .ok (.aload_n 0, 1) := by decide +kernel
theorem dX11_undo_23 : decode cX11_undo 23 = .ok (.getfield 19, 3) := by decide +kernel
theorem dX11_undo_26 : decode cX11_undo 26 = .ok (.invokevirtual 215, 3) := by decide +kernel
theorem dX11_undo_29 : decode cX11_undo 29 = .ok (.invokevirtual 137, 3) := by decide +kernel
theorem dX11_undo_32 : decode cX11_undo 32 = .ok (.ireturn, 1) := by decide +kernel
theorem dX11_goes_0 : decode cX11_goes 0 = .ok (.aload_n 0, 1) := by decide +kernel
theorem dX11_goes_1 : decode cX11_goes 1 = .ok (.getfield 19, 3) := by decide +kernel
theorem dX11_goes_4 : decode cX11_goes 4 = .ok (.iload_n 1, 1) := by decide +kernel
theorem dX11_goes_5 : decode cX11_goes 5 = .ok (.invokevirtual 140, 3) := by decide +kernel
theorem dX11_goes_8 : decode cX11_goes 8 = .ok (.astore_n 3, 1) := by decide +kernel
theorem dX11_goes_9 : decode cX11_goes 9 = .ok (.aload_n 3, 1) := by decide +kernel
theorem dX11_goes_10 : decode cX11_goes 10 = .ok (.ifnull 12, 3) := by decide +kernel
theorem dX11_goes_13 : decode cX11_goes 13 = .ok (.iload_n 2, 1) := by decide +kernel
theorem dX11_goes_14 : decode cX11_goes 14 = .ok (.ifCond .lt 8, 3) := by decide +kernel
theorem dX11_goes_17 : decode cX11_goes 17 = .ok (.iload_n 2, 1) := by decide +kernel
theorem dX11_goes_18 : decode cX11_goes 18 = .ok (.iconst 2, 1) := by decide +kernel
theorem dX11_goes_19 : decode cX11_goes 19 = .ok (.if_icmp .le 5, 3) := by decide +kernel
theorem dX11_goes_22 : decode cX11_goes 22 = .ok (.iconst (-1), 1) := by decide +kernel
theorem dX11_goes_23 : decode cX11_goes 23 = .ok (.ireturn, 1) := by decide +kernel
theorem dX11_goes_24 : decode cX11_goes 24 = .ok (.aload_n 0, 1) := by decide +kernel
theorem dX11_goes_25 : decode cX11_goes 25 = .ok (.getfield 93, 3) := by decide +kernel
theorem dX11_goes_28 : decode cX11_goes 28 = .ok (.aload_n 3, 1) := by decide +kernel
theorem dX11_goes_29 : decode cX11_goes 29 = .ok (.invokevirtual 219, 3) := by decide +kernel
theorem dX11_goes_32 : decode cX11_goes 32 = .ok (.aload_n 0, 1) := by decide +kernel
theorem dX11_goes_33 : decode cX11_goes 33 = .ok (.getfield 52, 3) := by decide +kernel
theorem dX11_goes_36 : decode cX11_goes 36 = .ok (.aload_n 0, 1) := by decide +kernel
theorem dX11_goes_37 : decode cX11_goes 37 = .ok (.getfield 93, 3) := by decide +kernel
theorem dX11_goes_40 : decode cX11_goes 40 = .ok (.invokevirtual 223, 3) := by decide +kernel
theorem dX11_goes_43 : decode cX11_goes 43 = .ok (.iload_n 2, 1) := by decide +kernel
theorem dX11_goes_44 : decode cX11_goes 44 = .ok (.ifCond .ne 11, 3) := by decide +kernel
theorem dX11_goes_47 : decode cX11_goes 47 = .ok (.aload_n 0, 1) := by decide +kernel
theorem dX11_goes_48 : decode cX11_goes 48 = .ok (.getfield 52, 3) := by decide +kernel
theorem dX11_goes_51 : decode cX11_goes 51 = .ok (.getfield 226, 3) := by decide +kernel
theorem dX11_goes_54 : decode cX11_goes 54 = .ok (.ireturn, 1) := by decide +kernel
theorem dX11_goes_55 : decode cX11_goes 55 = .ok (.iload_n 2, 1) := by decide +kernel
theorem dX11_goes_56 : decode cX11_goes 56 = .ok (.iconst 1, 1) := by decide +kernel
theorem dX11_goes_57 : decode cX11_goes 57 = .ok (.if_icmp .ne 13, 3) := by decide +kernel
theorem dX11_goes_60 : decode cX11_goes 60 = .ok (.aload_n 0, 1) := by decide +kernel
theorem dX11_goes_61 : decode cX11_goes 61 = .ok (.getfield 52, 3) := by decide +kernel
theorem dX11_goes_64 : decode cX11_goes 64 = .ok (.getfield 229, 3) := by decide +kernel
theorem dX11_goes_67 : decode cX11_goes 67 = .ok (.goto 10, 3) := by decide +kernel
theorem dX11_goes_70 : decode cX11_goes 70 = .ok (.aload_n 0, 1) := by decide +kernel
theorem dX11_goes_71 : decode cX11_goes 71 = .ok (.getfield 52, 3) := by decide +kernel
theorem dX11_goes_74 : decode cX11_goes 74 = .ok (.getfield 232, 3) := by decide +kernel
theorem dX11_goes_77 : decode cX11_goes 77 = .ok (.ireturn, 1) := by decide +kernel
theorem dX11_after_0 : decode cX11_after 0 = .ok (.aload_n 0, 1) := by decide +kernel
theorem dX11_after_1 : decode cX11_after 1 = .ok (.getfield 19, 3) := by decide +kernel
theorem dX11_after_4 : decode cX11_after 4 = .ok (.iload_n 1, 1) := by decide +kernel
theorem dX11_after_5 : decode cX11_after 5 = .ok (.invokevirtual 140, 3) := by decide +kernel
theorem dX11_after_8 : decode cX11_after 8 = .ok (.astore 4, 2) := by decide +kernel
theorem dX11_after_10 : decode cX11_after 10 = .ok (.aload 4, 2) := by decide +kernel
theorem dX11_after_12 : decode cX11_after 12 = .ok (.ifnull 14, 3) := by decide +kernel
theorem dX11_after_15 : decode cX11_after 15 = .ok (.iload_n 2, 1) := by decide +kernel
theorem dX11_after_16 : decode cX11_after 16 = .ok (.ifCond .lt 10, 3) := by decide +kernel
theorem dX11_after_19 : decode cX11_after 19 = .ok (.iload_n 2, 1) := by decide +kernel
theorem dX11_after_20 : decode cX11_after 20 = .ok (.sipush 300, 3) := by decide +kernel
theorem dX11_after_23 : decode cX11_after 23 = .ok (.if_icmp .le 5, 3) := by decide +kernel
theorem dX11_after_26 : decode cX11_after 26 = .ok (.iconst (-1), 1) := by decide +kernel
theorem dX11_after_27 : decode cX11_after 27 = .ok (.ireturn, 1) := by decide +kernel
theorem dX11_after_28 : decode cX11_after 28 = .ok (.aload_n 0, 1) := by decide +kernel
theorem dX11_after_29 : decode cX11_after 29 = .ok (.getfield 93, 3) := by decide +kernel
theorem dX11_after_32 : decode cX11_after 32 = .ok (.aload 4, 2) := by decide +kernel
theorem dX11_after_34 : decode cX11_after 34 = .ok (.invokevirtual 219, 3) := by decide +kernel
theorem dX11_after_37 : decode cX11_after 37 = .ok (.iconst 0, 1) := by decide +kernel
theorem dX11_after_38 : decode cX11_after 38 = .ok (.istore 5, 2) := by decide +kernel
theorem dX11_after_40 : decode cX11_after 40 = .ok (.iload 5, 2) := by decide +kernel
theorem dX11_after_42 : decode cX11_after 42 = .ok (.iload_n 2, 1) := by decide +kernel
theorem dX11_after_43 : decode cX11_after 43 = .ok (.if_icmp .ge 35, 3) := by decide +kernel
theorem dX11_after_46 : decode cX11_after 46 = .ok (.aload_n 0, 1) := by decide +kernel
theorem dX11_after_47 : decode cX11_after 47 = .ok (.getfield 52, 3) := by decide +kernel
theorem dX11_after_50 : decode cX11_after 50 = .ok (.aload_n 0, 1) := by decide +kernel
theorem dX11_after_51 : decode cX11_after 51 = .ok (.getfield 93, 3) := by decide +kernel
theorem dX11_after_54 : decode cX11_after 54 = .ok (.invokevirtual 151, 3) := by decide +kernel
theorem dX11_after_57 : decode cX11_after 57 = .ok (.iconst 3, 1) := by decide +kernel
theorem dX11_after_58 : decode cX11_after 58 = .ok (.if_icmp .ne 20, 3) := by decide +kernel
theorem dX11_after_61 : decode cX11_after 61 = .ok (.aload_n 0, 1) := by decide +kernel
theorem dX11_after_62 : decode cX11_after 62 = .ok (.getfield 52, 3) := by decide +kernel
theorem dX11_after_65 : decode cX11_after 65 = .ok (.aload_n 0, 1) := by decide +kernel
theorem dX11_after_66 : decode cX11_after 66 = .ok (.getfield 93, 3) := by decide +kernel
theorem dX11_after_69 : decode cX11_after 69 = .ok (.invokevirtual 235, 3) := by decide +kernel
theorem dX11_after_72 : decode cX11_after 72 = .ok (.iinc 5 1, 3) := by decide +kernel
theorem dX11_after_75 : decode cX11_after 75 = .ok (.goto (-35), 3) := by decide +kernel
theorem dX11_after_78 : decode cX11_after 78 = .ok (.aload_n 0, 1) := by decide +kernel
theorem dX11_after_79 : decode cX11_after 79 = .ok (.getfield 93, 3) := by decide +kernel
theorem dX11_after_82 : decode cX11_after 82 = .ok (.iload_n 3, 1) := by decide +kernel
theorem dX11_after_83 : decode cX11_after 83 = .ok (.invokevirtual 164, 3) := by decide +kernel
theorem dX11_after_86 : decode cX11_after 86 = .ok (.ireturn, 1) := by decide +kernel
theorem dX11_longest_0 : decode cX11_longest 0 = .ok (.iload_n 1, 1) := by decide +kernel
theorem dX11_longest_1 : decode cX11_longest 1 = .ok (.iconst 1, 1) := by decide +kernel
theorem dX11_longest_2 : decode cX11_longest 2 = .ok (.if_icmp .lt 13, 3) := by decide +kernel
theorem dX11_longest_5 : decode cX11_longest 5 = .ok (.iload_n 1, 1) := by decide +kernel
theorem dX11_longest_6 : decode cX11_longest 6 = .ok (.bipush 7, 2) := by decide +kernel
theorem dX11_longest_8 : decode cX11_longest 8 = .ok (.if_icmp .gt 7, 3) := by decide +kernel
theorem dX11_longest_11 : decode cX11_longest 11 = .ok (.iload_n 2, 1) := by decide +kernel
theorem dX11_longest_12 : decode cX11_longest 12 = .ok (.ifCond .ge 5, 3) := by decide +kernel
theorem dX11_longest_15 : decode cX11_longest 15 = .ok (.iconst (-1), 1) := by decide +kernel
theorem dX11_longest_16 : decode cX11_longest 16 = .ok (.ireturn, 1) := by decide +kernel
theorem dX11_longest_17 : decode cX11_longest 17 = .ok (.aload_n 0, 1) := by decide +kernel
theorem dX11_longest_18 : decode cX11_longest 18 = .ok (.getfield 93, 3) := by decide +kernel
theorem dX11_longest_21 : decode cX11_longest 21 = .ok (.iload_n 1, 1) := by decide +kernel
theorem dX11_longest_22 : decode cX11_longest 22 = .ok (.invokevirtual 238, 3) := by decide +kernel
theorem dX11_longest_25 : decode cX11_longest 25 = .ok (.aload_n 0, 1) := by decide +kernel
theorem dX11_longest_26 : decode cX11_longest 26 = .ok (.getfield 70, 3) := by decide +kernel
theorem dX11_longest_29 : decode cX11_longest 29 = .ok (.aload_n 0, 1) := by decide +kernel
theorem dX11_longest_30 : decode cX11_longest 30 = .ok (.getfield 93, 3) := by decide +kernel
theorem dX11_longest_33 : decode cX11_longest 33 = .ok (.invokevirtual 241, 3) := by decide +kernel
theorem dX11_longest_36 : decode cX11_longest 36 = .ok (.aload_n 0, 1) := by decide +kernel
theorem dX11_longest_37 : decode cX11_longest 37 = .ok (.getfield 70, 3) := by decide +kernel
theorem dX11_longest_40 : decode cX11_longest 40 = .ok (.getfield 244, 3) := by decide +kernel
theorem dX11_longest_43 : decode cX11_longest 43 = .ok (.iconst (-1), 1) := by decide +kernel
theorem dX11_longest_44 : decode cX11_longest 44 = .ok (.if_icmp .eq 7, 3) := by decide +kernel
theorem dX11_longest_47 : decode cX11_longest 47 = .ok (.iload_n 2, 1) := by decide +kernel
theorem dX11_longest_48 : decode cX11_longest 48 = .ok (.ifCond .ne 11, 3) := by decide +kernel
theorem dX11_longest_51 : decode cX11_longest 51 = .ok (.aload_n 0, 1) := by decide +kernel
theorem dX11_longest_52 : decode cX11_longest 52 = .ok (.getfield 70, 3) := by decide +kernel
theorem dX11_longest_55 : decode cX11_longest 55 = .ok (.getfield 244, 3) := by decide +kernel
theorem dX11_longest_58 : decode cX11_longest 58 = .ok (.ireturn, 1) := by decide +kernel
theorem dX11_longest_59 : decode cX11_longest 59 = .ok (.iload_n 2, 1) := by decide +kernel
theorem dX11_longest_60 : decode cX11_longest 60 = .ok (.iconst 1, 1) := by decide +kernel
theorem dX11_longest_61 : decode cX11_longest 61 = .ok (.if_icmp .ne 13, 3) := by decide +kernel
theorem dX11_longest_64 : decode cX11_longest 64 = .ok (.aload_n 0, 1) := by decide +kernel
theorem dX11_longest_65 : decode cX11_longest 65 = .ok (.getfield 70, 3) := by decide +kernel
theorem dX11_longest_68 : decode cX11_longest 68 = .ok (.getfield 247, 3) := by decide +kernel
theorem dX11_longest_71 : decode cX11_longest 71 = .ok (.goto 20, 3) := by decide +kernel
theorem dX11_longest_74 : decode cX11_longest 74 = .ok (.aload_n 0, 1) := by decide +kernel
theorem dX11_longest_75 : decode cX11_longest 75 = .ok (.getfield 70, 3) := by decide +kernel
theorem dX11_longest_78 : decode cX11_longest 78 = .ok (.aload_n 0, 1) := by decide +kernel
theorem dX11_longest_79 : decode cX11_longest 79 = .ok (.getfield 70, 3) := by decide +kernel
theorem dX11_longest_82 : decode cX11_longest 82 = .ok (.getfield 250, 3) := by decide +kernel
theorem dX11_longest_85 : decode cX11_longest 85 = .ok (.iload_n 2, 1) := by decide +kernel
theorem dX11_longest_86 : decode cX11_longest 86 = .ok (.iconst 2, 1) := by decide +kernel
theorem dX11_longest_87 : decode cX11_longest 87 = .ok (.isub, 1) := by decide +kernel
theorem dX11_longest_88 : decode cX11_longest 88 = .ok (.invokevirtual 253, 3) := by decide +kernel
theorem dX11_longest_91 : decode cX11_longest 91 = .ok (.ireturn, 1) := by decide +kernel
theorem dX11_orderly_0 : decode cX11_orderly 0 = .ok (.iload_n 1, 1) := by decide +kernel
theorem dX11_orderly_1 : decode cX11_orderly 1 = .ok (.iconst 1, 1) := by decide +kernel
theorem dX11_orderly_2 : decode cX11_orderly 2 = .ok (.if_icmp .lt 25, 3) := by decide +kernel
theorem dX11_orderly_5 : decode cX11_orderly 5 = .ok (.iload_n 1, 1) := by decide +kernel
theorem dX11_orderly_6 : decode cX11_orderly 6 = .ok (.bipush 7, 2) := by decide +kernel
theorem dX11_orderly_8 : decode cX11_orderly 8 = .ok (.if_icmp .gt 19, 3) := by decide +kernel
theorem dX11_orderly_11 : decode cX11_orderly 11 = .ok (.iload_n 2, 1) := by decide +kernel
theorem dX11_orderly_12 : decode cX11_orderly 12 = .ok (.ifCond .lt 15, 3) := by decide +kernel
theorem dX11_orderly_15 : decode cX11_orderly 15 = .ok (.iload_n 2, 1) := by decide +kernel
theorem dX11_orderly_16 : decode cX11_orderly 16 = .ok (.aload_n 0, 1) := by decide +kernel
theorem dX11_orderly_17 : decode cX11_orderly 17 = .ok (.getfield 70, 3) := by decide +kernel
theorem dX11_orderly_20 : decode cX11_orderly 20 = .ok (.getfield 256, 3) := by decide +kernel
theorem dX11_orderly_23 : decode cX11_orderly 23 = .ok (.arraylength, 1) := by decide +kernel
theorem dX11_orderly_24 : decode cX11_orderly 24 = .ok (.if_icmp .lt 5, 3) := by decide +kernel
theorem dX11_orderly_27 : decode cX11_orderly 27 = .ok (.iconst (-1), 1) := by decide +kernel
theorem dX11_orderly_28 : decode cX11_orderly 28 = .ok (.ireturn, 1) := by decide +kernel
theorem dX11_orderly_29 : decode cX11_orderly 29 = .ok (.aload_n 0, 1) := by decide +kernel
theorem dX11_orderly_30 : decode cX11_orderly 30 = .ok (.getfield 93, 3) := by decide +kernel
theorem dX11_orderly_33 : decode cX11_orderly 33 = .ok (.iload_n 1, 1) := by decide +kernel
theorem dX11_orderly_34 : decode cX11_orderly 34 = .ok (.invokevirtual 238, 3) := by decide +kernel
theorem dX11_orderly_37 : decode cX11_orderly 37 = .ok (.aload_n 0, 1) := by decide +kernel
theorem dX11_orderly_38 : decode cX11_orderly 38 = .ok (.getfield 70, 3) := by decide +kernel
theorem dX11_orderly_41 : decode cX11_orderly 41 = .ok (.aload_n 0, 1) := by decide +kernel
theorem dX11_orderly_42 : decode cX11_orderly 42 = .ok (.getfield 93, 3) := by decide +kernel
theorem dX11_orderly_45 : decode cX11_orderly 45 = .ok (.invokevirtual 241, 3) := by decide +kernel
theorem dX11_orderly_48 : decode cX11_orderly 48 = .ok (.aload_n 0, 1) := by decide +kernel
theorem dX11_orderly_49 : decode cX11_orderly 49 = .ok (.getfield 70, 3) := by decide +kernel
theorem dX11_orderly_52 : decode cX11_orderly 52 = .ok (.getfield 256, 3) := by decide +kernel
theorem dX11_orderly_55 : decode cX11_orderly 55 = .ok (.iload_n 2, 1) := by decide +kernel
theorem dX11_orderly_56 : decode cX11_orderly 56 = .ok (.iaload, 1) := by decide +kernel
theorem dX11_orderly_57 : decode cX11_orderly 57 = .ok (.ireturn, 1) := by decide +kernel
theorem dX11_to_0 : decode cX11_to 0 = .ok (.aload_n 0, 1) := by decide +kernel
theorem dX11_to_1 : decode cX11_to 1 = .ok (.getfield 19, 3) := by decide +kernel
theorem dX11_to_4 : decode cX11_to 4 = .ok (.iload_n 1, 1) := by decide +kernel
theorem dX11_to_5 : decode cX11_to 5 = .ok (.invokevirtual 140, 3) := by decide +kernel
theorem dX11_to_8 : decode cX11_to 8 = .ok (.astore 4, 2) := by decide +kernel
theorem dX11_to_10 : decode cX11_to 10 = .ok (.aload 4, 2) := by decide +kernel
theorem dX11_to_12 : decode cX11_to 12 = .ok (.ifnull 18, 3) := by decide +kernel
theorem dX11_to_15 : decode cX11_to 15 = .ok (.aload 4, 2) := by decide +kernel
theorem dX11_to_17 : decode cX11_to 17 = .ok (.getfield 144, 3) := by decide +kernel
theorem dX11_to_20 : decode cX11_to 20 = .ok (.bipush 7, 2) := by decide +kernel
theorem dX11_to_22 : decode cX11_to 22 = .ok (.if_icmp .gt 8, 3) := by decide +kernel
theorem dX11_to_25 : decode cX11_to 25 = .ok (.iload_n 2, 1) := by decide +kernel
theorem dX11_to_26 : decode cX11_to 26 = .ok (.iconst (-1), 1) := by decide +kernel
theorem dX11_to_27 : decode cX11_to 27 = .ok (.if_icmp .ge 5, 3) := by decide +kernel
theorem dX11_to_30 : decode cX11_to 30 = .ok (.iconst (-1), 1) := by decide +kernel
theorem dX11_to_31 : decode cX11_to 31 = .ok (.ireturn, 1) := by decide +kernel
theorem dX11_to_32 : decode cX11_to 32 = .ok (.aload_n 0, 1) := by decide +kernel
theorem dX11_to_33 : decode cX11_to 33 = .ok (.getfield 70, 3) := by decide +kernel
theorem dX11_to_36 : decode cX11_to 36 = .ok (.aload 4, 2) := by decide +kernel
theorem dX11_to_38 : decode cX11_to 38 = .ok (.iload_n 2, 1) := by decide +kernel
theorem dX11_to_39 : decode cX11_to 39 = .ok (.iload_n 3, 1) := by decide +kernel
theorem dX11_to_40 : decode cX11_to 40 = .ok (.invokevirtual 259, 3) := by decide +kernel
theorem dX11_to_43 : decode cX11_to 43 = .ok (.ireturn, 1) := by decide +kernel
theorem dX11_cheat_0 : decode cX11_cheat 0 = .ok (.aload_n 0, 1) := by decide +kernel
theorem dX11_cheat_1 : decode cX11_cheat 1 = .ok (.getfield 19, 3) := by decide +kernel
theorem dX11_cheat_4 : decode cX11_cheat 4 = .ok (.iload_n 1, 1) := by decide +kernel
theorem dX11_cheat_5 : decode cX11_cheat 5 = .ok (.invokevirtual 140, 3) := by decide +kernel
theorem dX11_cheat_8 : decode cX11_cheat 8 = .ok (.astore_n 3, 1) := by decide +kernel
theorem dX11_cheat_9 : decode cX11_cheat 9 = .ok (.aload_n 3, 1) := by decide +kernel
theorem dX11_cheat_10 : decode cX11_cheat 10 = .ok (.ifnull 12, 3) := by decide +kernel
theorem dX11_cheat_13 : decode cX11_cheat 13 = .ok (.iload_n 2, 1) := by decide +kernel
theorem dX11_cheat_14 : decode cX11_cheat 14 = .ok (.ifCond .lt 8, 3) := by decide +kernel
theorem dX11_cheat_17 : decode cX11_cheat 17 = .ok (.iload_n 2, 1) := by decide +kernel
theorem dX11_cheat_18 : decode cX11_cheat 18 = .ok (.iconst 2, 1) := by decide +kernel
theorem dX11_cheat_19 : decode cX11_cheat 19 = .ok (.if_icmp .le 5, 3) := by decide +kernel
theorem dX11_cheat_22 : decode cX11_cheat 22 = .ok (.iconst (-1), 1) := by decide +kernel
theorem dX11_cheat_23 : decode cX11_cheat 23 = .ok (.ireturn, 1) := by decide +kernel
theorem dX11_cheat_24 : decode cX11_cheat 24 = .ok (.aload_n 0, 1) := by decide +kernel
theorem dX11_cheat_25 : decode cX11_cheat 25 = .ok (.getfield 52, 3) := by decide +kernel
theorem dX11_cheat_28 : decode cX11_cheat 28 = .ok (.aload_n 3, 1) := by decide +kernel
theorem dX11_cheat_29 : decode cX11_cheat 29 = .ok (.aload_n 0, 1) := by decide +kernel
theorem dX11_cheat_30 : decode cX11_cheat 30 = .ok (.getfield 93, 3) := by decide +kernel
theorem dX11_cheat_33 : decode cX11_cheat 33 = .ok (.invokevirtual 263, 3) := by decide +kernel
theorem dX11_cheat_36 : decode cX11_cheat 36 = .ok (.iload_n 2, 1) := by decide +kernel
theorem dX11_cheat_37 : decode cX11_cheat 37 = .ok (.ifCond .ne 11, 3) := by decide +kernel
theorem dX11_cheat_40 : decode cX11_cheat 40 = .ok (.aload_n 0, 1) := by decide +kernel
theorem dX11_cheat_41 : decode cX11_cheat 41 = .ok (.getfield 52, 3) := by decide +kernel
theorem dX11_cheat_44 : decode cX11_cheat 44 = .ok (.getfield 267, 3) := by decide +kernel
theorem dX11_cheat_47 : decode cX11_cheat 47 = .ok (.ireturn, 1) := by decide +kernel
theorem dX11_cheat_48 : decode cX11_cheat 48 = .ok (.iload_n 2, 1) := by decide +kernel
theorem dX11_cheat_49 : decode cX11_cheat 49 = .ok (.iconst 1, 1) := by decide +kernel
theorem dX11_cheat_50 : decode cX11_cheat 50 = .ok (.if_icmp .ne 13, 3) := by decide +kernel
theorem dX11_cheat_53 : decode cX11_cheat 53 = .ok (.aload_n 0, 1) := by decide +kernel
theorem dX11_cheat_54 : decode cX11_cheat 54 = .ok (.getfield 52, 3) := by decide +kernel
theorem dX11_cheat_57 : decode cX11_cheat 57 = .ok (.getfield 270, 3) := by decide +kernel
theorem dX11_cheat_60 : decode cX11_cheat 60 = .ok (.goto 10, 3) := by decide +kernel
theorem dX11_cheat_63 : decode cX11_cheat 63 = .ok (.aload_n 0, 1) := by decide +kernel
theorem dX11_cheat_64 : decode cX11_cheat 64 = .ok (.getfield 52, 3) := by decide +kernel
theorem dX11_cheat_67 : decode cX11_cheat 67 = .ok (.getfield 273, 3) := by decide +kernel
theorem dX11_cheat_70 : decode cX11_cheat 70 = .ok (.ireturn, 1) := by decide +kernel
theorem dX11_odds_0 : decode cX11_odds 0 = .ok (.aload_n 0, 1) := by decide +kernel
theorem dX11_odds_1 : decode cX11_odds 1 = .ok (.getfield 19, 3) := by decide +kernel
theorem dX11_odds_4 : decode cX11_odds 4 = .ok (.iload_n 1, 1) := by decide +kernel
theorem dX11_odds_5 : decode cX11_odds 5 = .ok (.invokevirtual 140, 3) := by decide +kernel
theorem dX11_odds_8 : decode cX11_odds 8 = .ok (.astore 5, 2) := by decide +kernel
theorem dX11_odds_10 : decode cX11_odds 10 = .ok (.aload 5, 2) := by decide +kernel
theorem dX11_odds_12 : decode cX11_odds 12 = .ok (.ifnull 26, 3) := by decide +kernel
theorem dX11_odds_15 : decode cX11_odds 15 = .ok (.aload 5, 2) := by decide +kernel
theorem dX11_odds_17 : decode cX11_odds 17 = .ok (.getfield 144, 3) := by decide +kernel
theorem dX11_odds_20 : decode cX11_odds 20 = .ok (.bipush 7, 2) := by decide +kernel
theorem dX11_odds_22 : decode cX11_odds 22 = .ok (.if_icmp .gt 16, 3) := by decide +kernel
theorem dX11_odds_25 : decode cX11_odds 25 = .ok (.iload_n 2, 1) := by decide +kernel
theorem dX11_odds_26 : decode cX11_odds 26 = .ok (.ifCond .lt 12, 3) := by decide +kernel
theorem dX11_odds_29 : decode cX11_odds 29 = .ok (.iload_n 2, 1) := by decide +kernel
theorem dX11_odds_30 : decode cX11_odds 30 = .ok (.aload 5, 2) := by decide +kernel
theorem dX11_odds_32 : decode cX11_odds 32 = .ok (.getfield 144, 3) := by decide +kernel
theorem dX11_odds_35 : decode cX11_odds 35 = .ok (.if_icmp .le 5, 3) := by decide +kernel
theorem dX11_odds_38 : decode cX11_odds 38 = .ok (.iconst (-1), 1) := by decide +kernel
theorem dX11_odds_39 : decode cX11_odds 39 = .ok (.ireturn, 1) := by decide +kernel
theorem dX11_odds_40 : decode cX11_odds 40 = .ok (.iload_n 3, 1) := by decide +kernel
theorem dX11_odds_41 : decode cX11_odds 41 = .ok (.ifCond .lt 21, 3) := by decide +kernel
theorem dX11_odds_44 : decode cX11_odds 44 = .ok (.iload_n 3, 1) := by decide +kernel
theorem dX11_odds_45 : decode cX11_odds 45 = .ok (.sipush 300, 3) := by decide +kernel
theorem dX11_odds_48 : decode cX11_odds 48 = .ok (.if_icmp .gt 14, 3) := by decide +kernel
theorem dX11_odds_51 : decode cX11_odds 51 = .ok (.iload 4, 2) := by decide +kernel
theorem dX11_odds_53 : decode cX11_odds 53 = .ok (.ifCond .lt 9, 3) := by decide +kernel
theorem dX11_odds_56 : decode cX11_odds 56 = .ok (.iload 4, 2) := by decide +kernel
theorem dX11_odds_58 : decode cX11_odds 58 = .ok (.iconst 1, 1) := by decide +kernel
theorem dX11_odds_59 : decode cX11_odds 59 = .ok (.if_icmp .le 5, 3) := by decide +kernel
theorem dX11_odds_62 : decode cX11_odds 62 = .ok (.iconst (-1), 1) := by decide +kernel
theorem dX11_odds_63 : decode cX11_odds 63 = .ok (.ireturn, 1) := by decide +kernel
theorem dX11_odds_64 : decode cX11_odds 64 = .ok (.aload_n 0, 1) := by decide +kernel
theorem dX11_odds_65 : decode cX11_odds 65 = .ok (.getfield 70, 3) := by decide +kernel
theorem dX11_odds_68 : decode cX11_odds 68 = .ok (.aload 5, 2) := by decide +kernel
theorem dX11_odds_70 : decode cX11_odds 70 = .ok (.iload_n 2, 1) := by decide +kernel
theorem dX11_odds_71 : decode cX11_odds 71 = .ok (.iload_n 3, 1) := by decide +kernel
theorem dX11_odds_72 : decode cX11_odds 72 = .ok (.invokevirtual 276, 3) := by decide +kernel
theorem dX11_odds_75 : decode cX11_odds 75 = .ok (.iload 4, 2) := by decide +kernel
theorem dX11_odds_77 : decode cX11_odds 77 = .ok (.ifCond .ne 13, 3) := by decide +kernel
theorem dX11_odds_80 : decode cX11_odds 80 = .ok (.aload_n 0, 1) := by decide +kernel
theorem dX11_odds_81 : decode cX11_odds 81 = .ok (.getfield 70, 3) := by decide +kernel
theorem dX11_odds_84 : decode cX11_odds 84 = .ok (.getfield 280, 3) := by decide +kernel
theorem dX11_odds_87 : decode cX11_odds 87 = .ok (.goto 10, 3) := by decide +kernel
theorem dX11_odds_90 : decode cX11_odds 90 = .ok (.aload_n 0, 1) := by decide +kernel
theorem dX11_odds_91 : decode cX11_odds 91 = .ok (.getfield 70, 3) := by decide +kernel
theorem dX11_odds_94 : decode cX11_odds 94 = .ok (.getfield 283, 3) := by decide +kernel
theorem dX11_odds_97 : decode cX11_odds 97 = .ok (.ireturn, 1) := by decide +kernel
theorem dX11_sight_0 : decode cX11_sight 0 = .ok (.iload_n 1, 1) := by decide +kernel
theorem dX11_sight_1 : decode cX11_sight 1 = .ok (.ifCond .lt 19, 3) := by decide +kernel
theorem dX11_sight_4 : decode cX11_sight 4 = .ok (.iload_n 1, 1) := by decide +kernel
theorem dX11_sight_5 : decode cX11_sight 5 = .ok (.bipush 99, 2) := by decide +kernel
theorem dX11_sight_7 : decode cX11_sight 7 = .ok (.if_icmp .gt 13, 3) := by decide +kernel
theorem dX11_sight_10 : decode cX11_sight 10 = .ok (.iload_n 2, 1) := by decide +kernel
theorem dX11_sight_11 : decode cX11_sight 11 = .ok (.ifCond .lt 9, 3) := by decide +kernel
theorem dX11_sight_14 : decode cX11_sight 14 = .ok (.iload_n 2, 1) := by decide +kernel
theorem dX11_sight_15 : decode cX11_sight 15 = .ok (.bipush 13, 2) := by decide +kernel
theorem dX11_sight_17 : decode cX11_sight 17 = .ok (.if_icmp .le 9, 3) := by decide +kernel
theorem dX11_sight_20 : decode cX11_sight 20 = .ok (.aload_n 0, 1) := by decide +kernel
theorem dX11_sight_21 : decode cX11_sight 21 = .ok (.iconst (-1), 1) := by decide +kernel
theorem dX11_sight_22 : decode cX11_sight 22 = .ok (.invokevirtual 118, 3) := by decide +kernel
theorem dX11_sight_25 : decode cX11_sight 25 = .ok (.ireturn, 1) := by decide +kernel
theorem dX11_sight_26 : decode cX11_sight 26 = .ok (.aload_n 0, 1) := by decide +kernel
theorem dX11_sight_27 : decode cX11_sight 27 = .ok (.getfield 19, 3) := by decide +kernel
theorem dX11_sight_30 : decode cX11_sight 30 = .ok (.getfield 286, 3) := by decide +kernel
theorem dX11_sight_33 : decode cX11_sight 33 = .ok (.bipush 8, 2) := by decide +kernel
theorem dX11_sight_35 : decode cX11_sight 35 = .ok (.if_icmp .lt 10, 3) := by decide +kernel
theorem dX11_sight_38 : decode cX11_sight 38 = .ok (.aload_n 0, 1) := by decide +kernel
theorem dX11_sight_39 : decode cX11_sight 39 = .ok (.bipush (-5), 2) := by decide +kernel
theorem dX11_sight_41 : decode cX11_sight 41 = .ok (.invokevirtual 118, 3) := by decide +kernel
theorem dX11_sight_44 : decode cX11_sight 44 = .ok (.ireturn, 1) := by decide +kernel
theorem dX11_sight_45 : decode cX11_sight 45 = .ok (.aload_n 0, 1) := by decide +kernel
theorem dX11_sight_46 : decode cX11_sight 46 = .ok (.aload_n 0, 1) := by decide +kernel
theorem dX11_sight_47 : decode cX11_sight 47 = .ok (.getfield 19, 3) := by decide +kernel
theorem dX11_sight_50 : decode cX11_sight 50 = .ok (.iload_n 1, 1) := by decide +kernel
theorem dX11_sight_51 : decode cX11_sight 51 = .ok (.iload_n 2, 1) := by decide +kernel
theorem dX11_sight_52 : decode cX11_sight 52 = .ok (.invokevirtual 289, 3) := by decide +kernel
theorem dX11_sight_55 : decode cX11_sight 55 = .ok (.invokevirtual 137, 3) := by decide +kernel
theorem dX11_sight_58 : decode cX11_sight 58 = .ok (.ireturn, 1) := by decide +kernel
theorem dX11_forget_0 : decode cX11_forget 0 = .ok (.aload_n 0, 1) := by decide +kernel
theorem dX11_forget_1 : decode cX11_forget 1 = .ok (.getfield 19, 3) := by decide +kernel
theorem dX11_forget_4 : decode cX11_forget 4 = .ok (.getfield 286, 3) := by decide +kernel
theorem dX11_forget_7 : decode cX11_forget 7 = .ok (.istore_n 1, 1) := by decide +kernel
theorem dX11_forget_8 : decode cX11_forget 8 = .ok (.aload_n 0, 1) := by decide +kernel
theorem dX11_forget_9 : decode cX11_forget 9 = .ok (.getfield 19, 3) := by decide +kernel
theorem dX11_forget_12 : decode cX11_forget 12 = .ok (.iconst 0, 1) := by decide +kernel
theorem dX11_forget_13 : decode cX11_forget 13 = .ok (.putfield 286, 3) := by decide +kernel
theorem dX11_forget_16 : decode cX11_forget 16 = .ok (.iload_n 1, 1) := by decide +kernel
theorem dX11_forget_17 : decode cX11_forget 17 = .ok (.ireturn, 1) := by decide +kernel
theorem dX11_fits_0 : decode cX11_fits 0 = .ok (.aload_n 0, 1) := by decide +kernel
theorem dX11_fits_1 : decode cX11_fits 1 = .ok (.getfield 19, 3) := by decide +kernel
theorem dX11_fits_4 : decode cX11_fits 4 = .ok (.iload_n 1, 1) := by decide +kernel
theorem dX11_fits_5 : decode cX11_fits 5 = .ok (.invokevirtual 140, 3) := by decide +kernel
theorem dX11_fits_8 : decode cX11_fits 8 = .ok (.astore 4, 2) := by decide +kernel
theorem dX11_fits_10 : decode cX11_fits 10 = .ok (.aload 4, 2) := by decide +kernel
theorem dX11_fits_12 : decode cX11_fits 12 = .ok (.ifnull 18, 3) := by decide +kernel
theorem dX11_fits_15 : decode cX11_fits 15 = .ok (.aload 4, 2) := by decide +kernel
theorem dX11_fits_17 : decode cX11_fits 17 = .ok (.getfield 144, 3) := by decide +kernel
theorem dX11_fits_20 : decode cX11_fits 20 = .ok (.bipush 7, 2) := by decide +kernel
theorem dX11_fits_22 : decode cX11_fits 22 = .ok (.if_icmp .gt 8, 3) := by decide +kernel
theorem dX11_fits_25 : decode cX11_fits 25 = .ok (.iload_n 2, 1) := by decide +kernel
theorem dX11_fits_26 : decode cX11_fits 26 = .ok (.iconst (-1), 1) := by decide +kernel
theorem dX11_fits_27 : decode cX11_fits 27 = .ok (.if_icmp .ge 5, 3) := by decide +kernel
theorem dX11_fits_30 : decode cX11_fits 30 = .ok (.iconst (-1), 1) := by decide +kernel
theorem dX11_fits_31 : decode cX11_fits 31 = .ok (.ireturn, 1) := by decide +kernel
theorem dX11_fits_32 : decode cX11_fits 32 = .ok (.aload_n 0, 1) := by decide +kernel
theorem dX11_fits_33 : decode cX11_fits 33 = .ok (.getfield 70, 3) := by decide +kernel
theorem dX11_fits_36 : decode cX11_fits 36 = .ok (.aload 4, 2) := by decide +kernel
theorem dX11_fits_38 : decode cX11_fits 38 = .ok (.iload_n 2, 1) := by decide +kernel
theorem dX11_fits_39 : decode cX11_fits 39 = .ok (.iload_n 3, 1) := by decide +kernel
theorem dX11_fits_40 : decode cX11_fits 40 = .ok (.invokevirtual 292, 3) := by decide +kernel
theorem dX11_fits_43 : decode cX11_fits 43 = .ok (.ireturn, 1) := by decide +kernel
theorem dX11_race_0 : decode cX11_race 0 = .ok (.aload_n 0, 1) := by decide +kernel
theorem dX11_race_1 : decode cX11_race 1 = .ok (.getfield 19, 3) := by decide +kernel
theorem dX11_race_4 : decode cX11_race 4 = .ok (.iload_n 1, 1) := by decide +kernel
theorem dX11_race_5 : decode cX11_race 5 = .ok (.invokevirtual 140, 3) := by decide +kernel
theorem dX11_race_8 : decode cX11_race 8 = .ok (.astore_n 3, 1) := by decide +kernel
theorem dX11_race_9 : decode cX11_race 9 = .ok (.aload_n 0, 1) := by decide +kernel
theorem dX11_race_10 : decode cX11_race 10 = .ok (.getfield 19, 3) := by decide +kernel
theorem dX11_race_13 : decode cX11_race 13 = .ok (.iload_n 2, 1) := by decide +kernel
theorem dX11_race_14 : decode cX11_race 14 = .ok (.invokevirtual 140, 3) := by decide +kernel
theorem dX11_race_17 : decode cX11_race 17 = .ok (.astore 4, 2) := by decide +kernel
theorem dX11_race_19 : decode cX11_race 19 = .ok (.aload_n 3, 1) := by decide +kernel
theorem dX11_race_20 : decode cX11_race 20 = .ok (.ifnull 8, 3) := by decide +kernel
theorem dX11_race_23 : decode cX11_race 23 = .ok (.aload 4, 2) := by decide +kernel
theorem dX11_race_25 : decode cX11_race 25 = .ok (.ifnonnull 5, 3) := by decide +kernel
theorem dX11_race_28 : decode cX11_race 28 = .ok (.iconst (-1), 1) := by decide +kernel
theorem dX11_race_29 : decode cX11_race 29 = .ok (.ireturn, 1) := by decide +kernel
theorem dX11_race_30 : decode cX11_race 30 = .ok (.aload_n 0, 1) := by decide +kernel
theorem dX11_race_31 : decode cX11_race 31 = .ok (.getfield 93, 3) := by decide +kernel
theorem dX11_race_34 : decode cX11_race 34 = .ok (.aload_n 3, 1) := by decide +kernel
theorem dX11_race_35 : decode cX11_race 35 = .ok (.invokevirtual 219, 3) := by decide +kernel
theorem dX11_race_38 : decode cX11_race 38 = .ok (.aload_n 0, 1) := by decide +kernel
theorem dX11_race_39 : decode cX11_race 39 = .ok (.getfield 52, 3) := by decide +kernel
theorem dX11_race_42 : decode cX11_race 42 = .ok (.aload_n 0, 1) := by decide +kernel
theorem dX11_race_43 : decode cX11_race 43 = .ok (.getfield 93, 3) := by decide +kernel
theorem dX11_race_46 : decode cX11_race 46 = .ok (.invokevirtual 295, 3) := by decide +kernel
theorem dX11_race_49 : decode cX11_race 49 = .ok (.istore 5, 2) := by decide +kernel
theorem dX11_race_51 : decode cX11_race 51 = .ok (.aload_n 0, 1) := by decide +kernel
theorem dX11_race_52 : decode cX11_race 52 = .ok (.getfield 93, 3) := by decide +kernel
theorem dX11_race_55 : decode cX11_race 55 = .ok (.aload 4, 2) := by decide +kernel
theorem dX11_race_57 : decode cX11_race 57 = .ok (.invokevirtual 219, 3) := by decide +kernel
theorem dX11_race_60 : decode cX11_race 60 = .ok (.aload_n 0, 1) := by decide +kernel
theorem dX11_race_61 : decode cX11_race 61 = .ok (.getfield 52, 3) := by decide +kernel
theorem dX11_race_64 : decode cX11_race 64 = .ok (.aload_n 0, 1) := by decide +kernel
theorem dX11_race_65 : decode cX11_race 65 = .ok (.getfield 93, 3) := by decide +kernel
theorem dX11_race_68 : decode cX11_race 68 = .ok (.invokevirtual 295, 3) := by decide +kernel
theorem dX11_race_71 : decode cX11_race 71 = .ok (.istore 6, 2) := by decide +kernel
theorem dX11_race_73 : decode cX11_race 73 = .ok (.iload 5, 2) := by decide +kernel
theorem dX11_race_75 : decode cX11_race 75 = .ok (.iload 6, 2) := by decide +kernel
theorem dX11_race_77 : decode cX11_race 77 = .ok (.if_icmp .ne 15, 3) := by decide +kernel
theorem dX11_race_80 : decode cX11_race 80 = .ok (.iload 5, 2) := by decide +kernel
theorem dX11_race_82 : decode cX11_race 82 = .ok (.iconst (-1), 1) := by decide +kernel
theorem dX11_race_83 : decode cX11_race 83 = .ok (.if_icmp .ne 7, 3) := by decide +kernel
theorem dX11_race_86 : decode cX11_race 86 = .ok (.iconst (-1), 1) := by decide +kernel
theorem dX11_race_87 : decode cX11_race 87 = .ok (.goto 4, 3) := by decide +kernel
theorem dX11_race_90 : decode cX11_race 90 = .ok (.iconst 2, 1) := by decide +kernel
theorem dX11_race_91 : decode cX11_race 91 = .ok (.ireturn, 1) := by decide +kernel
theorem dX11_race_92 : decode cX11_race 92 = .ok (.iload 5, 2) := by decide +kernel
theorem dX11_race_94 : decode cX11_race 94 = .ok (.iconst (-1), 1) := by decide +kernel
theorem dX11_race_95 : decode cX11_race 95 = .ok (.if_icmp .ne 5, 3) := by decide +kernel
theorem dX11_race_98 : decode cX11_race 98 = .ok (.iconst 1, 1) := by decide +kernel
theorem dX11_race_99 : decode cX11_race 99 = .ok (.ireturn, 1) := by decide +kernel
theorem dX11_race_100 : decode cX11_race 100 = .ok (.iload 6, 2) := by decide +kernel
theorem dX11_race_102 : decode cX11_race 102 = .ok (.iconst (-1), 1) := by decide +kernel
theorem dX11_race_103 : decode cX11_race 103 = .ok (.if_icmp .eq 10, 3) := by decide +kernel
theorem dX11_race_106 : decode cX11_race 106 = .ok (.iload 5, 2) := by decide +kernel
theorem dX11_race_108 : decode cX11_race 108 = .ok (.iload 6, 2) := by decide +kernel
theorem dX11_race_110 : decode cX11_race 110 = .ok (.if_icmp .ge 7, 3) := by decide +kernel
theorem dX11_race_113 : decode cX11_race 113 = .ok (.iconst 0, 1) := by decide +kernel
theorem dX11_race_114 : decode cX11_race 114 = .ok (.goto 4, 3) := by decide +kernel
theorem dX11_race_117 : decode cX11_race 117 = .ok (.iconst 1, 1) := by decide +kernel
theorem dX11_race_118 : decode cX11_race 118 = .ok (.ireturn, 1) := by decide +kernel
theorem dX11_sorted_0 : decode cX11_sorted 0 = .ok (.aload_n 0, 1) := by decide +kernel
theorem dX11_sorted_1 : decode cX11_sorted 1 = .ok (.getfield 19, 3) := by decide +kernel
theorem dX11_sorted_4 : decode cX11_sorted 4 = .ok (.iload_n 1, 1) := by decide +kernel
theorem dX11_sorted_5 : decode cX11_sorted 5 = .ok (.invokevirtual 140, 3) := by decide +kernel
theorem dX11_sorted_8 : decode cX11_sorted 8 = .ok (.astore_n 3, 1) := by decide +kernel
theorem dX11_sorted_9 : decode cX11_sorted 9 = .ok (.aload_n 3, 1) := by decide +kernel
theorem dX11_sorted_10 : decode cX11_sorted 10 = .ok (.ifnull 16, 3) := by decide +kernel
theorem dX11_sorted_13 : decode cX11_sorted 13 = .ok (.aload_n 3, 1) := by decide +kernel
theorem dX11_sorted_14 : decode cX11_sorted 14 = .ok (.getfield 144, 3) := by decide +kernel
theorem dX11_sorted_17 : decode cX11_sorted 17 = .ok (.bipush 7, 2) := by decide +kernel
theorem dX11_sorted_19 : decode cX11_sorted 19 = .ok (.if_icmp .gt 7, 3) := by decide +kernel
theorem dX11_sorted_22 : decode cX11_sorted 22 = .ok (.iload_n 2, 1) := by decide +kernel
theorem dX11_sorted_23 : decode cX11_sorted 23 = .ok (.ifCond .ge 5, 3) := by decide +kernel
theorem dX11_sorted_26 : decode cX11_sorted 26 = .ok (.iconst (-1), 1) := by decide +kernel
theorem dX11_sorted_27 : decode cX11_sorted 27 = .ok (.ireturn, 1) := by decide +kernel
theorem dX11_sorted_28 : decode cX11_sorted 28 = .ok (.aload_n 0, 1) := by decide +kernel
theorem dX11_sorted_29 : decode cX11_sorted 29 = .ok (.getfield 93, 3) := by decide +kernel
theorem dX11_sorted_32 : decode cX11_sorted 32 = .ok (.aload_n 3, 1) := by decide +kernel
theorem dX11_sorted_33 : decode cX11_sorted 33 = .ok (.invokevirtual 219, 3) := by decide +kernel
theorem dX11_sorted_36 : decode cX11_sorted 36 = .ok (.aload_n 0, 1) := by decide +kernel
theorem dX11_sorted_37 : decode cX11_sorted 37 = .ok (.getfield 77, 3) := by decide +kernel
theorem dX11_sorted_40 : decode cX11_sorted 40 = .ok (.aload_n 0, 1) := by decide +kernel
theorem dX11_sorted_41 : decode cX11_sorted 41 = .ok (.getfield 93, 3) := by decide +kernel
theorem dX11_sorted_44 : decode cX11_sorted 44 = .ok (.invokevirtual 298, 3) := by decide +kernel
theorem dX11_sorted_47 : decode cX11_sorted 47 = .ok (.iload_n 2, 1) := by decide +kernel
theorem dX11_sorted_48 : decode cX11_sorted 48 = .ok (.ifCond .ne 13, 3) := by decide +kernel
theorem dX11_sorted_51 : decode cX11_sorted 51 = .ok (.aload_n 0, 1) := by decide +kernel
theorem dX11_sorted_52 : decode cX11_sorted 52 = .ok (.getfield 77, 3) := by decide +kernel
theorem dX11_sorted_55 : decode cX11_sorted 55 = .ok (.getfield 301, 3) := by decide +kernel
theorem dX11_sorted_58 : decode cX11_sorted 58 = .ok (.goto 13, 3) := by decide +kernel
theorem dX11_sorted_61 : decode cX11_sorted 61 = .ok (.aload_n 0, 1) := by decide +kernel
theorem dX11_sorted_62 : decode cX11_sorted 62 = .ok (.getfield 77, 3) := by decide +kernel
theorem dX11_sorted_65 : decode cX11_sorted 65 = .ok (.iload_n 2, 1) := by decide +kernel
theorem dX11_sorted_66 : decode cX11_sorted 66 = .ok (.iconst 1, 1) := by decide +kernel
theorem dX11_sorted_67 : decode cX11_sorted 67 = .ok (.isub, 1) := by decide +kernel
theorem dX11_sorted_68 : decode cX11_sorted 68 = .ok (.invokevirtual 304, 3) := by decide +kernel
theorem dX11_sorted_71 : decode cX11_sorted 71 = .ok (.ireturn, 1) := by decide +kernel
theorem dX11_evenings_0 : decode cX11_evenings 0 = .ok (.aload_n 0, 1) := by decide +kernel
theorem dX11_evenings_1 : decode cX11_evenings 1 = .ok (.getfield 19, 3) := by decide +kernel
theorem dX11_evenings_4 : decode cX11_evenings 4 = .ok (.iload_n 1, 1) := by decide +kernel
theorem dX11_evenings_5 : decode cX11_evenings 5 = .ok (.invokevirtual 140, 3) := by decide +kernel
theorem dX11_evenings_8 : decode cX11_evenings 8 = .ok (.astore 4, 2) := by decide +kernel
theorem dX11_evenings_10 : decode cX11_evenings 10 = .ok (.aload 4, 2) := by decide +kernel
theorem dX11_evenings_12 : decode cX11_evenings 12 = .ok (.ifnonnull 10, 3) := by decide +kernel
theorem dX11_evenings_15 : decode cX11_evenings 15 = .ok (.aload_n 0, 1) := by decide +kernel
theorem dX11_evenings_16 : decode cX11_evenings 16 = .ok (.bipush (-2), 2) := by decide +kernel
theorem dX11_evenings_18 : decode cX11_evenings 18 = .ok (.invokevirtual 118, 3) := by decide +kernel
theorem dX11_evenings_21 : decode cX11_evenings 21 = .ok (.ireturn, 1) := by decide +kernel
theorem dX11_evenings_22 : decode cX11_evenings 22 = .ok (.iload_n 2, 1) := by decide +kernel
theorem dX11_evenings_23 : decode cX11_evenings 23 = .ok (.ifCond .lt 21, 3) := by decide +kernel
theorem dX11_evenings_26 : decode cX11_evenings 26 = .ok (.iload_n 2, 1) := by decide +kernel
theorem dX11_evenings_27 : decode cX11_evenings 27 = .ok (.ldc_w 307, 3) := by decide +kernel
theorem dX11_evenings_30 : decode cX11_evenings 30 = .ok (.if_icmp .gt 14, 3) := by decide +kernel
theorem dX11_evenings_33 : decode cX11_evenings 33 = .ok (.iload_n 3, 1) := by decide +kernel
theorem dX11_evenings_34 : decode cX11_evenings 34 = .ok (.iconst 1, 1) := by decide +kernel
theorem dX11_evenings_35 : decode cX11_evenings 35 = .ok (.if_icmp .lt 9, 3) := by decide +kernel
theorem dX11_evenings_38 : decode cX11_evenings 38 = .ok (.iload_n 3, 1) := by decide +kernel
theorem dX11_evenings_39 : decode cX11_evenings 39 = .ok (.bipush 60, 2) := by decide +kernel
theorem dX11_evenings_41 : decode cX11_evenings 41 = .ok (.if_icmp .le 9, 3) := by decide +kernel
theorem dX11_evenings_44 : decode cX11_evenings 44 = .ok (.aload_n 0, 1) := by decide +kernel
theorem dX11_evenings_45 : decode cX11_evenings 45 = .ok (.iconst (-1), 1) := by decide +kernel
theorem dX11_evenings_46 : decode cX11_evenings 46 = .ok (.invokevirtual 118, 3) := by decide +kernel
theorem dX11_evenings_49 : decode cX11_evenings 49 = .ok (.ireturn, 1) := by decide +kernel
theorem dX11_evenings_50 : decode cX11_evenings 50 = .ok (.aload_n 0, 1) := by decide +kernel
theorem dX11_evenings_51 : decode cX11_evenings 51 = .ok (.getfield 93, 3) := by decide +kernel
theorem dX11_evenings_54 : decode cX11_evenings 54 = .ok (.aload 4, 2) := by decide +kernel
theorem dX11_evenings_56 : decode cX11_evenings 56 = .ok (.invokevirtual 219, 3) := by decide +kernel
theorem dX11_evenings_59 : decode cX11_evenings 59 = .ok (.aload_n 0, 1) := by decide +kernel
theorem dX11_evenings_60 : decode cX11_evenings 60 = .ok (.aload_n 0, 1) := by decide +kernel
theorem dX11_evenings_61 : decode cX11_evenings 61 = .ok (.getfield 86, 3) := by decide +kernel
theorem dX11_evenings_64 : decode cX11_evenings 64 = .ok (.aload_n 0, 1) := by decide +kernel
theorem dX11_evenings_65 : decode cX11_evenings 65 = .ok (.getfield 93, 3) := by decide +kernel
theorem dX11_evenings_68 : decode cX11_evenings 68 = .ok (.iload_n 2, 1) := by decide +kernel
theorem dX11_evenings_69 : decode cX11_evenings 69 = .ok (.iload_n 3, 1) := by decide +kernel
theorem dX11_evenings_70 : decode cX11_evenings 70 = .ok (.invokevirtual 308, 3) := by decide +kernel
theorem dX11_evenings_73 : decode cX11_evenings 73 = .ok (.invokevirtual 137, 3) := by decide +kernel
theorem dX11_evenings_76 : decode cX11_evenings 76 = .ok (.ireturn, 1) := by decide +kernel
theorem dX11_drawn_0 : decode cX11_drawn 0 = .ok (.aload_n 0, 1) := by decide +kernel
theorem dX11_drawn_1 : decode cX11_drawn 1 = .ok (.getfield 86, 3) := by decide +kernel
theorem dX11_drawn_4 : decode cX11_drawn 4 = .ok (.getfield 311, 3) := by decide +kernel
theorem dX11_drawn_7 : decode cX11_drawn 7 = .ok (.ifCond .eq 7, 3) := by decide +kernel
theorem dX11_drawn_10 : decode cX11_drawn 10 = .ok (.iload_n 1, 1) := by decide +kernel
theorem dX11_drawn_11 : decode cX11_drawn 11 = .ok (.ifCond .ge 5, 3) := by decide +kernel
theorem dX11_drawn_14 : decode cX11_drawn 14 = .ok (.iconst (-1), 1) := by decide +kernel
theorem dX11_drawn_15 : decode cX11_drawn 15 = .ok (.ireturn, 1) := by decide +kernel
theorem dX11_drawn_16 : decode cX11_drawn 16 = .ok (.iload_n 1, 1) := by decide +kernel
theorem dX11_drawn_17 : decode cX11_drawn 17 = .ok (.ifCond .ne 11, 3) := by decide +kernel
theorem dX11_drawn_20 : decode cX11_drawn 20 = .ok (.aload_n 0, 1) := by decide +kernel
theorem dX11_drawn_21 : decode cX11_drawn 21 = .ok (.getfield 86, 3) := by decide +kernel
theorem dX11_drawn_24 : decode cX11_drawn 24 = .ok (.getfield 315, 3) := by decide +kernel
theorem dX11_drawn_27 : decode cX11_drawn 27 = .ok (.ireturn, 1) := by decide +kernel
theorem dX11_drawn_28 : decode cX11_drawn 28 = .ok (.iload_n 1, 1) := by decide +kernel
theorem dX11_drawn_29 : decode cX11_drawn 29 = .ok (.iconst 1, 1) := by decide +kernel
theorem dX11_drawn_30 : decode cX11_drawn 30 = .ok (.if_icmp .ne 13, 3) := by decide +kernel
theorem dX11_drawn_33 : decode cX11_drawn 33 = .ok (.aload_n 0, 1) := by decide +kernel
theorem dX11_drawn_34 : decode cX11_drawn 34 = .ok (.getfield 86, 3) := by decide +kernel
theorem dX11_drawn_37 : decode cX11_drawn 37 = .ok (.getfield 318, 3) := by decide +kernel
theorem dX11_drawn_40 : decode cX11_drawn 40 = .ok (.goto 16, 3) := by decide +kernel
theorem dX11_drawn_43 : decode cX11_drawn 43 = .ok (.aload_n 0, 1) := by decide +kernel
theorem dX11_drawn_44 : decode cX11_drawn 44 = .ok (.getfield 86, 3) := by decide +kernel
theorem dX11_drawn_47 : decode cX11_drawn 47 = .ok (.getfield 319, 3) := by decide +kernel
theorem dX11_drawn_50 : decode cX11_drawn 50 = .ok (.iload_n 1, 1) := by decide +kernel
theorem dX11_drawn_51 : decode cX11_drawn 51 = .ok (.iconst 2, 1) := by decide +kernel
theorem dX11_drawn_52 : decode cX11_drawn 52 = .ok (.isub, 1) := by decide +kernel
theorem dX11_drawn_53 : decode cX11_drawn 53 = .ok (.invokevirtual 164, 3) := by decide +kernel
theorem dX11_drawn_56 : decode cX11_drawn 56 = .ok (.ireturn, 1) := by decide +kernel
theorem dX11_image_0 : decode cX11_image 0 = .ok (.iload_n 1, 1) := by decide +kernel
theorem dX11_image_1 : decode cX11_image 1 = .ok (.ifCond .lt 12, 3) := by decide +kernel
theorem dX11_image_4 : decode cX11_image 4 = .ok (.iload_n 1, 1) := by decide +kernel
theorem dX11_image_5 : decode cX11_image 5 = .ok (.aload_n 0, 1) := by decide +kernel
theorem dX11_image_6 : decode cX11_image 6 = .ok (.getfield 23, 3) := by decide +kernel
theorem dX11_image_9 : decode cX11_image 9 = .ok (.arraylength, 1) := by decide +kernel
theorem dX11_image_10 : decode cX11_image 10 = .ok (.if_icmp .lt 9, 3) := by decide +kernel
theorem dX11_image_13 : decode cX11_image 13 = .ok (.aload_n 0, 1) := by decide +kernel
theorem dX11_image_14 : decode cX11_image 14 = .ok (.iconst (-1), 1) := by decide +kernel
theorem dX11_image_15 : decode cX11_image 15 = .ok (.invokevirtual 118, 3) := by decide +kernel
theorem dX11_image_18 : decode cX11_image 18 = .ok (.ireturn, 1) := by decide +kernel
theorem dX11_image_19 : decode cX11_image 19 = .ok (.aload_n 0, 1) := by decide +kernel
theorem dX11_image_20 : decode cX11_image 20 = .ok (.getfield 23, 3) := by decide +kernel
theorem dX11_image_23 : decode cX11_image 23 = .ok (.iload_n 1, 1) := by decide +kernel
theorem dX11_image_24 : decode cX11_image 24 = .ok (.aaload, 1) := by decide +kernel
theorem dX11_image_25 : decode cX11_image 25 = .ok (.aload_n 0, 1) := by decide +kernel
theorem dX11_image_26 : decode cX11_image 26 = .ok (.getfield 19, 3) := by decide +kernel
theorem dX11_image_29 : decode cX11_image 29 = .ok (.invokevirtual 322, 3) := by decide +kernel
theorem dX11_image_32 : decode cX11_image 32 = .ok (.aload_n 0, 1) := by decide +kernel
theorem dX11_image_33 : decode cX11_image 33 = .ok (.getfield 27, 3) := by decide +kernel
theorem dX11_image_36 : decode cX11_image 36 = .ok (.iload_n 1, 1) := by decide +kernel
theorem dX11_image_37 : decode cX11_image 37 = .ok (.iconst 1, 1) := by decide +kernel
theorem dX11_image_38 : decode cX11_image 38 = .ok (.bastore, 1) := by decide +kernel
theorem dX11_image_39 : decode cX11_image 39 = .ok (.aload_n 0, 1) := by decide +kernel
theorem dX11_image_40 : decode cX11_image 40 = .ok (.iconst 0, 1) := by decide +kernel
theorem dX11_image_41 : decode cX11_image 41 = .ok (.invokevirtual 137, 3) := by decide +kernel
theorem dX11_image_44 : decode cX11_image 44 = .ok (.ireturn, 1) := by decide +kernel
theorem dX11_back_0 : decode cX11_back 0 = .ok (.iload_n 1, 1) := by decide +kernel
theorem dX11_back_1 : decode cX11_back 1 = .ok (.ifCond .lt 12, 3) := by decide +kernel
theorem dX11_back_4 : decode cX11_back 4 = .ok (.iload_n 1, 1) := by decide +kernel
theorem dX11_back_5 : decode cX11_back 5 = .ok (.aload_n 0, 1) := by decide +kernel
theorem dX11_back_6 : decode cX11_back 6 = .ok (.getfield 23, 3) := by decide +kernel
theorem dX11_back_9 : decode cX11_back 9 = .ok (.arraylength, 1) := by decide +kernel
theorem dX11_back_10 : decode cX11_back 10 = .ok (.if_icmp .lt 9, 3) := by decide +kernel
theorem dX11_back_13 : decode cX11_back 13 = .ok (.aload_n 0, 1) := by decide +kernel
theorem dX11_back_14 : decode cX11_back 14 = .ok (.iconst (-1), 1) := by decide +kernel
theorem dX11_back_15 : decode cX11_back 15 = .ok (.invokevirtual 118, 3) := by decide +kernel
theorem dX11_back_18 : decode cX11_back 18 = .ok (.ireturn, 1) := by decide +kernel
theorem dX11_back_19 : decode cX11_back 19 = .ok (.aload_n 0, 1) := by decide +kernel
theorem dX11_back_20 : decode cX11_back 20 = .ok (.getfield 27, 3) := by decide +kernel
theorem dX11_back_23 : decode cX11_back 23 = .ok (.iload_n 1, 1) := by decide +kernel
theorem dX11_back_24 : decode cX11_back 24 = .ok (.baload, 1) := by decide +kernel
theorem dX11_back_25 : decode cX11_back 25 = .ok (.ifCond .ne 10, 3) := by decide +kernel
theorem dX11_back_28 : decode cX11_back 28 = .ok (.aload_n 0, 1) := by decide +kernel
theorem dX11_back_29 : decode cX11_back 29 = .ok (.bipush (-2), 2) := by decide +kernel
theorem dX11_back_31 : decode cX11_back 31 = .ok (.invokevirtual 118, 3) := by decide +kernel
theorem dX11_back_34 : decode cX11_back 34 = .ok (.ireturn, 1) := by decide +kernel
theorem dX11_back_35 : decode cX11_back 35 = .ok (.aload_n 0, 1) := by decide +kernel
theorem dX11_back_36 : decode cX11_back 36 = .ok (.getfield 19, 3) := by decide +kernel
theorem dX11_back_39 : decode cX11_back 39 = .ok (.aload_n 0, 1) := by decide +kernel
theorem dX11_back_40 : decode cX11_back 40 = .ok (.getfield 23, 3) := by decide +kernel
theorem dX11_back_43 : decode cX11_back 43 = .ok (.iload_n 1, 1) := by decide +kernel
theorem dX11_back_44 : decode cX11_back 44 = .ok (.aaload, 1) := by decide +kernel
theorem dX11_back_45 : decode cX11_back 45 = .ok (.invokevirtual 322, 3) := by decide +kernel
theorem dX11_back_48 : decode cX11_back 48 = .ok (.aload_n 0, 1) := by decide +kernel
theorem dX11_back_49 : decode cX11_back 49 = .ok (.getfield 34, 3) := by decide +kernel
theorem dX11_back_52 : decode cX11_back 52 = .ok (.invokevirtual 126, 3) := by decide +kernel
theorem dX11_back_55 : decode cX11_back 55 = .ok (.aload_n 0, 1) := by decide +kernel
theorem dX11_back_56 : decode cX11_back 56 = .ok (.iconst 0, 1) := by decide +kernel
theorem dX11_back_57 : decode cX11_back 57 = .ok (.invokevirtual 137, 3) := by decide +kernel
theorem dX11_back_60 : decode cX11_back 60 = .ok (.ireturn, 1) := by decide +kernel
theorem dX11_count_0 : decode cX11_count 0 = .ok (.iload_n 1, 1) := by decide +kernel
theorem dX11_count_1 : decode cX11_count 1 = .ok (.tableswitch 167 0 12 #[67, 75, 83, 91, 99, 107, 114, 121, 128, 135, 143, 151, 159], 67) := by decide +kernel
theorem dX11_count_68 : decode cX11_count 68 = .ok (.aload_n 0, 1) := by decide +kernel
theorem dX11_count_69 : decode cX11_count 69 = .ok (.getfield 19, 3) := by decide +kernel
theorem dX11_count_72 : decode cX11_count 72 = .ok (.getfield 115, 3) := by decide +kernel
theorem dX11_count_75 : decode cX11_count 75 = .ok (.ireturn, 1) := by decide +kernel
theorem dX11_count_76 : decode cX11_count 76 = .ok (.aload_n 0, 1) := by decide +kernel
theorem dX11_count_77 : decode cX11_count 77 = .ok (.getfield 19, 3) := by decide +kernel
theorem dX11_count_80 : decode cX11_count 80 = .ok (.getfield 286, 3) := by decide +kernel
theorem dX11_count_83 : decode cX11_count 83 = .ok (.ireturn, 1) := by decide +kernel
theorem dX11_count_84 : decode cX11_count 84 = .ok (.aload_n 0, 1) := by decide +kernel
theorem dX11_count_85 : decode cX11_count 85 = .ok (.getfield 19, 3) := by decide +kernel
theorem dX11_count_88 : decode cX11_count 88 = .ok (.getfield 173, 3) := by decide +kernel
theorem dX11_count_91 : decode cX11_count 91 = .ok (.ireturn, 1) := by decide +kernel
theorem dX11_count_92 : decode cX11_count 92 = .ok (.aload_n 0, 1) := by decide +kernel
theorem dX11_count_93 : decode cX11_count 93 = .ok (.getfield 34, 3) := by decide +kernel
theorem dX11_count_96 : decode cX11_count 96 = .ok (.getfield 214, 3) := by decide +kernel
theorem dX11_count_99 : decode cX11_count 99 = .ok (.ireturn, 1) := by decide +kernel
theorem dX11_count_100 : decode cX11_count 100 = .ok (.aload_n 0, 1) := by decide +kernel
theorem dX11_count_101 : decode cX11_count 101 = .ok (.getfield 10, 3) := by decide +kernel
theorem dX11_count_104 : decode cX11_count 104 = .ok (.getfield 108, 3) := by decide +kernel
theorem dX11_count_107 : decode cX11_count 107 = .ok (.ireturn, 1) := by decide +kernel
theorem dX11_count_108 : decode cX11_count 108 = .ok (.aload_n 0, 1) := by decide +kernel
theorem dX11_count_109 : decode cX11_count 109 = .ok (.getfield 97, 3) := by decide +kernel
theorem dX11_count_112 : decode cX11_count 112 = .ok (.iconst 1, 1) := by decide +kernel
theorem dX11_count_113 : decode cX11_count 113 = .ok (.iaload, 1) := by decide +kernel
theorem dX11_count_114 : decode cX11_count 114 = .ok (.ireturn, 1) := by decide +kernel
theorem dX11_count_115 : decode cX11_count 115 = .ok (.aload_n 0, 1) := by decide +kernel
theorem dX11_count_116 : decode cX11_count 116 = .ok (.getfield 97, 3) := by decide +kernel
theorem dX11_count_119 : decode cX11_count 119 = .ok (.iconst 2, 1) := by decide +kernel
theorem dX11_count_120 : decode cX11_count 120 = .ok (.iaload, 1) := by decide +kernel
theorem dX11_count_121 : decode cX11_count 121 = .ok (.ireturn, 1) := by decide +kernel
theorem dX11_count_122 : decode cX11_count 122 = .ok (.aload_n 0, 1) := by decide +kernel
theorem dX11_count_123 : decode cX11_count 123 = .ok (.getfield 97, 3) := by decide +kernel
theorem dX11_count_126 : decode cX11_count 126 = .ok (.iconst 3, 1) := by decide +kernel
theorem dX11_count_127 : decode cX11_count 127 = .ok (.iaload, 1) := by decide +kernel
theorem dX11_count_128 : decode cX11_count 128 = .ok (.ireturn, 1) := by decide +kernel
theorem dX11_count_129 : decode cX11_count 129 = .ok (.aload_n 0, 1) := by decide +kernel
theorem dX11_count_130 : decode cX11_count 130 = .ok (.getfield 97, 3) := by decide +kernel
theorem dX11_count_133 : decode cX11_count 133 = .ok (.iconst 5, 1) := by decide +kernel
theorem dX11_count_134 : decode cX11_count 134 = .ok (.iaload, 1) := by decide +kernel
theorem dX11_count_135 : decode cX11_count 135 = .ok (.ireturn, 1) := by decide +kernel
theorem dX11_count_136 : decode cX11_count 136 = .ok (.aload_n 0, 1) := by decide +kernel
theorem dX11_count_137 : decode cX11_count 137 = .ok (.getfield 97, 3) := by decide +kernel
theorem dX11_count_140 : decode cX11_count 140 = .ok (.bipush 6, 2) := by decide +kernel
theorem dX11_count_142 : decode cX11_count 142 = .ok (.iaload, 1) := by decide +kernel
theorem dX11_count_143 : decode cX11_count 143 = .ok (.ireturn, 1) := by decide +kernel
theorem dX11_count_144 : decode cX11_count 144 = .ok (.aload_n 0, 1) := by decide +kernel
theorem dX11_count_145 : decode cX11_count 145 = .ok (.getfield 19, 3) := by decide +kernel
theorem dX11_count_148 : decode cX11_count 148 = .ok (.getfield 200, 3) := by decide +kernel
theorem dX11_count_151 : decode cX11_count 151 = .ok (.ireturn, 1) := by decide +kernel
theorem dX11_count_152 : decode cX11_count 152 = .ok (.aload_n 0, 1) := by decide +kernel
theorem dX11_count_153 : decode cX11_count 153 = .ok (.getfield 19, 3) := by decide +kernel
theorem dX11_count_156 : decode cX11_count 156 = .ok (.getfield 167, 3) := by decide +kernel
theorem dX11_count_159 : decode cX11_count 159 = .ok (.ireturn, 1) := by decide +kernel
theorem dX11_count_160 : decode cX11_count 160 = .ok (.aload_n 0, 1) := by decide +kernel
theorem dX11_count_161 : decode cX11_count 161 = .ok (.getfield 19, 3) := by decide +kernel
theorem dX11_count_164 : decode cX11_count 164 = .ok (.getfield 170, 3) := by decide +kernel
theorem dX11_count_167 : decode cX11_count 167 = .ok (.ireturn, 1) := by decide +kernel
theorem dX11_count_168 : decode cX11_count 168 = .ok (.iconst (-1), 1) := by decide +kernel
theorem dX11_count_169 : decode cX11_count 169 = .ok (.ireturn, 1) := by decide +kernel
theorem dX11_status_0 : decode cX11_status 0 = .ok (.aload_n 0, 1) := by decide +kernel
theorem dX11_status_1 : decode cX11_status 1 = .ok (.getfield 105, 3) := by decide +kernel
theorem dX11_status_4 : decode cX11_status 4 = .ok (.ireturn, 1) := by decide +kernel
theorem dX11_refuse_0 : decode cX11_refuse 0 = .ok (.aload_n 0, 1) := by decide +kernel
theorem dX11_refuse_1 : decode cX11_refuse 1 = .ok (.iload_n 1, 1) := by decide +kernel
theorem dX11_refuse_2 : decode cX11_refuse 2 = .ok (.putfield 105, 3) := by decide +kernel
theorem dX11_refuse_5 : decode cX11_refuse 5 = .ok (.iload_n 1, 1) := by decide +kernel
theorem dX11_refuse_6 : decode cX11_refuse 6 = .ok (.ifCond .ge 20, 3) := by decide +kernel
theorem dX11_refuse_9 : decode cX11_refuse 9 = .ok (.iload_n 1, 1) := by decide +kernel
theorem dX11_refuse_10 : decode cX11_refuse 10 = .ok (.bipush (-6), 2) := by decide +kernel
theorem dX11_refuse_12 : decode cX11_refuse 12 = .ok (.if_icmp .lt 14, 3) := by decide +kernel
theorem dX11_refuse_15 : decode cX11_refuse 15 = .ok (.aload_n 0, 1) := by decide +kernel
theorem dX11_refuse_16 : decode cX11_refuse 16 = .ok (.getfield 97, 3) := by decide +kernel
theorem dX11_refuse_19 : decode cX11_refuse 19 = .ok (.iload_n 1, 1) := by decide +kernel
theorem dX11_refuse_20 : decode cX11_refuse 20 = .ok (.ineg, 1) := by decide +kernel
theorem dX11_refuse_21 : decode cX11_refuse 21 = .ok (.dup2, 1) := by decide +kernel
theorem dX11_refuse_22 : decode cX11_refuse 22 = .ok (.iaload, 1) := by decide +kernel
theorem dX11_refuse_23 : decode cX11_refuse 23 = .ok (.iconst 1, 1) := by decide +kernel
theorem dX11_refuse_24 : decode cX11_refuse 24 = .ok (.iadd, 1) := by decide +kernel
theorem dX11_refuse_25 : decode cX11_refuse 25 = .ok (.iastore, 1) := by decide +kernel
theorem dX11_refuse_26 : decode cX11_refuse 26 = .ok (.iload_n 1, 1) := by decide +kernel
theorem dX11_refuse_27 : decode cX11_refuse 27 = .ok (.ireturn, 1) := by decide +kernel
theorem dX11_answer_0 : decode cX11_answer 0 = .ok (.aload_n 0, 1) := by decide +kernel
theorem dX11_answer_1 : decode cX11_answer 1 = .ok (.iconst 0, 1) := by decide +kernel
theorem dX11_answer_2 : decode cX11_answer 2 = .ok (.putfield 105, 3) := by decide +kernel
theorem dX11_answer_5 : decode cX11_answer 5 = .ok (.iload_n 1, 1) := by decide +kernel
theorem dX11_answer_6 : decode cX11_answer 6 = .ok (.ireturn, 1) := by decide +kernel
theorem dX11_nearest_0 : decode cX11_nearest 0 = .ok (.sipush (-1000), 3) := by decide +kernel
theorem dX11_nearest_3 : decode cX11_nearest 3 = .ok (.sipush 1000, 3) := by decide +kernel
theorem dX11_nearest_6 : decode cX11_nearest 6 = .ok (.iload_n 0, 1) := by decide +kernel
theorem dX11_nearest_7 : decode cX11_nearest 7 = .ok (.invokestatic 324, 3) := by decide +kernel
theorem dX11_nearest_10 : decode cX11_nearest 10 = .ok (.invokestatic 329, 3) := by decide +kernel
theorem dX11_nearest_13 : decode cX11_nearest 13 = .ok (.ireturn, 1) := by decide +kernel
theorem dJ6_bitCount_0f7a4_0 : decode cJ6_bitCount_0f7a4 0 = .ok (.iload_n 0, 1) := by decide +kernel
theorem dJ6_bitCount_0f7a4_1 : decode cJ6_bitCount_0f7a4 1 = .ok (.iload_n 0, 1) := by decide +kernel
theorem dJ6_bitCount_0f7a4_2 : decode cJ6_bitCount_0f7a4 2 = .ok (.iconst 1, 1) := by decide +kernel
theorem dJ6_bitCount_0f7a4_3 : decode cJ6_bitCount_0f7a4 3 = .ok (.iushr, 1) := by decide +kernel
theorem dJ6_bitCount_0f7a4_4 : decode cJ6_bitCount_0f7a4 4 = .ok (.ldc_w 265, 3) := by decide +kernel
theorem dJ6_bitCount_0f7a4_7 : decode cJ6_bitCount_0f7a4 7 = .ok (.iand, 1) := by decide +kernel
theorem dJ6_bitCount_0f7a4_8 : decode cJ6_bitCount_0f7a4 8 = .ok (.isub, 1) := by decide +kernel
theorem dJ6_bitCount_0f7a4_9 : decode cJ6_bitCount_0f7a4 9 = .ok (.istore_n 0, 1) := by decide +kernel
theorem dJ6_bitCount_0f7a4_10 : decode cJ6_bitCount_0f7a4 10 = .ok (.iload_n 0, 1) := by decide +kernel
theorem dJ6_bitCount_0f7a4_11 : decode cJ6_bitCount_0f7a4 11 = .ok (.ldc_w 266, 3) := by decide +kernel
theorem dJ6_bitCount_0f7a4_14 : decode cJ6_bitCount_0f7a4 14 = .ok (.iand, 1) := by decide +kernel
theorem dJ6_bitCount_0f7a4_15 : decode cJ6_bitCount_0f7a4 15 = .ok (.iload_n 0, 1) := by decide +kernel
theorem dJ6_bitCount_0f7a4_16 : decode cJ6_bitCount_0f7a4 16 = .ok (.iconst 2, 1) := by decide +kernel
theorem dJ6_bitCount_0f7a4_17 : decode cJ6_bitCount_0f7a4 17 = .ok (.iushr, 1) := by decide +kernel
theorem dJ6_bitCount_0f7a4_18 : decode cJ6_bitCount_0f7a4 18 = .ok (.ldc_w 266, 3) := by decide +kernel
theorem dJ6_bitCount_0f7a4_21 : decode cJ6_bitCount_0f7a4 21 = .ok (.iand, 1) := by decide +kernel
theorem dJ6_bitCount_0f7a4_22 : decode cJ6_bitCount_0f7a4 22 = .ok (.iadd, 1) := by decide +kernel
theorem dJ6_bitCount_0f7a4_23 : decode cJ6_bitCount_0f7a4 23 = .ok (.istore_n 0, 1) := by decide +kernel
theorem dJ6_bitCount_0f7a4_24 : decode cJ6_bitCount_0f7a4 24 = .ok (.iload_n 0, 1) := by decide +kernel
theorem dJ6_bitCount_0f7a4_25 : decode cJ6_bitCount_0f7a4 25 = .ok (.iload_n 0, 1) := by decide +kernel
theorem dJ6_bitCount_0f7a4_26 : decode cJ6_bitCount_0f7a4 26 = .ok (.iconst 4, 1) := by decide +kernel
theorem dJ6_bitCount_0f7a4_27 : decode cJ6_bitCount_0f7a4 27 = .ok (.iushr, 1) := by decide +kernel
theorem dJ6_bitCount_0f7a4_28 : decode cJ6_bitCount_0f7a4 28 = .ok (.iadd, 1) := by decide +kernel
theorem dJ6_bitCount_0f7a4_29 : decode cJ6_bitCount_0f7a4 29 = .ok (.ldc_w 267, 3) := by decide +kernel
theorem dJ6_bitCount_0f7a4_32 : decode cJ6_bitCount_0f7a4 32 = .ok (.iand, 1) := by decide +kernel
theorem dJ6_bitCount_0f7a4_33 : decode cJ6_bitCount_0f7a4 33 = .ok (.istore_n 0, 1) := by decide +kernel
theorem dJ6_bitCount_0f7a4_34 : decode cJ6_bitCount_0f7a4 34 = .ok (.iload_n 0, 1) := by decide +kernel
theorem dJ6_bitCount_0f7a4_35 : decode cJ6_bitCount_0f7a4 35 = .ok (.iload_n 0, 1) := by decide +kernel
theorem dJ6_bitCount_0f7a4_36 : decode cJ6_bitCount_0f7a4 36 = .ok (.bipush 8, 2) := by decide +kernel
theorem dJ6_bitCount_0f7a4_38 : decode cJ6_bitCount_0f7a4 38 = .ok (.iushr, 1) := by decide +kernel
theorem dJ6_bitCount_0f7a4_39 : decode cJ6_bitCount_0f7a4 39 = .ok (.iadd, 1) := by decide +kernel
theorem dJ6_bitCount_0f7a4_40 : decode cJ6_bitCount_0f7a4 40 = .ok (.istore_n 0, 1) := by decide +kernel
theorem dJ6_bitCount_0f7a4_41 : decode cJ6_bitCount_0f7a4 41 = .ok (.iload_n 0, 1) := by decide +kernel
theorem dJ6_bitCount_0f7a4_42 : decode cJ6_bitCount_0f7a4 42 = .ok (.iload_n 0, 1) := by decide +kernel
theorem dJ6_bitCount_0f7a4_43 : decode cJ6_bitCount_0f7a4 43 = .ok (.bipush 16, 2) := by decide +kernel
theorem dJ6_bitCount_0f7a4_45 : decode cJ6_bitCount_0f7a4 45 = .ok (.iushr, 1) := by decide +kernel
theorem dJ6_bitCount_0f7a4_46 : decode cJ6_bitCount_0f7a4 46 = .ok (.iadd, 1) := by decide +kernel
theorem dJ6_bitCount_0f7a4_47 : decode cJ6_bitCount_0f7a4 47 = .ok (.istore_n 0, 1) := by decide +kernel
theorem dJ6_bitCount_0f7a4_48 : decode cJ6_bitCount_0f7a4 48 = .ok (.iload_n 0, 1) := by decide +kernel
theorem dJ6_bitCount_0f7a4_49 : decode cJ6_bitCount_0f7a4 49 = .ok (.bipush 63, 2) := by decide +kernel
theorem dJ6_bitCount_0f7a4_51 : decode cJ6_bitCount_0f7a4 51 = .ok (.iand, 1) := by decide +kernel
theorem dJ6_bitCount_0f7a4_52 : decode cJ6_bitCount_0f7a4 52 = .ok (.ireturn, 1) := by decide +kernel
theorem dJ0_length_8abf5_0 : decode cJ0_length_8abf5 0 = .ok (.aload_n 0, 1) := by decide +kernel
theorem dJ0_length_8abf5_1 : decode cJ0_length_8abf5 1 = .ok (.getfield 9, 3) := by decide +kernel
theorem dJ0_length_8abf5_4 : decode cJ0_length_8abf5 4 = .ok (.arraylength, 1) := by decide +kernel
theorem dJ0_length_8abf5_5 : decode cJ0_length_8abf5 5 = .ok (.aload_n 0, 1) := by decide +kernel
theorem dJ0_length_8abf5_6 : decode cJ0_length_8abf5 6 = .ok (.invokevirtual 335, 3) := by decide +kernel
theorem dJ0_length_8abf5_9 : decode cJ0_length_8abf5 9 = .ok (.ishr, 1) := by decide +kernel
theorem dJ0_length_8abf5_10 : decode cJ0_length_8abf5 10 = .ok (.ireturn, 1) := by decide +kernel
theorem dJ0_charAt_5068e_0 : decode cJ0_charAt_5068e 0 = .ok (.aload_n 0, 1) := by decide +kernel
theorem dJ0_charAt_5068e_1 : decode cJ0_charAt_5068e 1 = .ok (.invokevirtual 492, 3) := by decide +kernel
theorem dJ0_charAt_5068e_4 : decode cJ0_charAt_5068e 4 = .ok (.ifCond .eq 12, 3) := by decide +kernel
theorem dJ0_charAt_5068e_7 : decode cJ0_charAt_5068e 7 = .ok (.aload_n 0, 1) := by decide +kernel
theorem dJ0_charAt_5068e_8 : decode cJ0_charAt_5068e 8 = .ok (.getfield 9, 3) := by decide +kernel
theorem dJ0_charAt_5068e_11 : decode cJ0_charAt_5068e 11 = .ok (.iload_n 1, 1) := by decide +kernel
theorem dJ0_charAt_5068e_12 : decode cJ0_charAt_5068e 12 = .ok (.invokestatic 495, 3) := by decide +kernel
theorem dJ0_charAt_5068e_15 : decode cJ0_charAt_5068e 15 = .ok (.ireturn, 1) := by decide +kernel
theorem dJ0_charAt_5068e_16 : decode cJ0_charAt_5068e 16 = .ok (.aload_n 0, 1) := by decide +kernel
theorem dJ0_charAt_5068e_17 : decode cJ0_charAt_5068e 17 = .ok (.getfield 9, 3) := by decide +kernel
theorem dJ0_charAt_5068e_20 : decode cJ0_charAt_5068e 20 = .ok (.iload_n 1, 1) := by decide +kernel
theorem dJ0_charAt_5068e_21 : decode cJ0_charAt_5068e 21 = .ok (.invokestatic 498, 3) := by decide +kernel
theorem dJ0_charAt_5068e_24 : decode cJ0_charAt_5068e 24 = .ok (.ireturn, 1) := by decide +kernel
theorem dJ0_coder_7d493_0 : decode cJ0_coder_7d493 0 = .ok (.getstatic 38, 3) := by decide +kernel
theorem dJ0_coder_7d493_3 : decode cJ0_coder_7d493 3 = .ok (.ifCond .eq 10, 3) := by decide +kernel
theorem dJ0_coder_7d493_6 : decode cJ0_coder_7d493 6 = .ok (.aload_n 0, 1) := by decide +kernel
theorem dJ0_coder_7d493_7 : decode cJ0_coder_7d493 7 = .ok (.getfield 15, 3) := by decide +kernel
theorem dJ0_coder_7d493_10 : decode cJ0_coder_7d493 10 = .ok (.goto 4, 3) := by decide +kernel
theorem dJ0_coder_7d493_13 : decode cJ0_coder_7d493 13 = .ok (.iconst 1, 1) := by decide +kernel
theorem dJ0_coder_7d493_14 : decode cJ0_coder_7d493 14 = .ok (.ireturn, 1) := by decide +kernel
theorem dJ0_isLatin1_aae02_0 : decode cJ0_isLatin1_aae02 0 = .ok (.getstatic 38, 3) := by decide +kernel
theorem dJ0_isLatin1_aae02_3 : decode cJ0_isLatin1_aae02 3 = .ok (.ifCond .eq 14, 3) := by decide +kernel
theorem dJ0_isLatin1_aae02_6 : decode cJ0_isLatin1_aae02 6 = .ok (.aload_n 0, 1) := by decide +kernel
theorem dJ0_isLatin1_aae02_7 : decode cJ0_isLatin1_aae02 7 = .ok (.getfield 15, 3) := by decide +kernel
theorem dJ0_isLatin1_aae02_10 : decode cJ0_isLatin1_aae02 10 = .ok (.ifCond .ne 7, 3) := by decide +kernel
theorem dJ0_isLatin1_aae02_13 : decode cJ0_isLatin1_aae02 13 = .ok (.iconst 1, 1) := by decide +kernel
theorem dJ0_isLatin1_aae02_14 : decode cJ0_isLatin1_aae02 14 = .ok (.goto 4, 3) := by decide +kernel
theorem dJ0_isLatin1_aae02_17 : decode cJ0_isLatin1_aae02 17 = .ok (.iconst 0, 1) := by decide +kernel
theorem dJ0_isLatin1_aae02_18 : decode cJ0_isLatin1_aae02 18 = .ok (.ireturn, 1) := by decide +kernel
theorem dJ0_checkIndex_df160_0 : decode cJ0_checkIndex_df160 0 = .ok (.iload_n 0, 1) := by decide +kernel
theorem dJ0_checkIndex_df160_1 : decode cJ0_checkIndex_df160 1 = .ok (.iload_n 1, 1) := by decide +kernel
theorem dJ0_checkIndex_df160_2 : decode cJ0_checkIndex_df160 2 = .ok (.getstatic 1053, 3) := by decide +kernel
theorem dJ0_checkIndex_df160_5 : decode cJ0_checkIndex_df160 5 = .ok (.invokestatic 1059, 3) := by decide +kernel
theorem dJ0_checkIndex_df160_8 : decode cJ0_checkIndex_df160 8 = .ok (.pop, 1) := by decide +kernel
theorem dJ0_checkIndex_df160_9 : decode cJ0_checkIndex_df160 9 = .ok (.return_, 1) := by decide +kernel
theorem dJ1_charAt_3b067_0 : decode cJ1_charAt_3b067 0 = .ok (.iload_n 1, 1) := by decide +kernel
theorem dJ1_charAt_3b067_1 : decode cJ1_charAt_3b067 1 = .ok (.aload_n 0, 1) := by decide +kernel
theorem dJ1_charAt_3b067_2 : decode cJ1_charAt_3b067 2 = .ok (.arraylength, 1) := by decide +kernel
theorem dJ1_charAt_3b067_3 : decode cJ1_charAt_3b067 3 = .ok (.invokestatic 9, 3) := by decide +kernel
theorem dJ1_charAt_3b067_6 : decode cJ1_charAt_3b067 6 = .ok (.aload_n 0, 1) := by decide +kernel
theorem dJ1_charAt_3b067_7 : decode cJ1_charAt_3b067 7 = .ok (.iload_n 1, 1) := by decide +kernel
theorem dJ1_charAt_3b067_8 : decode cJ1_charAt_3b067 8 = .ok (.baload, 1) := by decide +kernel
theorem dJ1_charAt_3b067_9 : decode cJ1_charAt_3b067 9 = .ok (.sipush 255, 3) := by decide +kernel
theorem dJ1_charAt_3b067_12 : decode cJ1_charAt_3b067 12 = .ok (.iand, 1) := by decide +kernel
theorem dJ1_charAt_3b067_13 : decode cJ1_charAt_3b067 13 = .ok (.i2c, 1) := by decide +kernel
theorem dJ1_charAt_3b067_14 : decode cJ1_charAt_3b067 14 = .ok (.ireturn, 1) := by decide +kernel
theorem dJ7_fill_53178_0 : decode cJ7_fill_53178 0 = .ok (.iconst 0, 1) := by decide +kernel
theorem dJ7_fill_53178_1 : decode cJ7_fill_53178 1 = .ok (.istore_n 2, 1) := by decide +kernel
theorem dJ7_fill_53178_2 : decode cJ7_fill_53178 2 = .ok (.aload_n 0, 1) := by decide +kernel
theorem dJ7_fill_53178_3 : decode cJ7_fill_53178 3 = .ok (.arraylength, 1) := by decide +kernel
theorem dJ7_fill_53178_4 : decode cJ7_fill_53178 4 = .ok (.istore_n 3, 1) := by decide +kernel
theorem dJ7_fill_53178_5 : decode cJ7_fill_53178 5 = .ok (.iload_n 2, 1) := by decide +kernel
theorem dJ7_fill_53178_6 : decode cJ7_fill_53178 6 = .ok (.iload_n 3, 1) := by decide +kernel
theorem dJ7_fill_53178_7 : decode cJ7_fill_53178 7 = .ok (.if_icmp .ge 13, 3) := by decide +kernel
theorem dJ7_fill_53178_10 : decode cJ7_fill_53178 10 = .ok (.aload_n 0, 1) := by decide +kernel
theorem dJ7_fill_53178_11 : decode cJ7_fill_53178 11 = .ok (.iload_n 2, 1) := by decide +kernel
theorem dJ7_fill_53178_12 : decode cJ7_fill_53178 12 = .ok (.iload_n 1, 1) := by decide +kernel
theorem dJ7_fill_53178_13 : decode cJ7_fill_53178 13 = .ok (.iastore, 1) := by decide +kernel
theorem dJ7_fill_53178_14 : decode cJ7_fill_53178 14 = .ok (.iinc 2 1, 3) := by decide +kernel
theorem dJ7_fill_53178_17 : decode cJ7_fill_53178 17 = .ok (.goto (-12), 3) := by decide +kernel
theorem dJ7_fill_53178_20 : decode cJ7_fill_53178 20 = .ok (.return_, 1) := by decide +kernel
theorem dJ3_checkIndex_8e157_0 : decode cJ3_checkIndex_8e157 0 = .ok (.iload_n 0, 1) := by decide +kernel
theorem dJ3_checkIndex_8e157_1 : decode cJ3_checkIndex_8e157 1 = .ok (.ifCond .lt 8, 3) := by decide +kernel
theorem dJ3_checkIndex_8e157_4 : decode cJ3_checkIndex_8e157 4 = .ok (.iload_n 0, 1) := by decide +kernel
theorem dJ3_checkIndex_8e157_5 : decode cJ3_checkIndex_8e157 5 = .ok (.iload_n 1, 1) := by decide +kernel
theorem dJ3_checkIndex_8e157_6 : decode cJ3_checkIndex_8e157 6 = .ok (.if_icmp .lt 10, 3) := by decide +kernel
theorem dJ3_checkIndex_8e157_9 : decode cJ3_checkIndex_8e157 9 = .ok (.aload_n 2, 1) := by decide +kernel
theorem dJ3_checkIndex_8e157_10 : decode cJ3_checkIndex_8e157 10 = .ok (.iload_n 0, 1) := by decide +kernel
theorem dJ3_checkIndex_8e157_11 : decode cJ3_checkIndex_8e157 11 = .ok (.iload_n 1, 1) := by decide +kernel
theorem dJ3_checkIndex_8e157_12 : decode cJ3_checkIndex_8e157 12 = .ok (.invokestatic 95, 3) := by decide +kernel
theorem dJ3_checkIndex_8e157_15 : decode cJ3_checkIndex_8e157 15 = .ok (.athrow, 1) := by decide +kernel
theorem dJ3_checkIndex_8e157_16 : decode cJ3_checkIndex_8e157 16 = .ok (.iload_n 0, 1) := by decide +kernel
theorem dJ3_checkIndex_8e157_17 : decode cJ3_checkIndex_8e157 17 = .ok (.ireturn, 1) := by decide +kernel
