/-! methods that can be called: mX.., MX..; their words: iX.. (an instance method), sX.. (selected), tX.. (static) -/
set_option maxRecDepth 20000 in
theorem ziRL : Cond.initialized RL ∈ am_tbl := am_t1 0 rfl rfl
set_option maxRecDepth 20000 in
theorem ziRX11 : Cond.initialized RX11 ∈ am_tbl := am_t1 1 rfl rfl
set_option maxRecDepth 20000 in
theorem ziRX8 : Cond.initialized RX8 ∈ am_tbl := am_t1 2 rfl rfl
set_option maxRecDepth 20000 in
theorem ziRX7 : Cond.initialized RX7 ∈ am_tbl := am_t1 3 rfl rfl
set_option maxRecDepth 20000 in
theorem ziRX4 : Cond.initialized RX4 ∈ am_tbl := am_t1 4 rfl rfl
set_option maxRecDepth 20000 in
theorem ziRX2 : Cond.initialized RX2 ∈ am_tbl := am_t1 5 rfl rfl
set_option maxRecDepth 20000 in
theorem ziRX3 : Cond.initialized RX3 ∈ am_tbl := am_t1 6 rfl rfl
set_option maxRecDepth 20000 in
theorem ziRX9 : Cond.initialized RX9 ∈ am_tbl := am_t1 7 rfl rfl
set_option maxRecDepth 20000 in
theorem ziRX6 : Cond.initialized RX6 ∈ am_tbl := am_t1 8 rfl rfl
set_option maxRecDepth 20000 in
theorem ziRX1 : Cond.initialized RX1 ∈ am_tbl := am_t1 9 rfl rfl
set_option maxRecDepth 20000 in
theorem ziRX10 : Cond.initialized RX10 ∈ am_tbl := am_t1 10 rfl rfl
set_option maxRecDepth 20000 in
theorem ziRX5 : Cond.initialized RX5 ∈ am_tbl := am_t1 11 rfl rfl
set_option maxRecDepth 20000 in
theorem ziRX0 : Cond.initialized RX0 ∈ am_tbl := am_t1 12 rfl rfl
set_option maxRecDepth 20000 in
theorem ziRX12 : Cond.initialized RX12 ∈ am_tbl := am_t1 13 rfl rfl
set_option maxRecDepth 20000 in
theorem ziRJ9 : Cond.initialized RJ9 ∈ am_tbl := am_t1 14 rfl rfl
set_option maxRecDepth 20000 in
theorem ziRJ0 : Cond.initialized RJ0 ∈ am_tbl := am_t1 15 rfl rfl
set_option maxRecDepth 20000 in
theorem ziRJ1 : Cond.initialized RJ1 ∈ am_tbl := am_t1 16 rfl rfl
set_option maxRecDepth 20000 in
theorem ziRJ3 : Cond.initialized RJ3 ∈ am_tbl := am_t1 17 rfl rfl
set_option maxRecDepth 20000 in
theorem ziRJ2 : Cond.initialized RJ2 ∈ am_tbl := am_t1 18 rfl rfl
set_option maxRecDepth 20000 in
theorem ziRJ10 : Cond.initialized RJ10 ∈ am_tbl := am_t1 19 rfl rfl
set_option maxRecDepth 20000 in
theorem ziRJ7 : Cond.initialized RJ7 ∈ am_tbl := am_t1 20 rfl rfl
set_option maxRecDepth 20000 in
theorem ziRJ6 : Cond.initialized RJ6 ∈ am_tbl := am_t1 21 rfl rfl
abbrev mX11_init : am_M := (yX11_init, cX11_init, 2, none)
set_option maxRecDepth 20000 in
theorem MX11_init : am_MM 0 mX11_init := ⟨am_t1 26 rfl rfl, ziRX11, ⟨by decide +kernel, by decide +kernel⟩, by decide +kernel, by decide +kernel, by decide⟩
set_option maxRecDepth 20000 in
theorem iX11_init : Cond.instanceMethod yX11_init ∈ am_tbl := am_t1 25 rfl rfl
abbrev mX8_init : am_M := (yX8_init, cX8_init, 1, none)
set_option maxRecDepth 20000 in
theorem MX8_init : am_MM 0 mX8_init := ⟨am_t1 34 rfl rfl, ziRX8, ⟨by decide +kernel, by decide +kernel⟩, by decide +kernel, by decide +kernel, by decide⟩
set_option maxRecDepth 20000 in
theorem iX8_init : Cond.instanceMethod yX8_init ∈ am_tbl := am_t1 33 rfl rfl
abbrev mX7_init : am_M := (yX7_init, cX7_init, 2, none)
set_option maxRecDepth 20000 in
theorem MX7_init : am_MM 0 mX7_init := ⟨am_t1 61 rfl rfl, ziRX7, ⟨by decide +kernel, by decide +kernel⟩, by decide +kernel, by decide +kernel, by decide⟩
set_option maxRecDepth 20000 in
theorem iX7_init : Cond.instanceMethod yX7_init ∈ am_tbl := am_t1 60 rfl rfl
abbrev mX4_init : am_M := (yX4_init, cX4_init, 1, none)
set_option maxRecDepth 20000 in
theorem MX4_init : am_MM 0 mX4_init := ⟨am_t1 70 rfl rfl, ziRX4, ⟨by decide +kernel, by decide +kernel⟩, by decide +kernel, by decide +kernel, by decide⟩
set_option maxRecDepth 20000 in
theorem iX4_init : Cond.instanceMethod yX4_init ∈ am_tbl := am_t1 69 rfl rfl
abbrev mX2_init : am_M := (yX2_init, cX2_init, 2, none)
set_option maxRecDepth 20000 in
theorem MX2_init : am_MM 0 mX2_init := ⟨am_t1 161 rfl rfl, ziRX2, ⟨by decide +kernel, by decide +kernel⟩, by decide +kernel, by decide +kernel, by decide⟩
set_option maxRecDepth 20000 in
theorem iX2_init : Cond.instanceMethod yX2_init ∈ am_tbl := am_t1 160 rfl rfl
abbrev mX3_init : am_M := (yX3_init, cX3_init, 2, none)
set_option maxRecDepth 20000 in
theorem MX3_init : am_MM 1 mX3_init := ⟨am_t1 184 rfl rfl, ziRX3, ⟨by decide +kernel, by decide +kernel⟩, by decide +kernel, by decide +kernel, by decide⟩
set_option maxRecDepth 20000 in
theorem iX3_init : Cond.instanceMethod yX3_init ∈ am_tbl := am_t1 183 rfl rfl
abbrev mX9_init : am_M := (yX9_init, cX9_init, 1, none)
set_option maxRecDepth 20000 in
theorem MX9_init : am_MM 0 mX9_init := ⟨am_t1 190 rfl rfl, ziRX9, ⟨by decide +kernel, by decide +kernel⟩, by decide +kernel, by decide +kernel, by decide⟩
set_option maxRecDepth 20000 in
theorem iX9_init : Cond.instanceMethod yX9_init ∈ am_tbl := am_t1 189 rfl rfl
abbrev mX6_init : am_M := (yX6_init, cX6_init, 2, none)
set_option maxRecDepth 20000 in
theorem MX6_init : am_MM 1 mX6_init := ⟨am_t2 1 rfl rfl, ziRX6, ⟨by decide +kernel, by decide +kernel⟩, by decide +kernel, by decide +kernel, by decide⟩
set_option maxRecDepth 20000 in
theorem iX6_init : Cond.instanceMethod yX6_init ∈ am_tbl := am_t2 0 rfl rfl
abbrev mX1_init : am_M := (yX1_init, cX1_init, 4, none)
set_option maxRecDepth 20000 in
theorem MX1_init : am_MM 3 mX1_init := ⟨am_t2 52 rfl rfl, ziRX1, ⟨by decide +kernel, by decide +kernel⟩, by decide +kernel, by decide +kernel, by decide⟩
set_option maxRecDepth 20000 in
theorem iX1_init : Cond.instanceMethod yX1_init ∈ am_tbl := am_t2 51 rfl rfl
abbrev mX10_init : am_M := (yX10_init, cX10_init, 3, none)
set_option maxRecDepth 20000 in
theorem MX10_init : am_MM 2 mX10_init := ⟨am_t2 91 rfl rfl, ziRX10, ⟨by decide +kernel, by decide +kernel⟩, by decide +kernel, by decide +kernel, by decide⟩
set_option maxRecDepth 20000 in
theorem iX10_init : Cond.instanceMethod yX10_init ∈ am_tbl := am_t2 90 rfl rfl
abbrev mX5_init : am_M := (yX5_init, cX5_init, 1, none)
set_option maxRecDepth 20000 in
theorem MX5_init : am_MM 0 mX5_init := ⟨am_t2 163 rfl rfl, ziRX5, ⟨by decide +kernel, by decide +kernel⟩, by decide +kernel, by decide +kernel, by decide⟩
set_option maxRecDepth 20000 in
theorem iX5_init : Cond.instanceMethod yX5_init ∈ am_tbl := am_t2 162 rfl rfl
abbrev mX0_init : am_M := (yX0_init, cX0_init, 2, none)
set_option maxRecDepth 20000 in
theorem MX0_init : am_MM 1 mX0_init := ⟨am_t2 183 rfl rfl, ziRX0, ⟨by decide +kernel, by decide +kernel⟩, by decide +kernel, by decide +kernel, by decide⟩
set_option maxRecDepth 20000 in
theorem iX0_init : Cond.instanceMethod yX0_init ∈ am_tbl := am_t2 182 rfl rfl
abbrev mX11_feed : am_M := (yX11_feed, cX11_feed, 6, some .int)
set_option maxRecDepth 20000 in
theorem MX11_feed : am_MM 5 mX11_feed := ⟨am_t3 21 rfl rfl, ziRX11, ⟨by decide +kernel, by decide +kernel⟩, by decide +kernel, by decide +kernel, by decide⟩
set_option maxRecDepth 20000 in
theorem iX11_feed : Cond.instanceMethod yX11_feed ∈ am_tbl := am_t3 19 rfl rfl
set_option maxRecDepth 20000 in
theorem sX11_feed : Cond.selects RX11 yX11_feed yX11_feed ∈ am_tbl := am_t3 20 rfl rfl
abbrev mX8_addFour : am_M := (yX8_addFour, cX8_addFour, 3, none)
set_option maxRecDepth 20000 in
theorem MX8_addFour : am_MM 1 mX8_addFour := ⟨am_t3 25 rfl rfl, ziRX8, ⟨by decide +kernel, by decide +kernel⟩, by decide +kernel, by decide +kernel, by decide⟩
set_option maxRecDepth 20000 in
theorem iX8_addFour : Cond.instanceMethod yX8_addFour ∈ am_tbl := am_t3 23 rfl rfl
set_option maxRecDepth 20000 in
theorem sX8_addFour : Cond.selects RX8 yX8_addFour yX8_addFour ∈ am_tbl := am_t3 24 rfl rfl
abbrev mX11_end : am_M := (yX11_end, cX11_end, 2, some .int)
set_option maxRecDepth 20000 in
theorem MX11_end : am_MM 1 mX11_end := ⟨am_t3 29 rfl rfl, ziRX11, ⟨by decide +kernel, by decide +kernel⟩, by decide +kernel, by decide +kernel, by decide⟩
set_option maxRecDepth 20000 in
theorem iX11_end : Cond.instanceMethod yX11_end ∈ am_tbl := am_t3 27 rfl rfl
set_option maxRecDepth 20000 in
theorem sX11_end : Cond.selects RX11 yX11_end yX11_end ∈ am_tbl := am_t3 28 rfl rfl
abbrev mX11_heap : am_M := (yX11_heap, cX11_heap, 2, some .int)
set_option maxRecDepth 20000 in
theorem MX11_heap : am_MM 0 mX11_heap := ⟨am_t3 33 rfl rfl, ziRX11, ⟨by decide +kernel, by decide +kernel⟩, by decide +kernel, by decide +kernel, by decide⟩
set_option maxRecDepth 20000 in
theorem iX11_heap : Cond.instanceMethod yX11_heap ∈ am_tbl := am_t3 31 rfl rfl
set_option maxRecDepth 20000 in
theorem sX11_heap : Cond.selects RX11 yX11_heap yX11_heap ∈ am_tbl := am_t3 32 rfl rfl
abbrev mX11_refuse : am_M := (yX11_refuse, cX11_refuse, 2, some .int)
set_option maxRecDepth 20000 in
theorem MX11_refuse : am_MM 1 mX11_refuse := ⟨am_t3 37 rfl rfl, ziRX11, ⟨by decide +kernel, by decide +kernel⟩, by decide +kernel, by decide +kernel, by decide⟩
set_option maxRecDepth 20000 in
theorem iX11_refuse : Cond.instanceMethod yX11_refuse ∈ am_tbl := am_t3 36 rfl rfl
set_option maxRecDepth 20000 in
theorem sX11_refuse : Cond.selects RX11 yX11_refuse yX11_refuse ∈ am_tbl := am_tbl_of 0 rfl rfl
abbrev mX8_holdsCards : am_M := (yX8_holdsCards, cX8_holdsCards, 3, some .boolean)
set_option maxRecDepth 20000 in
theorem MX8_holdsCards : am_MM 1 mX8_holdsCards := ⟨am_t3 41 rfl rfl, ziRX8, ⟨by decide +kernel, by decide +kernel⟩, by decide +kernel, by decide +kernel, by decide⟩
set_option maxRecDepth 20000 in
theorem iX8_holdsCards : Cond.instanceMethod yX8_holdsCards ∈ am_tbl := am_t3 39 rfl rfl
set_option maxRecDepth 20000 in
theorem sX8_holdsCards : Cond.selects RX8 yX8_holdsCards yX8_holdsCards ∈ am_tbl := am_t3 40 rfl rfl
abbrev mX2_clear : am_M := (yX2_clear, cX2_clear, 1, none)
set_option maxRecDepth 20000 in
theorem MX2_clear : am_MM 0 mX2_clear := ⟨am_t3 45 rfl rfl, ziRX2, ⟨by decide +kernel, by decide +kernel⟩, by decide +kernel, by decide +kernel, by decide⟩
set_option maxRecDepth 20000 in
theorem iX2_clear : Cond.instanceMethod yX2_clear ∈ am_tbl := am_t3 43 rfl rfl
set_option maxRecDepth 20000 in
theorem sX2_clear : Cond.selects RX2 yX2_clear yX2_clear ∈ am_tbl := am_t3 44 rfl rfl
abbrev mX7_addHeap : am_M := (yX7_addHeap, cX7_addHeap, 5, some .int)
set_option maxRecDepth 20000 in
theorem MX7_addHeap : am_MM 2 mX7_addHeap := ⟨am_t3 49 rfl rfl, ziRX7, ⟨by decide +kernel, by decide +kernel⟩, by decide +kernel, by decide +kernel, by decide⟩
set_option maxRecDepth 20000 in
theorem iX7_addHeap : Cond.instanceMethod yX7_addHeap ∈ am_tbl := am_t3 47 rfl rfl
set_option maxRecDepth 20000 in
theorem sX7_addHeap : Cond.selects RX7 yX7_addHeap yX7_addHeap ∈ am_tbl := am_t3 48 rfl rfl
abbrev mX11_answer : am_M := (yX11_answer, cX11_answer, 2, some .int)
set_option maxRecDepth 20000 in
theorem MX11_answer : am_MM 1 mX11_answer := ⟨am_t3 59 rfl rfl, ziRX11, ⟨by decide +kernel, by decide +kernel⟩, by decide +kernel, by decide +kernel, by decide⟩
set_option maxRecDepth 20000 in
theorem iX11_answer : Cond.instanceMethod yX11_answer ∈ am_tbl := am_t3 58 rfl rfl
set_option maxRecDepth 20000 in
theorem sX11_answer : Cond.selects RX11 yX11_answer yX11_answer ∈ am_tbl := am_tbl_of 1 rfl rfl
abbrev mX11_of : am_M := (yX11_of, cX11_of, 4, some .int)
set_option maxRecDepth 20000 in
theorem MX11_of : am_MM 2 mX11_of := ⟨am_t3 63 rfl rfl, ziRX11, ⟨by decide +kernel, by decide +kernel⟩, by decide +kernel, by decide +kernel, by decide⟩
set_option maxRecDepth 20000 in
theorem iX11_of : Cond.instanceMethod yX11_of ∈ am_tbl := am_t3 61 rfl rfl
set_option maxRecDepth 20000 in
theorem sX11_of : Cond.selects RX11 yX11_of yX11_of ∈ am_tbl := am_t3 62 rfl rfl
abbrev mX7_at : am_M := (yX7_at, cX7_at, 2, some (.object "TopSays$Row"))
set_option maxRecDepth 20000 in
theorem MX7_at : am_MM 1 mX7_at := ⟨am_t3 67 rfl rfl, ziRX7, ⟨by decide +kernel, by decide +kernel⟩, by decide +kernel, by decide +kernel, by decide⟩
set_option maxRecDepth 20000 in
theorem iX7_at : Cond.instanceMethod yX7_at ∈ am_tbl := am_t3 65 rfl rfl
set_option maxRecDepth 20000 in
theorem sX7_at : Cond.selects RX7 yX7_at yX7_at ∈ am_tbl := am_t3 66 rfl rfl
abbrev mX6_look : am_M := (yX6_look, cX6_look, 6, some .int)
set_option maxRecDepth 20000 in
theorem MX6_look : am_MM 1 mX6_look := ⟨am_t3 71 rfl rfl, ziRX6, ⟨by decide +kernel, by decide +kernel⟩, by decide +kernel, by decide +kernel, by decide⟩
set_option maxRecDepth 20000 in
theorem iX6_look : Cond.instanceMethod yX6_look ∈ am_tbl := am_t3 69 rfl rfl
set_option maxRecDepth 20000 in
theorem sX6_look : Cond.selects RX6 yX6_look yX6_look ∈ am_tbl := am_t3 70 rfl rfl
abbrev mX4_card : am_M := (yX4_card, cX4_card, 2, some .int)
set_option maxRecDepth 20000 in
theorem MX4_card : am_MM 1 mX4_card := ⟨am_t3 75 rfl rfl, ziRX4, ⟨by decide +kernel, by decide +kernel⟩, by decide +kernel, by decide +kernel, by decide⟩
set_option maxRecDepth 20000 in
theorem iX4_card : Cond.instanceMethod yX4_card ∈ am_tbl := am_t3 73 rfl rfl
set_option maxRecDepth 20000 in
theorem sX4_card : Cond.selects RX4 yX4_card yX4_card ∈ am_tbl := am_t3 74 rfl rfl
abbrev mX7_inForce : am_M := (yX7_inForce, cX7_inForce, 1, some (.object "TopSays$Text"))
set_option maxRecDepth 20000 in
theorem MX7_inForce : am_MM 0 mX7_inForce := ⟨am_t3 79 rfl rfl, ziRX7, ⟨by decide +kernel, by decide +kernel⟩, by decide +kernel, by decide +kernel, by decide⟩
set_option maxRecDepth 20000 in
theorem iX7_inForce : Cond.instanceMethod yX7_inForce ∈ am_tbl := am_t3 77 rfl rfl
set_option maxRecDepth 20000 in
theorem sX7_inForce : Cond.selects RX7 yX7_inForce yX7_inForce ∈ am_tbl := am_t3 78 rfl rfl
abbrev mX6_fillWords : am_M := (yX6_fillWords, cX6_fillWords, 2, none)
set_option maxRecDepth 20000 in
theorem MX6_fillWords : am_MM 1 mX6_fillWords := ⟨am_t3 83 rfl rfl, ziRX6, ⟨by decide +kernel, by decide +kernel⟩, by decide +kernel, by decide +kernel, by decide⟩
set_option maxRecDepth 20000 in
theorem iX6_fillWords : Cond.instanceMethod yX6_fillWords ∈ am_tbl := am_t3 82 rfl rfl
set_option maxRecDepth 20000 in
theorem sX6_fillWords : Cond.selects RX6 yX6_fillWords yX6_fillWords ∈ am_tbl := am_tbl_of 2 rfl rfl
abbrev mX9_latestOf : am_M := (yX9_latestOf, cX9_latestOf, 6, some .int)
set_option maxRecDepth 20000 in
theorem MX9_latestOf : am_MM 3 mX9_latestOf := ⟨am_t3 87 rfl rfl, ziRX9, ⟨by decide +kernel, by decide +kernel⟩, by decide +kernel, by decide +kernel, by decide⟩
set_option maxRecDepth 20000 in
theorem iX9_latestOf : Cond.instanceMethod yX9_latestOf ∈ am_tbl := am_t3 85 rfl rfl
set_option maxRecDepth 20000 in
theorem sX9_latestOf : Cond.selects RX9 yX9_latestOf yX9_latestOf ∈ am_tbl := am_t3 86 rfl rfl
abbrev mX9_ask : am_M := (yX9_ask, cX9_ask, 9, some .int)
set_option maxRecDepth 20000 in
theorem MX9_ask : am_MM 2 mX9_ask := ⟨am_t3 91 rfl rfl, ziRX9, ⟨by decide +kernel, by decide +kernel⟩, by decide +kernel, by decide +kernel, by decide⟩
set_option maxRecDepth 20000 in
theorem iX9_ask : Cond.instanceMethod yX9_ask ∈ am_tbl := am_t3 90 rfl rfl
set_option maxRecDepth 20000 in
theorem sX9_ask : Cond.selects RX9 yX9_ask yX9_ask ∈ am_tbl := am_tbl_of 3 rfl rfl
abbrev mX9_join : am_M := (yX9_join, cX9_join, 5, some .long)
set_option maxRecDepth 20000 in
theorem MX9_join : am_MM 3 mX9_join := ⟨am_t3 96 rfl rfl, ziRX9, ⟨by decide +kernel, by decide +kernel⟩, by decide +kernel, by decide +kernel, by decide⟩
set_option maxRecDepth 20000 in
theorem tX9_join : Cond.static yX9_join ∈ am_tbl := am_t3 95 rfl rfl
abbrev mX9_hasEnded : am_M := (yX9_hasEnded, cX9_hasEnded, 5, some .boolean)
set_option maxRecDepth 20000 in
theorem MX9_hasEnded : am_MM 2 mX9_hasEnded := ⟨am_t3 103 rfl rfl, ziRX9, ⟨by decide +kernel, by decide +kernel⟩, by decide +kernel, by decide +kernel, by decide⟩
set_option maxRecDepth 20000 in
theorem iX9_hasEnded : Cond.instanceMethod yX9_hasEnded ∈ am_tbl := am_t3 101 rfl rfl
set_option maxRecDepth 20000 in
theorem sX9_hasEnded : Cond.selects RX9 yX9_hasEnded yX9_hasEnded ∈ am_tbl := am_t3 102 rfl rfl
abbrev mX11_nearest : am_M := (yX11_nearest, cX11_nearest, 1, some .int)
set_option maxRecDepth 20000 in
theorem MX11_nearest : am_MM 1 mX11_nearest := ⟨am_t3 106 rfl rfl, ziRX11, ⟨by decide +kernel, by decide +kernel⟩, by decide +kernel, by decide +kernel, by decide⟩
set_option maxRecDepth 20000 in
theorem tX11_nearest : Cond.static yX11_nearest ∈ am_tbl := am_t3 105 rfl rfl
abbrev mX11_terms : am_M := (yX11_terms, cX11_terms, 4, some .int)
set_option maxRecDepth 20000 in
theorem MX11_terms : am_MM 2 mX11_terms := ⟨am_t3 113 rfl rfl, ziRX11, ⟨by decide +kernel, by decide +kernel⟩, by decide +kernel, by decide +kernel, by decide⟩
set_option maxRecDepth 20000 in
theorem iX11_terms : Cond.instanceMethod yX11_terms ∈ am_tbl := am_t3 111 rfl rfl
set_option maxRecDepth 20000 in
theorem sX11_terms : Cond.selects RX11 yX11_terms yX11_terms ∈ am_tbl := am_t3 112 rfl rfl
abbrev mX11_law : am_M := (yX11_law, cX11_law, 1, some .int)
set_option maxRecDepth 20000 in
theorem MX11_law : am_MM 0 mX11_law := ⟨am_t3 117 rfl rfl, ziRX11, ⟨by decide +kernel, by decide +kernel⟩, by decide +kernel, by decide +kernel, by decide⟩
set_option maxRecDepth 20000 in
theorem iX11_law : Cond.instanceMethod yX11_law ∈ am_tbl := am_t3 115 rfl rfl
set_option maxRecDepth 20000 in
theorem sX11_law : Cond.selects RX11 yX11_law yX11_law ∈ am_tbl := am_t3 116 rfl rfl
abbrev mX3_read : am_M := (yX3_read, cX3_read, 4, some .int)
set_option maxRecDepth 20000 in
theorem MX3_read : am_MM 1 mX3_read := ⟨am_t3 121 rfl rfl, ziRX3, ⟨by decide +kernel, by decide +kernel⟩, by decide +kernel, by decide +kernel, by decide⟩
set_option maxRecDepth 20000 in
theorem iX3_read : Cond.instanceMethod yX3_read ∈ am_tbl := am_t3 119 rfl rfl
set_option maxRecDepth 20000 in
theorem sX3_read : Cond.selects RX3 yX3_read yX3_read ∈ am_tbl := am_t3 120 rfl rfl
abbrev mX9_clear : am_M := (yX9_clear, cX9_clear, 1, none)
set_option maxRecDepth 20000 in
theorem MX9_clear : am_MM 0 mX9_clear := ⟨am_t3 125 rfl rfl, ziRX9, ⟨by decide +kernel, by decide +kernel⟩, by decide +kernel, by decide +kernel, by decide⟩
set_option maxRecDepth 20000 in
theorem iX9_clear : Cond.instanceMethod yX9_clear ∈ am_tbl := am_t3 123 rfl rfl
set_option maxRecDepth 20000 in
theorem sX9_clear : Cond.selects RX9 yX9_clear yX9_clear ∈ am_tbl := am_t3 124 rfl rfl
abbrev mX8_rewind : am_M := (yX8_rewind, cX8_rewind, 1, none)
set_option maxRecDepth 20000 in
theorem MX8_rewind : am_MM 0 mX8_rewind := ⟨am_t3 129 rfl rfl, ziRX8, ⟨by decide +kernel, by decide +kernel⟩, by decide +kernel, by decide +kernel, by decide⟩
set_option maxRecDepth 20000 in
theorem iX8_rewind : Cond.instanceMethod yX8_rewind ∈ am_tbl := am_t3 127 rfl rfl
set_option maxRecDepth 20000 in
theorem sX8_rewind : Cond.selects RX8 yX8_rewind yX8_rewind ∈ am_tbl := am_t3 128 rfl rfl
abbrev mX8_go : am_M := (yX8_go, cX8_go, 6, none)
set_option maxRecDepth 20000 in
theorem MX8_go : am_MM 0 mX8_go := ⟨am_t3 133 rfl rfl, ziRX8, ⟨by decide +kernel, by decide +kernel⟩, by decide +kernel, by decide +kernel, by decide⟩
set_option maxRecDepth 20000 in
theorem iX8_go : Cond.instanceMethod yX8_go ∈ am_tbl := am_t3 131 rfl rfl
set_option maxRecDepth 20000 in
theorem sX8_go : Cond.selects RX8 yX8_go yX8_go ∈ am_tbl := am_t3 132 rfl rfl
abbrev mX3_readOrder : am_M := (yX3_readOrder, cX3_readOrder, 3, some .boolean)
set_option maxRecDepth 20000 in
theorem MX3_readOrder : am_MM 0 mX3_readOrder := ⟨am_t3 137 rfl rfl, ziRX3, ⟨by decide +kernel, by decide +kernel⟩, by decide +kernel, by decide +kernel, by decide⟩
set_option maxRecDepth 20000 in
theorem iX3_readOrder : Cond.instanceMethod yX3_readOrder ∈ am_tbl := am_t3 136 rfl rfl
set_option maxRecDepth 20000 in
theorem sX3_readOrder : Cond.selects RX3 yX3_readOrder yX3_readOrder ∈ am_tbl := am_tbl_of 4 rfl rfl
abbrev mX8_among : am_M := (yX8_among, cX8_among, 7, some .int)
set_option maxRecDepth 20000 in
theorem MX8_among : am_MM 1 mX8_among := ⟨am_t3 142 rfl rfl, ziRX8, ⟨by decide +kernel, by decide +kernel⟩, by decide +kernel, by decide +kernel, by decide⟩
set_option maxRecDepth 20000 in
theorem iX8_among : Cond.instanceMethod yX8_among ∈ am_tbl := am_t3 140 rfl rfl
set_option maxRecDepth 20000 in
theorem sX8_among : Cond.selects RX8 yX8_among yX8_among ∈ am_tbl := am_t3 141 rfl rfl
abbrev mJ0_length_8abf5 : am_M := (yJ0_length_8abf5, cJ0_length_8abf5, 1, some .int)
set_option maxRecDepth 20000 in
theorem MJ0_length_8abf5 : am_MM 0 mJ0_length_8abf5 := ⟨am_t3 146 rfl rfl, ziRJ0, ⟨by decide +kernel, by decide +kernel⟩, by decide +kernel, by decide +kernel, by decide⟩
set_option maxRecDepth 20000 in
theorem iJ0_length_8abf5 : Cond.instanceMethod yJ0_length_8abf5 ∈ am_tbl := am_t3 144 rfl rfl
set_option maxRecDepth 20000 in
theorem sJ0_length_8abf5 : Cond.selects RJ0 yJ0_length_8abf5 yJ0_length_8abf5 ∈ am_tbl := am_t3 145 rfl rfl
abbrev mJ0_coder_7d493 : am_M := (yJ0_coder_7d493, cJ0_coder_7d493, 1, some .byte)
set_option maxRecDepth 20000 in
theorem MJ0_coder_7d493 : am_MM 0 mJ0_coder_7d493 := ⟨am_t3 150 rfl rfl, ziRJ0, ⟨by decide +kernel, by decide +kernel⟩, by decide +kernel, by decide +kernel, by decide⟩
set_option maxRecDepth 20000 in
theorem iJ0_coder_7d493 : Cond.instanceMethod yJ0_coder_7d493 ∈ am_tbl := am_t3 148 rfl rfl
set_option maxRecDepth 20000 in
theorem sJ0_coder_7d493 : Cond.selects RJ0 yJ0_coder_7d493 yJ0_coder_7d493 ∈ am_tbl := am_t3 149 rfl rfl
abbrev mJ0_charAt_5068e : am_M := (yJ0_charAt_5068e, cJ0_charAt_5068e, 2, some .char)
set_option maxRecDepth 20000 in
theorem MJ0_charAt_5068e : am_MM 1 mJ0_charAt_5068e := ⟨am_t3 156 rfl rfl, ziRJ0, ⟨by decide +kernel, by decide +kernel⟩, by decide +kernel, by decide +kernel, by decide⟩
set_option maxRecDepth 20000 in
theorem iJ0_charAt_5068e : Cond.instanceMethod yJ0_charAt_5068e ∈ am_tbl := am_t3 154 rfl rfl
set_option maxRecDepth 20000 in
theorem sJ0_charAt_5068e : Cond.selects RJ0 yJ0_charAt_5068e yJ0_charAt_5068e ∈ am_tbl := am_t3 155 rfl rfl
abbrev mJ0_isLatin1_aae02 : am_M := (yJ0_isLatin1_aae02, cJ0_isLatin1_aae02, 1, some .boolean)
set_option maxRecDepth 20000 in
theorem MJ0_isLatin1_aae02 : am_MM 0 mJ0_isLatin1_aae02 := ⟨am_t3 160 rfl rfl, ziRJ0, ⟨by decide +kernel, by decide +kernel⟩, by decide +kernel, by decide +kernel, by decide⟩
set_option maxRecDepth 20000 in
theorem iJ0_isLatin1_aae02 : Cond.instanceMethod yJ0_isLatin1_aae02 ∈ am_tbl := am_t3 158 rfl rfl
set_option maxRecDepth 20000 in
theorem sJ0_isLatin1_aae02 : Cond.selects RJ0 yJ0_isLatin1_aae02 yJ0_isLatin1_aae02 ∈ am_tbl := am_t3 159 rfl rfl
abbrev mJ1_charAt_3b067 : am_M := (yJ1_charAt_3b067, cJ1_charAt_3b067, 2, some .char)
set_option maxRecDepth 20000 in
theorem MJ1_charAt_3b067 : am_MM 2 mJ1_charAt_3b067 := ⟨am_t3 163 rfl rfl, ziRJ1, ⟨by decide +kernel, by decide +kernel⟩, by decide +kernel, by decide +kernel, by decide⟩
set_option maxRecDepth 20000 in
theorem tJ1_charAt_3b067 : Cond.static yJ1_charAt_3b067 ∈ am_tbl := am_t3 162 rfl rfl
abbrev mJ0_checkIndex_df160 : am_M := (yJ0_checkIndex_df160, cJ0_checkIndex_df160, 2, none)
set_option maxRecDepth 20000 in
theorem MJ0_checkIndex_df160 : am_MM 2 mJ0_checkIndex_df160 := ⟨am_t3 166 rfl rfl, ziRJ0, ⟨by decide +kernel, by decide +kernel⟩, by decide +kernel, by decide +kernel, by decide⟩
set_option maxRecDepth 20000 in
theorem tJ0_checkIndex_df160 : Cond.static yJ0_checkIndex_df160 ∈ am_tbl := am_t3 165 rfl rfl
abbrev mJ3_checkIndex_8e157 : am_M := (yJ3_checkIndex_8e157, cJ3_checkIndex_8e157, 3, some .int)
set_option maxRecDepth 20000 in
theorem MJ3_checkIndex_8e157 : am_MM 3 mJ3_checkIndex_8e157 := ⟨am_t3 171 rfl rfl, ziRJ3, ⟨by decide +kernel, by decide +kernel⟩, by decide +kernel, by decide +kernel, by decide⟩
set_option maxRecDepth 20000 in
theorem tJ3_checkIndex_8e157 : Cond.static yJ3_checkIndex_8e157 ∈ am_tbl := am_t3 170 rfl rfl
abbrev mJ2_charAt_3b067 : am_M := (yJ2_charAt_3b067, cJ2_charAt_3b067, 2, some .char)
set_option maxRecDepth 20000 in
theorem MJ2_charAt_3b067 : am_MM 2 mJ2_charAt_3b067 := ⟨am_t3 174 rfl rfl, ziRJ2, ⟨by decide +kernel, by decide +kernel⟩, by decide +kernel, by decide +kernel, by decide⟩
set_option maxRecDepth 20000 in
theorem tJ2_charAt_3b067 : Cond.static yJ2_charAt_3b067 ∈ am_tbl := am_t3 173 rfl rfl
abbrev mJ2_checkIndex_2214a : am_M := (yJ2_checkIndex_2214a, cJ2_checkIndex_2214a, 2, none)
set_option maxRecDepth 20000 in
theorem MJ2_checkIndex_2214a : am_MM 2 mJ2_checkIndex_2214a := ⟨am_t3 177 rfl rfl, ziRJ2, ⟨by decide +kernel, by decide +kernel⟩, by decide +kernel, by decide +kernel, by decide⟩
set_option maxRecDepth 20000 in
theorem tJ2_checkIndex_2214a : Cond.static yJ2_checkIndex_2214a ∈ am_tbl := am_t3 176 rfl rfl
abbrev mJ2_length_9d52b : am_M := (yJ2_length_9d52b, cJ2_length_9d52b, 1, some .int)
set_option maxRecDepth 20000 in
theorem MJ2_length_9d52b : am_MM 1 mJ2_length_9d52b := ⟨am_t3 180 rfl rfl, ziRJ2, ⟨by decide +kernel, by decide +kernel⟩, by decide +kernel, by decide +kernel, by decide⟩
set_option maxRecDepth 20000 in
theorem tJ2_length_9d52b : Cond.static yJ2_length_9d52b ∈ am_tbl := am_t3 179 rfl rfl
abbrev mJ2_getChar_3b067 : am_M := (yJ2_getChar_3b067, cJ2_getChar_3b067, 2, some .char)
set_option maxRecDepth 20000 in
theorem MJ2_getChar_3b067 : am_MM 2 mJ2_getChar_3b067 := ⟨am_t3 184 rfl rfl, ziRJ2, ⟨by decide +kernel, by decide +kernel⟩, by decide +kernel, by decide +kernel, by decide⟩
set_option maxRecDepth 20000 in
theorem tJ2_getChar_3b067 : Cond.static yJ2_getChar_3b067 ∈ am_tbl := am_t3 183 rfl rfl
abbrev mX9_begin : am_M := (yX9_begin, cX9_begin, 2, none)
set_option maxRecDepth 20000 in
theorem MX9_begin : am_MM 1 mX9_begin := ⟨am_t3 194 rfl rfl, ziRX9, ⟨by decide +kernel, by decide +kernel⟩, by decide +kernel, by decide +kernel, by decide⟩
set_option maxRecDepth 20000 in
theorem iX9_begin : Cond.instanceMethod yX9_begin ∈ am_tbl := am_t3 192 rfl rfl
set_option maxRecDepth 20000 in
theorem sX9_begin : Cond.selects RX9 yX9_begin yX9_begin ∈ am_tbl := am_t3 193 rfl rfl
abbrev mX3_readSum : am_M := (yX3_readSum, cX3_readSum, 3, some .boolean)
set_option maxRecDepth 20000 in
theorem MX3_readSum : am_MM 1 mX3_readSum := ⟨am_t3 199 rfl rfl, ziRX3, ⟨by decide +kernel, by decide +kernel⟩, by decide +kernel, by decide +kernel, by decide⟩
set_option maxRecDepth 20000 in
theorem iX3_readSum : Cond.instanceMethod yX3_readSum ∈ am_tbl := am_t3 198 rfl rfl
set_option maxRecDepth 20000 in
theorem sX3_readSum : Cond.selects RX3 yX3_readSum yX3_readSum ∈ am_tbl := am_tbl_of 5 rfl rfl
abbrev mX9_setSum : am_M := (yX9_setSum, cX9_setSum, 2, none)
set_option maxRecDepth 20000 in
theorem MX9_setSum : am_MM 1 mX9_setSum := ⟨am_t3 203 rfl rfl, ziRX9, ⟨by decide +kernel, by decide +kernel⟩, by decide +kernel, by decide +kernel, by decide⟩
set_option maxRecDepth 20000 in
theorem iX9_setSum : Cond.instanceMethod yX9_setSum ∈ am_tbl := am_t3 201 rfl rfl
set_option maxRecDepth 20000 in
theorem sX9_setSum : Cond.selects RX9 yX9_setSum yX9_setSum ∈ am_tbl := am_t3 202 rfl rfl
abbrev mX3_sum : am_M := (yX3_sum, cX3_sum, 5, some .boolean)
set_option maxRecDepth 20000 in
theorem MX3_sum : am_MM 1 mX3_sum := ⟨am_t3 207 rfl rfl, ziRX3, ⟨by decide +kernel, by decide +kernel⟩, by decide +kernel, by decide +kernel, by decide⟩
set_option maxRecDepth 20000 in
theorem iX3_sum : Cond.instanceMethod yX3_sum ∈ am_tbl := am_t3 206 rfl rfl
set_option maxRecDepth 20000 in
theorem sX3_sum : Cond.selects RX3 yX3_sum yX3_sum ∈ am_tbl := am_tbl_of 6 rfl rfl
abbrev mX3_term : am_M := (yX3_term, cX3_term, 5, some .boolean)
set_option maxRecDepth 20000 in
theorem MX3_term : am_MM 1 mX3_term := ⟨am_t3 211 rfl rfl, ziRX3, ⟨by decide +kernel, by decide +kernel⟩, by decide +kernel, by decide +kernel, by decide⟩
set_option maxRecDepth 20000 in
theorem iX3_term : Cond.instanceMethod yX3_term ∈ am_tbl := am_t3 210 rfl rfl
set_option maxRecDepth 20000 in
theorem sX3_term : Cond.selects RX3 yX3_term yX3_term ∈ am_tbl := am_tbl_of 7 rfl rfl
abbrev mX3_part : am_M := (yX3_part, cX3_part, 2, some .boolean)
set_option maxRecDepth 20000 in
theorem MX3_part : am_MM 1 mX3_part := ⟨am_t3 215 rfl rfl, ziRX3, ⟨by decide +kernel, by decide +kernel⟩, by decide +kernel, by decide +kernel, by decide⟩
set_option maxRecDepth 20000 in
theorem iX3_part : Cond.instanceMethod yX3_part ∈ am_tbl := am_t3 214 rfl rfl
set_option maxRecDepth 20000 in
theorem sX3_part : Cond.selects RX3 yX3_part yX3_part ∈ am_tbl := am_tbl_of 8 rfl rfl
abbrev mX8_isSign : am_M := (yX8_isSign, cX8_isSign, 2, some .boolean)
set_option maxRecDepth 20000 in
theorem MX8_isSign : am_MM 1 mX8_isSign := ⟨am_t3 219 rfl rfl, ziRX8, ⟨by decide +kernel, by decide +kernel⟩, by decide +kernel, by decide +kernel, by decide⟩
set_option maxRecDepth 20000 in
theorem iX8_isSign : Cond.instanceMethod yX8_isSign ∈ am_tbl := am_t3 217 rfl rfl
set_option maxRecDepth 20000 in
theorem sX8_isSign : Cond.selects RX8 yX8_isSign yX8_isSign ∈ am_tbl := am_t3 218 rfl rfl
abbrev mX3_takeSign : am_M := (yX3_takeSign, cX3_takeSign, 2, some .boolean)
set_option maxRecDepth 20000 in
theorem MX3_takeSign : am_MM 1 mX3_takeSign := ⟨am_t3 223 rfl rfl, ziRX3, ⟨by decide +kernel, by decide +kernel⟩, by decide +kernel, by decide +kernel, by decide⟩
set_option maxRecDepth 20000 in
theorem iX3_takeSign : Cond.instanceMethod yX3_takeSign ∈ am_tbl := am_t3 222 rfl rfl
set_option maxRecDepth 20000 in
theorem sX3_takeSign : Cond.selects RX3 yX3_takeSign yX3_takeSign ∈ am_tbl := am_tbl_of 9 rfl rfl
abbrev mX3_number : am_M := (yX3_number, cX3_number, 2, some .boolean)
set_option maxRecDepth 20000 in
theorem MX3_number : am_MM 0 mX3_number := ⟨am_t3 227 rfl rfl, ziRX3, ⟨by decide +kernel, by decide +kernel⟩, by decide +kernel, by decide +kernel, by decide⟩
set_option maxRecDepth 20000 in
theorem iX3_number : Cond.instanceMethod yX3_number ∈ am_tbl := am_t3 226 rfl rfl
set_option maxRecDepth 20000 in
theorem sX3_number : Cond.selects RX3 yX3_number yX3_number ∈ am_tbl := am_tbl_of 10 rfl rfl
abbrev mX8_number : am_M := (yX8_number, cX8_number, 3, some .int)
set_option maxRecDepth 20000 in
theorem MX8_number : am_MM 0 mX8_number := ⟨am_t3 231 rfl rfl, ziRX8, ⟨by decide +kernel, by decide +kernel⟩, by decide +kernel, by decide +kernel, by decide⟩
set_option maxRecDepth 20000 in
theorem iX8_number : Cond.instanceMethod yX8_number ∈ am_tbl := am_t3 229 rfl rfl
set_option maxRecDepth 20000 in
theorem sX8_number : Cond.selects RX8 yX8_number yX8_number ∈ am_tbl := am_t3 230 rfl rfl
abbrev mX9_add : am_M := (yX9_add, cX9_add, 3, some .int)
set_option maxRecDepth 20000 in
theorem MX9_add : am_MM 2 mX9_add := ⟨am_t3 236 rfl rfl, ziRX9, ⟨by decide +kernel, by decide +kernel⟩, by decide +kernel, by decide +kernel, by decide⟩
set_option maxRecDepth 20000 in
theorem iX9_add : Cond.instanceMethod yX9_add ∈ am_tbl := am_t3 234 rfl rfl
set_option maxRecDepth 20000 in
theorem sX9_add : Cond.selects RX9 yX9_add yX9_add ∈ am_tbl := am_t3 235 rfl rfl
abbrev mX3_orderWord : am_M := (yX3_orderWord, cX3_orderWord, 3, some .boolean)
set_option maxRecDepth 20000 in
theorem MX3_orderWord : am_MM 0 mX3_orderWord := ⟨am_t4 0 rfl rfl, ziRX3, ⟨by decide +kernel, by decide +kernel⟩, by decide +kernel, by decide +kernel, by decide⟩
set_option maxRecDepth 20000 in
theorem iX3_orderWord : Cond.instanceMethod yX3_orderWord ∈ am_tbl := am_t3 239 rfl rfl
set_option maxRecDepth 20000 in
theorem sX3_orderWord : Cond.selects RX3 yX3_orderWord yX3_orderWord ∈ am_tbl := am_tbl_of 11 rfl rfl
abbrev mX3_lawWord : am_M := (yX3_lawWord, cX3_lawWord, 2, some .boolean)
set_option maxRecDepth 20000 in
theorem MX3_lawWord : am_MM 0 mX3_lawWord := ⟨am_t4 5 rfl rfl, ziRX3, ⟨by decide +kernel, by decide +kernel⟩, by decide +kernel, by decide +kernel, by decide⟩
set_option maxRecDepth 20000 in
theorem iX3_lawWord : Cond.instanceMethod yX3_lawWord ∈ am_tbl := am_t4 4 rfl rfl
set_option maxRecDepth 20000 in
theorem sX3_lawWord : Cond.selects RX3 yX3_lawWord yX3_lawWord ∈ am_tbl := am_tbl_of 12 rfl rfl
abbrev mX3_multiplying : am_M := (yX3_multiplying, cX3_multiplying, 1, some .int)
set_option maxRecDepth 20000 in
theorem MX3_multiplying : am_MM 0 mX3_multiplying := ⟨am_t4 10 rfl rfl, ziRX3, ⟨by decide +kernel, by decide +kernel⟩, by decide +kernel, by decide +kernel, by decide⟩
set_option maxRecDepth 20000 in
theorem iX3_multiplying : Cond.instanceMethod yX3_multiplying ∈ am_tbl := am_t4 9 rfl rfl
set_option maxRecDepth 20000 in
theorem sX3_multiplying : Cond.selects RX3 yX3_multiplying yX3_multiplying ∈ am_tbl := am_tbl_of 13 rfl rfl
abbrev mX3_take : am_M := (yX3_take, cX3_take, 2, some .boolean)
set_option maxRecDepth 20000 in
theorem MX3_take : am_MM 1 mX3_take := ⟨am_t4 15 rfl rfl, ziRX3, ⟨by decide +kernel, by decide +kernel⟩, by decide +kernel, by decide +kernel, by decide⟩
set_option maxRecDepth 20000 in
theorem iX3_take : Cond.instanceMethod yX3_take ∈ am_tbl := am_t4 14 rfl rfl
set_option maxRecDepth 20000 in
theorem sX3_take : Cond.selects RX3 yX3_take yX3_take ∈ am_tbl := am_tbl_of 14 rfl rfl
abbrev mX8_isWord : am_M := (yX8_isWord, cX8_isWord, 2, some .boolean)
set_option maxRecDepth 20000 in
theorem MX8_isWord : am_MM 1 mX8_isWord := ⟨am_t4 19 rfl rfl, ziRX8, ⟨by decide +kernel, by decide +kernel⟩, by decide +kernel, by decide +kernel, by decide⟩
set_option maxRecDepth 20000 in
theorem iX8_isWord : Cond.instanceMethod yX8_isWord ∈ am_tbl := am_t4 17 rfl rfl
set_option maxRecDepth 20000 in
theorem sX8_isWord : Cond.selects RX8 yX8_isWord yX8_isWord ∈ am_tbl := am_t4 18 rfl rfl
abbrev mX3_readTimes : am_M := (yX3_readTimes, cX3_readTimes, 2, some .boolean)
set_option maxRecDepth 20000 in
theorem MX3_readTimes : am_MM 0 mX3_readTimes := ⟨am_t4 25 rfl rfl, ziRX3, ⟨by decide +kernel, by decide +kernel⟩, by decide +kernel, by decide +kernel, by decide⟩
set_option maxRecDepth 20000 in
theorem iX3_readTimes : Cond.instanceMethod yX3_readTimes ∈ am_tbl := am_t4 24 rfl rfl
set_option maxRecDepth 20000 in
theorem sX3_readTimes : Cond.selects RX3 yX3_readTimes yX3_readTimes ∈ am_tbl := am_tbl_of 15 rfl rfl
abbrev mX9_setTimes : am_M := (yX9_setTimes, cX9_setTimes, 2, none)
set_option maxRecDepth 20000 in
theorem MX9_setTimes : am_MM 1 mX9_setTimes := ⟨am_t4 30 rfl rfl, ziRX9, ⟨by decide +kernel, by decide +kernel⟩, by decide +kernel, by decide +kernel, by decide⟩
set_option maxRecDepth 20000 in
theorem iX9_setTimes : Cond.instanceMethod yX9_setTimes ∈ am_tbl := am_t4 28 rfl rfl
set_option maxRecDepth 20000 in
theorem sX9_setTimes : Cond.selects RX9 yX9_setTimes yX9_setTimes ∈ am_tbl := am_t4 29 rfl rfl
abbrev mX3_readIf : am_M := (yX3_readIf, cX3_readIf, 2, some .boolean)
set_option maxRecDepth 20000 in
theorem MX3_readIf : am_MM 0 mX3_readIf := ⟨am_t4 34 rfl rfl, ziRX3, ⟨by decide +kernel, by decide +kernel⟩, by decide +kernel, by decide +kernel, by decide⟩
set_option maxRecDepth 20000 in
theorem iX3_readIf : Cond.instanceMethod yX3_readIf ∈ am_tbl := am_t4 33 rfl rfl
set_option maxRecDepth 20000 in
theorem sX3_readIf : Cond.selects RX3 yX3_readIf yX3_readIf ∈ am_tbl := am_tbl_of 16 rfl rfl
abbrev mX9_setTest : am_M := (yX9_setTest, cX9_setTest, 1, none)
set_option maxRecDepth 20000 in
theorem MX9_setTest : am_MM 0 mX9_setTest := ⟨am_t4 39 rfl rfl, ziRX9, ⟨by decide +kernel, by decide +kernel⟩, by decide +kernel, by decide +kernel, by decide⟩
set_option maxRecDepth 20000 in
theorem iX9_setTest : Cond.instanceMethod yX9_setTest ∈ am_tbl := am_t4 37 rfl rfl
set_option maxRecDepth 20000 in
theorem sX9_setTest : Cond.selects RX9 yX9_setTest yX9_setTest ∈ am_tbl := am_t4 38 rfl rfl
abbrev mX3_test : am_M := (yX3_test, cX3_test, 5, some .boolean)
set_option maxRecDepth 20000 in
theorem MX3_test : am_MM 1 mX3_test := ⟨am_t4 43 rfl rfl, ziRX3, ⟨by decide +kernel, by decide +kernel⟩, by decide +kernel, by decide +kernel, by decide⟩
set_option maxRecDepth 20000 in
theorem iX3_test : Cond.instanceMethod yX3_test ∈ am_tbl := am_t4 42 rfl rfl
set_option maxRecDepth 20000 in
theorem sX3_test : Cond.selects RX3 yX3_test yX3_test ∈ am_tbl := am_tbl_of 17 rfl rfl
abbrev mX3_both : am_M := (yX3_both, cX3_both, 5, some .boolean)
set_option maxRecDepth 20000 in
theorem MX3_both : am_MM 1 mX3_both := ⟨am_t4 47 rfl rfl, ziRX3, ⟨by decide +kernel, by decide +kernel⟩, by decide +kernel, by decide +kernel, by decide⟩
set_option maxRecDepth 20000 in
theorem iX3_both : Cond.instanceMethod yX3_both ∈ am_tbl := am_t4 46 rfl rfl
set_option maxRecDepth 20000 in
theorem sX3_both : Cond.selects RX3 yX3_both yX3_both ∈ am_tbl := am_tbl_of 18 rfl rfl
abbrev mX3_plain : am_M := (yX3_plain, cX3_plain, 5, some .boolean)
set_option maxRecDepth 20000 in
theorem MX3_plain : am_MM 1 mX3_plain := ⟨am_t4 51 rfl rfl, ziRX3, ⟨by decide +kernel, by decide +kernel⟩, by decide +kernel, by decide +kernel, by decide⟩
set_option maxRecDepth 20000 in
theorem iX3_plain : Cond.instanceMethod yX3_plain ∈ am_tbl := am_t4 50 rfl rfl
set_option maxRecDepth 20000 in
theorem sX3_plain : Cond.selects RX3 yX3_plain yX3_plain ∈ am_tbl := am_tbl_of 19 rfl rfl
abbrev mX3_comparison : am_M := (yX3_comparison, cX3_comparison, 2, some .int)
set_option maxRecDepth 20000 in
theorem MX3_comparison : am_MM 0 mX3_comparison := ⟨am_t4 56 rfl rfl, ziRX3, ⟨by decide +kernel, by decide +kernel⟩, by decide +kernel, by decide +kernel, by decide⟩
set_option maxRecDepth 20000 in
theorem iX3_comparison : Cond.instanceMethod yX3_comparison ∈ am_tbl := am_t4 55 rfl rfl
set_option maxRecDepth 20000 in
theorem sX3_comparison : Cond.selects RX3 yX3_comparison yX3_comparison ∈ am_tbl := am_tbl_of 20 rfl rfl
abbrev mX9_land : am_M := (yX9_land, cX9_land, 2, none)
set_option maxRecDepth 20000 in
theorem MX9_land : am_MM 1 mX9_land := ⟨am_t4 62 rfl rfl, ziRX9, ⟨by decide +kernel, by decide +kernel⟩, by decide +kernel, by decide +kernel, by decide⟩
set_option maxRecDepth 20000 in
theorem iX9_land : Cond.instanceMethod yX9_land ∈ am_tbl := am_t4 60 rfl rfl
set_option maxRecDepth 20000 in
theorem sX9_land : Cond.selects RX9 yX9_land yX9_land ∈ am_tbl := am_t4 61 rfl rfl
abbrev mX3_readRule : am_M := (yX3_readRule, cX3_readRule, 2, some .boolean)
set_option maxRecDepth 20000 in
theorem MX3_readRule : am_MM 0 mX3_readRule := ⟨am_t4 67 rfl rfl, ziRX3, ⟨by decide +kernel, by decide +kernel⟩, by decide +kernel, by decide +kernel, by decide⟩
set_option maxRecDepth 20000 in
theorem iX3_readRule : Cond.instanceMethod yX3_readRule ∈ am_tbl := am_t4 66 rfl rfl
set_option maxRecDepth 20000 in
theorem sX3_readRule : Cond.selects RX3 yX3_readRule yX3_readRule ∈ am_tbl := am_tbl_of 21 rfl rfl
abbrev mX9_trimmed : am_M := (yX9_trimmed, cX9_trimmed, 1, some (.object "TopSays$Text"))
set_option maxRecDepth 20000 in
theorem MX9_trimmed : am_MM 0 mX9_trimmed := ⟨am_t4 72 rfl rfl, ziRX9, ⟨by decide +kernel, by decide +kernel⟩, by decide +kernel, by decide +kernel, by decide⟩
set_option maxRecDepth 20000 in
theorem iX9_trimmed : Cond.instanceMethod yX9_trimmed ∈ am_tbl := am_t4 70 rfl rfl
set_option maxRecDepth 20000 in
theorem sX9_trimmed : Cond.selects RX9 yX9_trimmed yX9_trimmed ∈ am_tbl := am_t4 71 rfl rfl
abbrev mX9_init_ : am_M := (yX9_init_, cX9_init_, 2, none)
set_option maxRecDepth 20000 in
theorem MX9_init_ : am_MM 1 mX9_init_ := ⟨am_t4 76 rfl rfl, ziRX9, ⟨by decide +kernel, by decide +kernel⟩, by decide +kernel, by decide +kernel, by decide⟩
set_option maxRecDepth 20000 in
theorem iX9_init_ : Cond.instanceMethod yX9_init_ ∈ am_tbl := am_t4 75 rfl rfl
abbrev mX7_addLaw : am_M := (yX7_addLaw, cX7_addLaw, 2, some .int)
set_option maxRecDepth 20000 in
theorem MX7_addLaw : am_MM 1 mX7_addLaw := ⟨am_t4 84 rfl rfl, ziRX7, ⟨by decide +kernel, by decide +kernel⟩, by decide +kernel, by decide +kernel, by decide⟩
set_option maxRecDepth 20000 in
theorem iX7_addLaw : Cond.instanceMethod yX7_addLaw ∈ am_tbl := am_t4 82 rfl rfl
set_option maxRecDepth 20000 in
theorem sX7_addLaw : Cond.selects RX7 yX7_addLaw yX7_addLaw ∈ am_tbl := am_t4 83 rfl rfl
abbrev mX11_orders : am_M := (yX11_orders, cX11_orders, 2, some .int)
set_option maxRecDepth 20000 in
theorem MX11_orders : am_MM 0 mX11_orders := ⟨am_t4 88 rfl rfl, ziRX11, ⟨by decide +kernel, by decide +kernel⟩, by decide +kernel, by decide +kernel, by decide⟩
set_option maxRecDepth 20000 in
theorem iX11_orders : Cond.instanceMethod yX11_orders ∈ am_tbl := am_t4 86 rfl rfl
set_option maxRecDepth 20000 in
theorem sX11_orders : Cond.selects RX11 yX11_orders yX11_orders ∈ am_tbl := am_t4 87 rfl rfl
abbrev mX1_run : am_M := (yX1_run, cX1_run, 4, some .int)
set_option maxRecDepth 20000 in
theorem MX1_run : am_MM 1 mX1_run := ⟨am_t4 92 rfl rfl, ziRX1, ⟨by decide +kernel, by decide +kernel⟩, by decide +kernel, by decide +kernel, by decide⟩
set_option maxRecDepth 20000 in
theorem iX1_run : Cond.instanceMethod yX1_run ∈ am_tbl := am_t4 90 rfl rfl
set_option maxRecDepth 20000 in
theorem sX1_run : Cond.selects RX1 yX1_run yX1_run ∈ am_tbl := am_t4 91 rfl rfl
abbrev mX7_copyHeaps : am_M := (yX7_copyHeaps, cX7_copyHeaps, 3, none)
set_option maxRecDepth 20000 in
theorem MX7_copyHeaps : am_MM 1 mX7_copyHeaps := ⟨am_t4 96 rfl rfl, ziRX7, ⟨by decide +kernel, by decide +kernel⟩, by decide +kernel, by decide +kernel, by decide⟩
set_option maxRecDepth 20000 in
theorem iX7_copyHeaps : Cond.instanceMethod yX7_copyHeaps ∈ am_tbl := am_t4 94 rfl rfl
set_option maxRecDepth 20000 in
theorem sX7_copyHeaps : Cond.selects RX7 yX7_copyHeaps yX7_copyHeaps ∈ am_tbl := am_t4 95 rfl rfl
abbrev mX4_copy : am_M := (yX4_copy, cX4_copy, 2, none)
set_option maxRecDepth 20000 in
theorem MX4_copy : am_MM 1 mX4_copy := ⟨am_t4 100 rfl rfl, ziRX4, ⟨by decide +kernel, by decide +kernel⟩, by decide +kernel, by decide +kernel, by decide⟩
set_option maxRecDepth 20000 in
theorem iX4_copy : Cond.instanceMethod yX4_copy ∈ am_tbl := am_t4 98 rfl rfl
set_option maxRecDepth 20000 in
theorem sX4_copy : Cond.selects RX4 yX4_copy yX4_copy ∈ am_tbl := am_t4 99 rfl rfl
abbrev mX2_copy : am_M := (yX2_copy, cX2_copy, 3, none)
set_option maxRecDepth 20000 in
theorem MX2_copy : am_MM 1 mX2_copy := ⟨am_t4 105 rfl rfl, ziRX2, ⟨by decide +kernel, by decide +kernel⟩, by decide +kernel, by decide +kernel, by decide⟩
set_option maxRecDepth 20000 in
theorem iX2_copy : Cond.instanceMethod yX2_copy ∈ am_tbl := am_t4 103 rfl rfl
set_option maxRecDepth 20000 in
theorem sX2_copy : Cond.selects RX2 yX2_copy yX2_copy ∈ am_tbl := am_t4 104 rfl rfl
abbrev mX9_timesOf : am_M := (yX9_timesOf, cX9_timesOf, 2, some .int)
set_option maxRecDepth 20000 in
theorem MX9_timesOf : am_MM 1 mX9_timesOf := ⟨am_t4 110 rfl rfl, ziRX9, ⟨by decide +kernel, by decide +kernel⟩, by decide +kernel, by decide +kernel, by decide⟩
set_option maxRecDepth 20000 in
theorem iX9_timesOf : Cond.instanceMethod yX9_timesOf ∈ am_tbl := am_t4 108 rfl rfl
set_option maxRecDepth 20000 in
theorem sX9_timesOf : Cond.selects RX9 yX9_timesOf yX9_timesOf ∈ am_tbl := am_t4 109 rfl rfl
abbrev mX1_runOnce : am_M := (yX1_runOnce, cX1_runOnce, 8, some .boolean)
set_option maxRecDepth 20000 in
theorem MX1_runOnce : am_MM 2 mX1_runOnce := ⟨am_t4 114 rfl rfl, ziRX1, ⟨by decide +kernel, by decide +kernel⟩, by decide +kernel, by decide +kernel, by decide⟩
set_option maxRecDepth 20000 in
theorem iX1_runOnce : Cond.instanceMethod yX1_runOnce ∈ am_tbl := am_t4 113 rfl rfl
set_option maxRecDepth 20000 in
theorem sX1_runOnce : Cond.selects RX1 yX1_runOnce yX1_runOnce ∈ am_tbl := am_tbl_of 22 rfl rfl
abbrev mX1_fillWords : am_M := (yX1_fillWords, cX1_fillWords, 4, none)
set_option maxRecDepth 20000 in
theorem MX1_fillWords : am_MM 0 mX1_fillWords := ⟨am_t4 118 rfl rfl, ziRX1, ⟨by decide +kernel, by decide +kernel⟩, by decide +kernel, by decide +kernel, by decide⟩
set_option maxRecDepth 20000 in
theorem iX1_fillWords : Cond.instanceMethod yX1_fillWords ∈ am_tbl := am_t4 117 rfl rfl
set_option maxRecDepth 20000 in
theorem sX1_fillWords : Cond.selects RX1 yX1_fillWords yX1_fillWords ∈ am_tbl := am_tbl_of 23 rfl rfl
abbrev mX9_isSo : am_M := (yX9_isSo, cX9_isSo, 3, some .boolean)
set_option maxRecDepth 20000 in
theorem MX9_isSo : am_MM 2 mX9_isSo := ⟨am_t4 124 rfl rfl, ziRX9, ⟨by decide +kernel, by decide +kernel⟩, by decide +kernel, by decide +kernel, by decide⟩
set_option maxRecDepth 20000 in
theorem iX9_isSo : Cond.instanceMethod yX9_isSo ∈ am_tbl := am_t4 122 rfl rfl
set_option maxRecDepth 20000 in
theorem sX9_isSo : Cond.selects RX9 yX9_isSo yX9_isSo ∈ am_tbl := am_t4 123 rfl rfl
abbrev mX9_kindOf : am_M := (yX9_kindOf, cX9_kindOf, 2, some .int)
set_option maxRecDepth 20000 in
theorem MX9_kindOf : am_MM 1 mX9_kindOf := ⟨am_t4 128 rfl rfl, ziRX9, ⟨by decide +kernel, by decide +kernel⟩, by decide +kernel, by decide +kernel, by decide⟩
set_option maxRecDepth 20000 in
theorem iX9_kindOf : Cond.instanceMethod yX9_kindOf ∈ am_tbl := am_t4 126 rfl rfl
set_option maxRecDepth 20000 in
theorem sX9_kindOf : Cond.selects RX9 yX9_kindOf yX9_kindOf ∈ am_tbl := am_t4 127 rfl rfl
abbrev mX9_sumOf : am_M := (yX9_sumOf, cX9_sumOf, 4, some .int)
set_option maxRecDepth 20000 in
theorem MX9_sumOf : am_MM 3 mX9_sumOf := ⟨am_t4 132 rfl rfl, ziRX9, ⟨by decide +kernel, by decide +kernel⟩, by decide +kernel, by decide +kernel, by decide⟩
set_option maxRecDepth 20000 in
theorem iX9_sumOf : Cond.instanceMethod yX9_sumOf ∈ am_tbl := am_t4 130 rfl rfl
set_option maxRecDepth 20000 in
theorem sX9_sumOf : Cond.selects RX9 yX9_sumOf yX9_sumOf ∈ am_tbl := am_t4 131 rfl rfl
abbrev mX1_tread : am_M := (yX1_tread, cX1_tread, 3, some .int)
set_option maxRecDepth 20000 in
theorem MX1_tread : am_MM 1 mX1_tread := ⟨am_t4 137 rfl rfl, ziRX1, ⟨by decide +kernel, by decide +kernel⟩, by decide +kernel, by decide +kernel, by decide⟩
set_option maxRecDepth 20000 in
theorem iX1_tread : Cond.instanceMethod yX1_tread ∈ am_tbl := am_t4 135 rfl rfl
set_option maxRecDepth 20000 in
theorem sX1_tread : Cond.selects RX1 yX1_tread yX1_tread ∈ am_tbl := am_t4 136 rfl rfl
abbrev mX2_keep : am_M := (yX2_keep, cX2_keep, 3, none)
set_option maxRecDepth 20000 in
theorem MX2_keep : am_MM 2 mX2_keep := ⟨am_t4 142 rfl rfl, ziRX2, ⟨by decide +kernel, by decide +kernel⟩, by decide +kernel, by decide +kernel, by decide⟩
set_option maxRecDepth 20000 in
theorem iX2_keep : Cond.instanceMethod yX2_keep ∈ am_tbl := am_t4 140 rfl rfl
set_option maxRecDepth 20000 in
theorem sX2_keep : Cond.selects RX2 yX2_keep yX2_keep ∈ am_tbl := am_t4 141 rfl rfl
abbrev mX6_make : am_M := (yX6_make, cX6_make, 2, none)
set_option maxRecDepth 20000 in
theorem MX6_make : am_MM 1 mX6_make := ⟨am_t4 147 rfl rfl, ziRX6, ⟨by decide +kernel, by decide +kernel⟩, by decide +kernel, by decide +kernel, by decide⟩
set_option maxRecDepth 20000 in
theorem iX6_make : Cond.instanceMethod yX6_make ∈ am_tbl := am_t4 145 rfl rfl
set_option maxRecDepth 20000 in
theorem sX6_make : Cond.selects RX6 yX6_make yX6_make ∈ am_tbl := am_t4 146 rfl rfl
abbrev mX4_reverse : am_M := (yX4_reverse, cX4_reverse, 6, none)
set_option maxRecDepth 20000 in
theorem MX4_reverse : am_MM 2 mX4_reverse := ⟨am_t4 151 rfl rfl, ziRX4, ⟨by decide +kernel, by decide +kernel⟩, by decide +kernel, by decide +kernel, by decide⟩
set_option maxRecDepth 20000 in
theorem iX4_reverse : Cond.instanceMethod yX4_reverse ∈ am_tbl := am_t4 149 rfl rfl
set_option maxRecDepth 20000 in
theorem sX4_reverse : Cond.selects RX4 yX4_reverse yX4_reverse ∈ am_tbl := am_t4 150 rfl rfl
abbrev mX4_lower : am_M := (yX4_lower, cX4_lower, 2, none)
set_option maxRecDepth 20000 in
theorem MX4_lower : am_MM 1 mX4_lower := ⟨am_t4 157 rfl rfl, ziRX4, ⟨by decide +kernel, by decide +kernel⟩, by decide +kernel, by decide +kernel, by decide⟩
set_option maxRecDepth 20000 in
theorem iX4_lower : Cond.instanceMethod yX4_lower ∈ am_tbl := am_t4 155 rfl rfl
set_option maxRecDepth 20000 in
theorem sX4_lower : Cond.selects RX4 yX4_lower yX4_lower ∈ am_tbl := am_t4 156 rfl rfl
abbrev mX1_exchange : am_M := (yX1_exchange, cX1_exchange, 5, some .int)
set_option maxRecDepth 20000 in
theorem MX1_exchange : am_MM 3 mX1_exchange := ⟨am_t4 163 rfl rfl, ziRX1, ⟨by decide +kernel, by decide +kernel⟩, by decide +kernel, by decide +kernel, by decide⟩
set_option maxRecDepth 20000 in
theorem iX1_exchange : Cond.instanceMethod yX1_exchange ∈ am_tbl := am_t4 161 rfl rfl
set_option maxRecDepth 20000 in
theorem sX1_exchange : Cond.selects RX1 yX1_exchange yX1_exchange ∈ am_tbl := am_t4 162 rfl rfl
abbrev mX4_has : am_M := (yX4_has, cX4_has, 2, some .boolean)
set_option maxRecDepth 20000 in
theorem MX4_has : am_MM 1 mX4_has := ⟨am_t4 167 rfl rfl, ziRX4, ⟨by decide +kernel, by decide +kernel⟩, by decide +kernel, by decide +kernel, by decide⟩
set_option maxRecDepth 20000 in
theorem iX4_has : Cond.instanceMethod yX4_has ∈ am_tbl := am_t4 165 rfl rfl
set_option maxRecDepth 20000 in
theorem sX4_has : Cond.selects RX4 yX4_has yX4_has ∈ am_tbl := am_t4 166 rfl rfl
abbrev mX4_exchange : am_M := (yX4_exchange, cX4_exchange, 4, none)
set_option maxRecDepth 20000 in
theorem MX4_exchange : am_MM 2 mX4_exchange := ⟨am_t4 171 rfl rfl, ziRX4, ⟨by decide +kernel, by decide +kernel⟩, by decide +kernel, by decide +kernel, by decide⟩
set_option maxRecDepth 20000 in
theorem iX4_exchange : Cond.instanceMethod yX4_exchange ∈ am_tbl := am_t4 169 rfl rfl
set_option maxRecDepth 20000 in
theorem sX4_exchange : Cond.selects RX4 yX4_exchange yX4_exchange ∈ am_tbl := am_t4 170 rfl rfl
abbrev mX1_lift : am_M := (yX1_lift, cX1_lift, 4, some .int)
set_option maxRecDepth 20000 in
theorem MX1_lift : am_MM 2 mX1_lift := ⟨am_t4 176 rfl rfl, ziRX1, ⟨by decide +kernel, by decide +kernel⟩, by decide +kernel, by decide +kernel, by decide⟩
set_option maxRecDepth 20000 in
theorem iX1_lift : Cond.instanceMethod yX1_lift ∈ am_tbl := am_t4 174 rfl rfl
set_option maxRecDepth 20000 in
theorem sX1_lift : Cond.selects RX1 yX1_lift yX1_lift ∈ am_tbl := am_t4 175 rfl rfl
abbrev mX11_fault : am_M := (yX11_fault, cX11_fault, 1, some .int)
set_option maxRecDepth 20000 in
theorem MX11_fault : am_MM 0 mX11_fault := ⟨am_t4 181 rfl rfl, ziRX11, ⟨by decide +kernel, by decide +kernel⟩, by decide +kernel, by decide +kernel, by decide⟩
set_option maxRecDepth 20000 in
theorem iX11_fault : Cond.instanceMethod yX11_fault ∈ am_tbl := am_t4 179 rfl rfl
set_option maxRecDepth 20000 in
theorem sX11_fault : Cond.selects RX11 yX11_fault yX11_fault ∈ am_tbl := am_t4 180 rfl rfl
abbrev mX11_stopped : am_M := (yX11_stopped, cX11_stopped, 1, some .int)
set_option maxRecDepth 20000 in
theorem MX11_stopped : am_MM 0 mX11_stopped := ⟨am_t4 185 rfl rfl, ziRX11, ⟨by decide +kernel, by decide +kernel⟩, by decide +kernel, by decide +kernel, by decide⟩
set_option maxRecDepth 20000 in
theorem iX11_stopped : Cond.instanceMethod yX11_stopped ∈ am_tbl := am_t4 183 rfl rfl
set_option maxRecDepth 20000 in
theorem sX11_stopped : Cond.selects RX11 yX11_stopped yX11_stopped ∈ am_tbl := am_t4 184 rfl rfl
abbrev mX11_force : am_M := (yX11_force, cX11_force, 3, some .int)
set_option maxRecDepth 20000 in
theorem MX11_force : am_MM 1 mX11_force := ⟨am_t4 189 rfl rfl, ziRX11, ⟨by decide +kernel, by decide +kernel⟩, by decide +kernel, by decide +kernel, by decide⟩
set_option maxRecDepth 20000 in
theorem iX11_force : Cond.instanceMethod yX11_force ∈ am_tbl := am_t4 187 rfl rfl
set_option maxRecDepth 20000 in
theorem sX11_force : Cond.selects RX11 yX11_force yX11_force ∈ am_tbl := am_t4 188 rfl rfl
abbrev mX11_step : am_M := (yX11_step, cX11_step, 3, some .int)
set_option maxRecDepth 20000 in
theorem MX11_step : am_MM 1 mX11_step := ⟨am_t4 193 rfl rfl, ziRX11, ⟨by decide +kernel, by decide +kernel⟩, by decide +kernel, by decide +kernel, by decide⟩
set_option maxRecDepth 20000 in
theorem iX11_step : Cond.instanceMethod yX11_step ∈ am_tbl := am_t4 191 rfl rfl
set_option maxRecDepth 20000 in
theorem sX11_step : Cond.selects RX11 yX11_step yX11_step ∈ am_tbl := am_t4 192 rfl rfl
abbrev mX11_swap : am_M := (yX11_swap, cX11_swap, 5, some .int)
set_option maxRecDepth 20000 in
theorem MX11_swap : am_MM 3 mX11_swap := ⟨am_t4 198 rfl rfl, ziRX11, ⟨by decide +kernel, by decide +kernel⟩, by decide +kernel, by decide +kernel, by decide⟩
set_option maxRecDepth 20000 in
theorem iX11_swap : Cond.instanceMethod yX11_swap ∈ am_tbl := am_t4 196 rfl rfl
set_option maxRecDepth 20000 in
theorem sX11_swap : Cond.selects RX11 yX11_swap yX11_swap ∈ am_tbl := am_t4 197 rfl rfl
abbrev mX11_cut : am_M := (yX11_cut, cX11_cut, 4, some .int)
set_option maxRecDepth 20000 in
theorem MX11_cut : am_MM 2 mX11_cut := ⟨am_t4 203 rfl rfl, ziRX11, ⟨by decide +kernel, by decide +kernel⟩, by decide +kernel, by decide +kernel, by decide⟩
set_option maxRecDepth 20000 in
theorem iX11_cut : Cond.instanceMethod yX11_cut ∈ am_tbl := am_t4 201 rfl rfl
set_option maxRecDepth 20000 in
theorem sX11_cut : Cond.selects RX11 yX11_cut yX11_cut ∈ am_tbl := am_t4 202 rfl rfl
abbrev mX11_undo : am_M := (yX11_undo, cX11_undo, 1, some .int)
set_option maxRecDepth 20000 in
theorem MX11_undo : am_MM 0 mX11_undo := ⟨am_t4 208 rfl rfl, ziRX11, ⟨by decide +kernel, by decide +kernel⟩, by decide +kernel, by decide +kernel, by decide⟩
set_option maxRecDepth 20000 in
theorem iX11_undo : Cond.instanceMethod yX11_undo ∈ am_tbl := am_t4 206 rfl rfl
set_option maxRecDepth 20000 in
theorem sX11_undo : Cond.selects RX11 yX11_undo yX11_undo ∈ am_tbl := am_t4 207 rfl rfl
abbrev mX2_takeBack : am_M := (yX2_takeBack, cX2_takeBack, 3, some .int)
set_option maxRecDepth 20000 in
theorem MX2_takeBack : am_MM 1 mX2_takeBack := ⟨am_t4 212 rfl rfl, ziRX2, ⟨by decide +kernel, by decide +kernel⟩, by decide +kernel, by decide +kernel, by decide⟩
set_option maxRecDepth 20000 in
theorem iX2_takeBack : Cond.instanceMethod yX2_takeBack ∈ am_tbl := am_t4 210 rfl rfl
set_option maxRecDepth 20000 in
theorem sX2_takeBack : Cond.selects RX2 yX2_takeBack yX2_takeBack ∈ am_tbl := am_t4 211 rfl rfl
abbrev mX11_goes : am_M := (yX11_goes, cX11_goes, 4, some .int)
set_option maxRecDepth 20000 in
theorem MX11_goes : am_MM 2 mX11_goes := ⟨am_t4 218 rfl rfl, ziRX11, ⟨by decide +kernel, by decide +kernel⟩, by decide +kernel, by decide +kernel, by decide⟩
set_option maxRecDepth 20000 in
theorem iX11_goes : Cond.instanceMethod yX11_goes ∈ am_tbl := am_t4 216 rfl rfl
set_option maxRecDepth 20000 in
theorem sX11_goes : Cond.selects RX11 yX11_goes yX11_goes ∈ am_tbl := am_t4 217 rfl rfl
abbrev mX6_goOn : am_M := (yX6_goOn, cX6_goOn, 4, none)
set_option maxRecDepth 20000 in
theorem MX6_goOn : am_MM 1 mX6_goOn := ⟨am_t4 223 rfl rfl, ziRX6, ⟨by decide +kernel, by decide +kernel⟩, by decide +kernel, by decide +kernel, by decide⟩
set_option maxRecDepth 20000 in
theorem iX6_goOn : Cond.instanceMethod yX6_goOn ∈ am_tbl := am_t4 221 rfl rfl
set_option maxRecDepth 20000 in
theorem sX6_goOn : Cond.selects RX6 yX6_goOn yX6_goOn ∈ am_tbl := am_t4 222 rfl rfl
abbrev mX4_packed : am_M := (yX4_packed, cX4_packed, 4, some .long)
set_option maxRecDepth 20000 in
theorem MX4_packed : am_MM 0 mX4_packed := ⟨am_t4 228 rfl rfl, ziRX4, ⟨by decide +kernel, by decide +kernel⟩, by decide +kernel, by decide +kernel, by decide⟩
set_option maxRecDepth 20000 in
theorem iX4_packed : Cond.instanceMethod yX4_packed ∈ am_tbl := am_t4 226 rfl rfl
set_option maxRecDepth 20000 in
theorem sX4_packed : Cond.selects RX4 yX4_packed yX4_packed ∈ am_tbl := am_t4 227 rfl rfl
abbrev mX6_earlier : am_M := (yX6_earlier, cX6_earlier, 3, some .int)
set_option maxRecDepth 20000 in
theorem MX6_earlier : am_MM 1 mX6_earlier := ⟨am_t4 232 rfl rfl, ziRX6, ⟨by decide +kernel, by decide +kernel⟩, by decide +kernel, by decide +kernel, by decide⟩
set_option maxRecDepth 20000 in
theorem iX6_earlier : Cond.instanceMethod yX6_earlier ∈ am_tbl := am_t4 231 rfl rfl
set_option maxRecDepth 20000 in
theorem sX6_earlier : Cond.selects RX6 yX6_earlier yX6_earlier ∈ am_tbl := am_tbl_of 24 rfl rfl
abbrev mX11_after : am_M := (yX11_after, cX11_after, 6, some .int)
set_option maxRecDepth 20000 in
theorem MX11_after : am_MM 3 mX11_after := ⟨am_t4 237 rfl rfl, ziRX11, ⟨by decide +kernel, by decide +kernel⟩, by decide +kernel, by decide +kernel, by decide⟩
set_option maxRecDepth 20000 in
theorem iX11_after : Cond.instanceMethod yX11_after ∈ am_tbl := am_t4 235 rfl rfl
set_option maxRecDepth 20000 in
theorem sX11_after : Cond.selects RX11 yX11_after yX11_after ∈ am_tbl := am_t4 236 rfl rfl
abbrev mX11_longest : am_M := (yX11_longest, cX11_longest, 3, some .int)
set_option maxRecDepth 20000 in
theorem MX11_longest : am_MM 2 mX11_longest := ⟨am_t5 2 rfl rfl, ziRX11, ⟨by decide +kernel, by decide +kernel⟩, by decide +kernel, by decide +kernel, by decide⟩
set_option maxRecDepth 20000 in
theorem iX11_longest : Cond.instanceMethod yX11_longest ∈ am_tbl := am_t5 0 rfl rfl
set_option maxRecDepth 20000 in
theorem sX11_longest : Cond.selects RX11 yX11_longest yX11_longest ∈ am_tbl := am_t5 1 rfl rfl
abbrev mX4_rise : am_M := (yX4_rise, cX4_rise, 3, none)
set_option maxRecDepth 20000 in
theorem MX4_rise : am_MM 1 mX4_rise := ⟨am_t5 6 rfl rfl, ziRX4, ⟨by decide +kernel, by decide +kernel⟩, by decide +kernel, by decide +kernel, by decide⟩
set_option maxRecDepth 20000 in
theorem iX4_rise : Cond.instanceMethod yX4_rise ∈ am_tbl := am_t5 4 rfl rfl
set_option maxRecDepth 20000 in
theorem sX4_rise : Cond.selects RX4 yX4_rise yX4_rise ∈ am_tbl := am_t5 5 rfl rfl
abbrev mX10_survey : am_M := (yX10_survey, cX10_survey, 4, none)
set_option maxRecDepth 20000 in
theorem MX10_survey : am_MM 1 mX10_survey := ⟨am_t5 10 rfl rfl, ziRX10, ⟨by decide +kernel, by decide +kernel⟩, by decide +kernel, by decide +kernel, by decide⟩
set_option maxRecDepth 20000 in
theorem iX10_survey : Cond.instanceMethod yX10_survey ∈ am_tbl := am_t5 8 rfl rfl
set_option maxRecDepth 20000 in
theorem sX10_survey : Cond.selects RX10 yX10_survey yX10_survey ∈ am_tbl := am_t5 9 rfl rfl
abbrev mX10_start : am_M := (yX10_start, cX10_start, 3, none)
set_option maxRecDepth 20000 in
theorem MX10_start : am_MM 1 mX10_start := ⟨am_t5 14 rfl rfl, ziRX10, ⟨by decide +kernel, by decide +kernel⟩, by decide +kernel, by decide +kernel, by decide⟩
set_option maxRecDepth 20000 in
theorem iX10_start : Cond.instanceMethod yX10_start ∈ am_tbl := am_t5 13 rfl rfl
set_option maxRecDepth 20000 in
theorem sX10_start : Cond.selects RX10 yX10_start yX10_start ∈ am_tbl := am_tbl_of 25 rfl rfl
abbrev mX4_order : am_M := (yX4_order, cX4_order, 4, none)
set_option maxRecDepth 20000 in
theorem MX4_order : am_MM 1 mX4_order := ⟨am_t5 21 rfl rfl, ziRX4, ⟨by decide +kernel, by decide +kernel⟩, by decide +kernel, by decide +kernel, by decide⟩
set_option maxRecDepth 20000 in
theorem iX4_order : Cond.instanceMethod yX4_order ∈ am_tbl := am_t5 19 rfl rfl
set_option maxRecDepth 20000 in
theorem sX4_order : Cond.selects RX4 yX4_order yX4_order ∈ am_tbl := am_t5 20 rfl rfl
abbrev mX10_makeRoom : am_M := (yX10_makeRoom, cX10_makeRoom, 4, none)
set_option maxRecDepth 20000 in
theorem MX10_makeRoom : am_MM 0 mX10_makeRoom := ⟨am_t5 28 rfl rfl, ziRX10, ⟨by decide +kernel, by decide +kernel⟩, by decide +kernel, by decide +kernel, by decide⟩
set_option maxRecDepth 20000 in
theorem iX10_makeRoom : Cond.instanceMethod yX10_makeRoom ∈ am_tbl := am_t5 27 rfl rfl
set_option maxRecDepth 20000 in
theorem sX10_makeRoom : Cond.selects RX10 yX10_makeRoom yX10_makeRoom ∈ am_tbl := am_tbl_of 26 rfl rfl
abbrev mX10_rowsOf : am_M := (yX10_rowsOf, cX10_rowsOf, 1, some .int)
set_option maxRecDepth 20000 in
theorem MX10_rowsOf : am_MM 1 mX10_rowsOf := ⟨am_t5 32 rfl rfl, ziRX10, ⟨by decide +kernel, by decide +kernel⟩, by decide +kernel, by decide +kernel, by decide⟩
set_option maxRecDepth 20000 in
theorem tX10_rowsOf : Cond.static yX10_rowsOf ∈ am_tbl := am_t5 31 rfl rfl
abbrev mJ7_fill_53178 : am_M := (yJ7_fill_53178, cJ7_fill_53178, 4, none)
set_option maxRecDepth 20000 in
theorem MJ7_fill_53178 : am_MM 2 mJ7_fill_53178 := ⟨am_t5 37 rfl rfl, ziRJ7, ⟨by decide +kernel, by decide +kernel⟩, by decide +kernel, by decide +kernel, by decide⟩
set_option maxRecDepth 20000 in
theorem tJ7_fill_53178 : Cond.static yJ7_fill_53178 ∈ am_tbl := am_t5 36 rfl rfl
abbrev mX10_fateOf : am_M := (yX10_fateOf, cX10_fateOf, 7, some .int)
set_option maxRecDepth 20000 in
theorem MX10_fateOf : am_MM 1 mX10_fateOf := ⟨am_t5 41 rfl rfl, ziRX10, ⟨by decide +kernel, by decide +kernel⟩, by decide +kernel, by decide +kernel, by decide⟩
set_option maxRecDepth 20000 in
theorem iX10_fateOf : Cond.instanceMethod yX10_fateOf ∈ am_tbl := am_t5 40 rfl rfl
set_option maxRecDepth 20000 in
theorem sX10_fateOf : Cond.selects RX10 yX10_fateOf yX10_fateOf ∈ am_tbl := am_tbl_of 27 rfl rfl
abbrev mX10_timeOf : am_M := (yX10_timeOf, cX10_timeOf, 7, some .int)
set_option maxRecDepth 20000 in
theorem MX10_timeOf : am_MM 1 mX10_timeOf := ⟨am_t5 45 rfl rfl, ziRX10, ⟨by decide +kernel, by decide +kernel⟩, by decide +kernel, by decide +kernel, by decide⟩
set_option maxRecDepth 20000 in
theorem iX10_timeOf : Cond.instanceMethod yX10_timeOf ∈ am_tbl := am_t5 44 rfl rfl
set_option maxRecDepth 20000 in
theorem sX10_timeOf : Cond.selects RX10 yX10_timeOf yX10_timeOf ∈ am_tbl := am_tbl_of 28 rfl rfl
abbrev mJ6_bitCount_0f7a4 : am_M := (yJ6_bitCount_0f7a4, cJ6_bitCount_0f7a4, 1, some .int)
set_option maxRecDepth 20000 in
theorem MJ6_bitCount_0f7a4 : am_MM 1 mJ6_bitCount_0f7a4 := ⟨am_t5 48 rfl rfl, ziRJ6, ⟨by decide +kernel, by decide +kernel⟩, by decide +kernel, by decide +kernel, by decide⟩
set_option maxRecDepth 20000 in
theorem tJ6_bitCount_0f7a4 : Cond.static yJ6_bitCount_0f7a4 ∈ am_tbl := am_t5 47 rfl rfl
abbrev mX4_rises : am_M := (yX4_rises, cX4_rises, 2, some .boolean)
set_option maxRecDepth 20000 in
theorem MX4_rises : am_MM 0 mX4_rises := ⟨am_t5 57 rfl rfl, ziRX4, ⟨by decide +kernel, by decide +kernel⟩, by decide +kernel, by decide +kernel, by decide⟩
set_option maxRecDepth 20000 in
theorem iX4_rises : Cond.instanceMethod yX4_rises ∈ am_tbl := am_t5 55 rfl rfl
set_option maxRecDepth 20000 in
theorem sX4_rises : Cond.selects RX4 yX4_rises yX4_rises ∈ am_tbl := am_t5 56 rfl rfl
abbrev mX10_writeDown : am_M := (yX10_writeDown, cX10_writeDown, 6, none)
set_option maxRecDepth 20000 in
theorem MX10_writeDown : am_MM 3 mX10_writeDown := ⟨am_t5 61 rfl rfl, ziRX10, ⟨by decide +kernel, by decide +kernel⟩, by decide +kernel, by decide +kernel, by decide⟩
set_option maxRecDepth 20000 in
theorem iX10_writeDown : Cond.instanceMethod yX10_writeDown ∈ am_tbl := am_t5 60 rfl rfl
set_option maxRecDepth 20000 in
theorem sX10_writeDown : Cond.selects RX10 yX10_writeDown yX10_writeDown ∈ am_tbl := am_tbl_of 29 rfl rfl
abbrev mX10_tally : am_M := (yX10_tally, cX10_tally, 5, none)
set_option maxRecDepth 20000 in
theorem MX10_tally : am_MM 2 mX10_tally := ⟨am_t5 65 rfl rfl, ziRX10, ⟨by decide +kernel, by decide +kernel⟩, by decide +kernel, by decide +kernel, by decide⟩
set_option maxRecDepth 20000 in
theorem iX10_tally : Cond.instanceMethod yX10_tally ∈ am_tbl := am_t5 64 rfl rfl
set_option maxRecDepth 20000 in
theorem sX10_tally : Cond.selects RX10 yX10_tally yX10_tally ∈ am_tbl := am_tbl_of 30 rfl rfl
abbrev mX4_advance : am_M := (yX4_advance, cX4_advance, 4, some .boolean)
set_option maxRecDepth 20000 in
theorem MX4_advance : am_MM 1 mX4_advance := ⟨am_t5 69 rfl rfl, ziRX4, ⟨by decide +kernel, by decide +kernel⟩, by decide +kernel, by decide +kernel, by decide⟩
set_option maxRecDepth 20000 in
theorem iX4_advance : Cond.instanceMethod yX4_advance ∈ am_tbl := am_t5 67 rfl rfl
set_option maxRecDepth 20000 in
theorem sX4_advance : Cond.selects RX4 yX4_advance yX4_advance ∈ am_tbl := am_t5 68 rfl rfl
abbrev mX10_cardOf : am_M := (yX10_cardOf, cX10_cardOf, 3, some .int)
set_option maxRecDepth 20000 in
theorem MX10_cardOf : am_MM 2 mX10_cardOf := ⟨am_t5 73 rfl rfl, ziRX10, ⟨by decide +kernel, by decide +kernel⟩, by decide +kernel, by decide +kernel, by decide⟩
set_option maxRecDepth 20000 in
theorem iX10_cardOf : Cond.instanceMethod yX10_cardOf ∈ am_tbl := am_t5 71 rfl rfl
set_option maxRecDepth 20000 in
theorem sX10_cardOf : Cond.selects RX10 yX10_cardOf yX10_cardOf ∈ am_tbl := am_t5 72 rfl rfl
abbrev mX10_layOut : am_M := (yX10_layOut, cX10_layOut, 8, none)
set_option maxRecDepth 20000 in
theorem MX10_layOut : am_MM 1 mX10_layOut := ⟨am_t5 77 rfl rfl, ziRX10, ⟨by decide +kernel, by decide +kernel⟩, by decide +kernel, by decide +kernel, by decide⟩
set_option maxRecDepth 20000 in
theorem iX10_layOut : Cond.instanceMethod yX10_layOut ∈ am_tbl := am_t5 76 rfl rfl
set_option maxRecDepth 20000 in
theorem sX10_layOut : Cond.selects RX10 yX10_layOut yX10_layOut ∈ am_tbl := am_tbl_of 31 rfl rfl
abbrev mX11_orderly : am_M := (yX11_orderly, cX11_orderly, 3, some .int)
set_option maxRecDepth 20000 in
theorem MX11_orderly : am_MM 2 mX11_orderly := ⟨am_t5 81 rfl rfl, ziRX11, ⟨by decide +kernel, by decide +kernel⟩, by decide +kernel, by decide +kernel, by decide⟩
set_option maxRecDepth 20000 in
theorem iX11_orderly : Cond.instanceMethod yX11_orderly ∈ am_tbl := am_t5 79 rfl rfl
set_option maxRecDepth 20000 in
theorem sX11_orderly : Cond.selects RX11 yX11_orderly yX11_orderly ∈ am_tbl := am_t5 80 rfl rfl
abbrev mX11_to : am_M := (yX11_to, cX11_to, 5, some .int)
set_option maxRecDepth 20000 in
theorem MX11_to : am_MM 3 mX11_to := ⟨am_t5 85 rfl rfl, ziRX11, ⟨by decide +kernel, by decide +kernel⟩, by decide +kernel, by decide +kernel, by decide⟩
set_option maxRecDepth 20000 in
theorem iX11_to : Cond.instanceMethod yX11_to ∈ am_tbl := am_t5 83 rfl rfl
set_option maxRecDepth 20000 in
theorem sX11_to : Cond.selects RX11 yX11_to yX11_to ∈ am_tbl := am_t5 84 rfl rfl
abbrev mX10_leading : am_M := (yX10_leading, cX10_leading, 9, some .int)
set_option maxRecDepth 20000 in
theorem MX10_leading : am_MM 3 mX10_leading := ⟨am_t5 89 rfl rfl, ziRX10, ⟨by decide +kernel, by decide +kernel⟩, by decide +kernel, by decide +kernel, by decide⟩
set_option maxRecDepth 20000 in
theorem iX10_leading : Cond.instanceMethod yX10_leading ∈ am_tbl := am_t5 87 rfl rfl
set_option maxRecDepth 20000 in
theorem sX10_leading : Cond.selects RX10 yX10_leading yX10_leading ∈ am_tbl := am_t5 88 rfl rfl
abbrev mX10_follow : am_M := (yX10_follow, cX10_follow, 3, some .int)
set_option maxRecDepth 20000 in
theorem MX10_follow : am_MM 1 mX10_follow := ⟨am_t5 93 rfl rfl, ziRX10, ⟨by decide +kernel, by decide +kernel⟩, by decide +kernel, by decide +kernel, by decide⟩
set_option maxRecDepth 20000 in
theorem iX10_follow : Cond.instanceMethod yX10_follow ∈ am_tbl := am_t5 92 rfl rfl
set_option maxRecDepth 20000 in
theorem sX10_follow : Cond.selects RX10 yX10_follow yX10_follow ∈ am_tbl := am_tbl_of 32 rfl rfl
abbrev mX11_cheat : am_M := (yX11_cheat, cX11_cheat, 4, some .int)
set_option maxRecDepth 20000 in
theorem MX11_cheat : am_MM 2 mX11_cheat := ⟨am_t5 97 rfl rfl, ziRX11, ⟨by decide +kernel, by decide +kernel⟩, by decide +kernel, by decide +kernel, by decide⟩
set_option maxRecDepth 20000 in
theorem iX11_cheat : Cond.instanceMethod yX11_cheat ∈ am_tbl := am_t5 95 rfl rfl
set_option maxRecDepth 20000 in
theorem sX11_cheat : Cond.selects RX11 yX11_cheat yX11_cheat ∈ am_tbl := am_t5 96 rfl rfl
abbrev mX6_lookForCheat : am_M := (yX6_lookForCheat, cX6_lookForCheat, 6, none)
set_option maxRecDepth 20000 in
theorem MX6_lookForCheat : am_MM 2 mX6_lookForCheat := ⟨am_t5 101 rfl rfl, ziRX6, ⟨by decide +kernel, by decide +kernel⟩, by decide +kernel, by decide +kernel, by decide⟩
set_option maxRecDepth 20000 in
theorem iX6_lookForCheat : Cond.instanceMethod yX6_lookForCheat ∈ am_tbl := am_t5 99 rfl rfl
set_option maxRecDepth 20000 in
theorem sX6_lookForCheat : Cond.selects RX6 yX6_lookForCheat yX6_lookForCheat ∈ am_tbl := am_t5 100 rfl rfl
abbrev mX6_endsBehind : am_M := (yX6_endsBehind, cX6_endsBehind, 9, some .int)
set_option maxRecDepth 20000 in
theorem MX6_endsBehind : am_MM 1 mX6_endsBehind := ⟨am_t5 107 rfl rfl, ziRX6, ⟨by decide +kernel, by decide +kernel⟩, by decide +kernel, by decide +kernel, by decide⟩
set_option maxRecDepth 20000 in
theorem iX6_endsBehind : Cond.instanceMethod yX6_endsBehind ∈ am_tbl := am_t5 105 rfl rfl
set_option maxRecDepth 20000 in
theorem sX6_endsBehind : Cond.selects RX6 yX6_endsBehind yX6_endsBehind ∈ am_tbl := am_t5 106 rfl rfl
abbrev mX11_odds : am_M := (yX11_odds, cX11_odds, 6, some .int)
set_option maxRecDepth 20000 in
theorem MX11_odds : am_MM 4 mX11_odds := ⟨am_t5 112 rfl rfl, ziRX11, ⟨by decide +kernel, by decide +kernel⟩, by decide +kernel, by decide +kernel, by decide⟩
set_option maxRecDepth 20000 in
theorem iX11_odds : Cond.instanceMethod yX11_odds ∈ am_tbl := am_t5 110 rfl rfl
set_option maxRecDepth 20000 in
theorem sX11_odds : Cond.selects RX11 yX11_odds yX11_odds ∈ am_tbl := am_t5 111 rfl rfl
abbrev mX10_weigh : am_M := (yX10_weigh, cX10_weigh, 9, none)
set_option maxRecDepth 20000 in
theorem MX10_weigh : am_MM 3 mX10_weigh := ⟨am_t5 116 rfl rfl, ziRX10, ⟨by decide +kernel, by decide +kernel⟩, by decide +kernel, by decide +kernel, by decide⟩
set_option maxRecDepth 20000 in
theorem iX10_weigh : Cond.instanceMethod yX10_weigh ∈ am_tbl := am_t5 114 rfl rfl
set_option maxRecDepth 20000 in
theorem sX10_weigh : Cond.selects RX10 yX10_weigh yX10_weigh ∈ am_tbl := am_t5 115 rfl rfl
abbrev mX10_commonDivisor : am_M := (yX10_commonDivisor, cX10_commonDivisor, 6, some .int)
set_option maxRecDepth 20000 in
theorem MX10_commonDivisor : am_MM 2 mX10_commonDivisor := ⟨am_t5 119 rfl rfl, ziRX10, ⟨by decide +kernel, by decide +kernel⟩, by decide +kernel, by decide +kernel, by decide⟩
set_option maxRecDepth 20000 in
theorem tX10_commonDivisor : Cond.static yX10_commonDivisor ∈ am_tbl := am_t5 118 rfl rfl
abbrev mX11_sight : am_M := (yX11_sight, cX11_sight, 3, some .int)
set_option maxRecDepth 20000 in
theorem MX11_sight : am_MM 2 mX11_sight := ⟨am_t5 123 rfl rfl, ziRX11, ⟨by decide +kernel, by decide +kernel⟩, by decide +kernel, by decide +kernel, by decide⟩
set_option maxRecDepth 20000 in
theorem iX11_sight : Cond.instanceMethod yX11_sight ∈ am_tbl := am_t5 121 rfl rfl
set_option maxRecDepth 20000 in
theorem sX11_sight : Cond.selects RX11 yX11_sight yX11_sight ∈ am_tbl := am_t5 122 rfl rfl
abbrev mX7_addSight : am_M := (yX7_addSight, cX7_addSight, 3, some .int)
set_option maxRecDepth 20000 in
theorem MX7_addSight : am_MM 2 mX7_addSight := ⟨am_t5 127 rfl rfl, ziRX7, ⟨by decide +kernel, by decide +kernel⟩, by decide +kernel, by decide +kernel, by decide⟩
set_option maxRecDepth 20000 in
theorem iX7_addSight : Cond.instanceMethod yX7_addSight ∈ am_tbl := am_t5 125 rfl rfl
set_option maxRecDepth 20000 in
theorem sX7_addSight : Cond.selects RX7 yX7_addSight yX7_addSight ∈ am_tbl := am_t5 126 rfl rfl
abbrev mX11_forget : am_M := (yX11_forget, cX11_forget, 2, some .int)
set_option maxRecDepth 20000 in
theorem MX11_forget : am_MM 0 mX11_forget := ⟨am_t5 131 rfl rfl, ziRX11, ⟨by decide +kernel, by decide +kernel⟩, by decide +kernel, by decide +kernel, by decide⟩
set_option maxRecDepth 20000 in
theorem iX11_forget : Cond.instanceMethod yX11_forget ∈ am_tbl := am_t5 129 rfl rfl
set_option maxRecDepth 20000 in
theorem sX11_forget : Cond.selects RX11 yX11_forget yX11_forget ∈ am_tbl := am_t5 130 rfl rfl
abbrev mX11_fits : am_M := (yX11_fits, cX11_fits, 5, some .int)
set_option maxRecDepth 20000 in
theorem MX11_fits : am_MM 3 mX11_fits := ⟨am_t5 135 rfl rfl, ziRX11, ⟨by decide +kernel, by decide +kernel⟩, by decide +kernel, by decide +kernel, by decide⟩
set_option maxRecDepth 20000 in
theorem iX11_fits : Cond.instanceMethod yX11_fits ∈ am_tbl := am_t5 133 rfl rfl
set_option maxRecDepth 20000 in
theorem sX11_fits : Cond.selects RX11 yX11_fits yX11_fits ∈ am_tbl := am_t5 134 rfl rfl
abbrev mX10_fitting : am_M := (yX10_fitting, cX10_fitting, 8, some .int)
set_option maxRecDepth 20000 in
theorem MX10_fitting : am_MM 3 mX10_fitting := ⟨am_t5 139 rfl rfl, ziRX10, ⟨by decide +kernel, by decide +kernel⟩, by decide +kernel, by decide +kernel, by decide⟩
set_option maxRecDepth 20000 in
theorem iX10_fitting : Cond.instanceMethod yX10_fitting ∈ am_tbl := am_t5 137 rfl rfl
set_option maxRecDepth 20000 in
theorem sX10_fitting : Cond.selects RX10 yX10_fitting yX10_fitting ∈ am_tbl := am_t5 138 rfl rfl
abbrev mX10_wantSights : am_M := (yX10_wantSights, cX10_wantSights, 5, some .int)
set_option maxRecDepth 20000 in
theorem MX10_wantSights : am_MM 0 mX10_wantSights := ⟨am_t5 143 rfl rfl, ziRX10, ⟨by decide +kernel, by decide +kernel⟩, by decide +kernel, by decide +kernel, by decide⟩
set_option maxRecDepth 20000 in
theorem iX10_wantSights : Cond.instanceMethod yX10_wantSights ∈ am_tbl := am_t5 142 rfl rfl
set_option maxRecDepth 20000 in
theorem sX10_wantSights : Cond.selects RX10 yX10_wantSights yX10_wantSights ∈ am_tbl := am_tbl_of 33 rfl rfl
abbrev mX7_stepsOf : am_M := (yX7_stepsOf, cX7_stepsOf, 2, some .int)
set_option maxRecDepth 20000 in
theorem MX7_stepsOf : am_MM 1 mX7_stepsOf := ⟨am_t5 147 rfl rfl, ziRX7, ⟨by decide +kernel, by decide +kernel⟩, by decide +kernel, by decide +kernel, by decide⟩
set_option maxRecDepth 20000 in
theorem iX7_stepsOf : Cond.instanceMethod yX7_stepsOf ∈ am_tbl := am_t5 145 rfl rfl
set_option maxRecDepth 20000 in
theorem sX7_stepsOf : Cond.selects RX7 yX7_stepsOf yX7_stepsOf ∈ am_tbl := am_t5 146 rfl rfl
abbrev mX7_cardOf : am_M := (yX7_cardOf, cX7_cardOf, 2, some .int)
set_option maxRecDepth 20000 in
theorem MX7_cardOf : am_MM 1 mX7_cardOf := ⟨am_t5 151 rfl rfl, ziRX7, ⟨by decide +kernel, by decide +kernel⟩, by decide +kernel, by decide +kernel, by decide⟩
set_option maxRecDepth 20000 in
theorem iX7_cardOf : Cond.instanceMethod yX7_cardOf ∈ am_tbl := am_t5 149 rfl rfl
set_option maxRecDepth 20000 in
theorem sX7_cardOf : Cond.selects RX7 yX7_cardOf yX7_cardOf ∈ am_tbl := am_t5 150 rfl rfl
abbrev mX10_fitsSights : am_M := (yX10_fitsSights, cX10_fitsSights, 5, some .boolean)
set_option maxRecDepth 20000 in
theorem MX10_fitsSights : am_MM 2 mX10_fitsSights := ⟨am_t5 155 rfl rfl, ziRX10, ⟨by decide +kernel, by decide +kernel⟩, by decide +kernel, by decide +kernel, by decide⟩
set_option maxRecDepth 20000 in
theorem iX10_fitsSights : Cond.instanceMethod yX10_fitsSights ∈ am_tbl := am_t5 154 rfl rfl
set_option maxRecDepth 20000 in
theorem sX10_fitsSights : Cond.selects RX10 yX10_fitsSights yX10_fitsSights ∈ am_tbl := am_tbl_of 34 rfl rfl
abbrev mX10_topOf : am_M := (yX10_topOf, cX10_topOf, 3, some .int)
set_option maxRecDepth 20000 in
theorem MX10_topOf : am_MM 1 mX10_topOf := ⟨am_t5 159 rfl rfl, ziRX10, ⟨by decide +kernel, by decide +kernel⟩, by decide +kernel, by decide +kernel, by decide⟩
set_option maxRecDepth 20000 in
theorem iX10_topOf : Cond.instanceMethod yX10_topOf ∈ am_tbl := am_t5 158 rfl rfl
set_option maxRecDepth 20000 in
theorem sX10_topOf : Cond.selects RX10 yX10_topOf yX10_topOf ∈ am_tbl := am_tbl_of 35 rfl rfl
abbrev mX11_race : am_M := (yX11_race, cX11_race, 7, some .int)
set_option maxRecDepth 20000 in
theorem MX11_race : am_MM 2 mX11_race := ⟨am_t5 163 rfl rfl, ziRX11, ⟨by decide +kernel, by decide +kernel⟩, by decide +kernel, by decide +kernel, by decide⟩
set_option maxRecDepth 20000 in
theorem iX11_race : Cond.instanceMethod yX11_race ∈ am_tbl := am_t5 161 rfl rfl
set_option maxRecDepth 20000 in
theorem sX11_race : Cond.selects RX11 yX11_race yX11_race ∈ am_tbl := am_t5 162 rfl rfl
abbrev mX11_sorted : am_M := (yX11_sorted, cX11_sorted, 4, some .int)
set_option maxRecDepth 20000 in
theorem MX11_sorted : am_MM 2 mX11_sorted := ⟨am_t5 168 rfl rfl, ziRX11, ⟨by decide +kernel, by decide +kernel⟩, by decide +kernel, by decide +kernel, by decide⟩
set_option maxRecDepth 20000 in
theorem iX11_sorted : Cond.instanceMethod yX11_sorted ∈ am_tbl := am_t5 166 rfl rfl
set_option maxRecDepth 20000 in
theorem sX11_sorted : Cond.selects RX11 yX11_sorted yX11_sorted ∈ am_tbl := am_t5 167 rfl rfl
abbrev mX5_putInOrder : am_M := (yX5_putInOrder, cX5_putInOrder, 3, none)
set_option maxRecDepth 20000 in
theorem MX5_putInOrder : am_MM 1 mX5_putInOrder := ⟨am_t5 172 rfl rfl, ziRX5, ⟨by decide +kernel, by decide +kernel⟩, by decide +kernel, by decide +kernel, by decide⟩
set_option maxRecDepth 20000 in
theorem iX5_putInOrder : Cond.instanceMethod yX5_putInOrder ∈ am_tbl := am_t5 170 rfl rfl
set_option maxRecDepth 20000 in
theorem sX5_putInOrder : Cond.selects RX5 yX5_putInOrder yX5_putInOrder ∈ am_tbl := am_t5 171 rfl rfl
abbrev mX5_rankCards : am_M := (yX5_rankCards, cX5_rankCards, 3, none)
set_option maxRecDepth 20000 in
theorem MX5_rankCards : am_MM 1 mX5_rankCards := ⟨am_t5 176 rfl rfl, ziRX5, ⟨by decide +kernel, by decide +kernel⟩, by decide +kernel, by decide +kernel, by decide⟩
set_option maxRecDepth 20000 in
theorem iX5_rankCards : Cond.instanceMethod yX5_rankCards ∈ am_tbl := am_t5 175 rfl rfl
set_option maxRecDepth 20000 in
theorem sX5_rankCards : Cond.selects RX5 yX5_rankCards yX5_rankCards ∈ am_tbl := am_tbl_of 36 rfl rfl
abbrev mX5_search : am_M := (yX5_search, cX5_search, 6, some .boolean)
set_option maxRecDepth 20000 in
theorem MX5_search : am_MM 3 mX5_search := ⟨am_t5 181 rfl rfl, ziRX5, ⟨by decide +kernel, by decide +kernel⟩, by decide +kernel, by decide +kernel, by decide⟩
set_option maxRecDepth 20000 in
theorem iX5_search : Cond.instanceMethod yX5_search ∈ am_tbl := am_t5 180 rfl rfl
set_option maxRecDepth 20000 in
theorem sX5_search : Cond.selects RX5 yX5_search yX5_search ∈ am_tbl := am_tbl_of 37 rfl rfl
abbrev mX5_atLeast : am_M := (yX5_atLeast, cX5_atLeast, 7, some .int)
set_option maxRecDepth 20000 in
theorem MX5_atLeast : am_MM 1 mX5_atLeast := ⟨am_t5 186 rfl rfl, ziRX5, ⟨by decide +kernel, by decide +kernel⟩, by decide +kernel, by decide +kernel, by decide⟩
set_option maxRecDepth 20000 in
theorem iX5_atLeast : Cond.instanceMethod yX5_atLeast ∈ am_tbl := am_t5 185 rfl rfl
set_option maxRecDepth 20000 in
theorem sX5_atLeast : Cond.selects RX5 yX5_atLeast yX5_atLeast ∈ am_tbl := am_tbl_of 38 rfl rfl
abbrev mX5_block : am_M := (yX5_block, cX5_block, 2, some .int)
set_option maxRecDepth 20000 in
theorem MX5_block : am_MM 1 mX5_block := ⟨am_t5 195 rfl rfl, ziRX5, ⟨by decide +kernel, by decide +kernel⟩, by decide +kernel, by decide +kernel, by decide⟩
set_option maxRecDepth 20000 in
theorem iX5_block : Cond.instanceMethod yX5_block ∈ am_tbl := am_t5 193 rfl rfl
set_option maxRecDepth 20000 in
theorem sX5_block : Cond.selects RX5 yX5_block yX5_block ∈ am_tbl := am_t5 194 rfl rfl
abbrev mX11_evenings : am_M := (yX11_evenings, cX11_evenings, 5, some .int)
set_option maxRecDepth 20000 in
theorem MX11_evenings : am_MM 3 mX11_evenings := ⟨am_t5 199 rfl rfl, ziRX11, ⟨by decide +kernel, by decide +kernel⟩, by decide +kernel, by decide +kernel, by decide⟩
set_option maxRecDepth 20000 in
theorem iX11_evenings : Cond.instanceMethod yX11_evenings ∈ am_tbl := am_t5 197 rfl rfl
set_option maxRecDepth 20000 in
theorem sX11_evenings : Cond.selects RX11 yX11_evenings yX11_evenings ∈ am_tbl := am_t5 198 rfl rfl
abbrev mX0_hold : am_M := (yX0_hold, cX0_hold, 6, some .int)
set_option maxRecDepth 20000 in
theorem MX0_hold : am_MM 3 mX0_hold := ⟨am_t5 204 rfl rfl, ziRX0, ⟨by decide +kernel, by decide +kernel⟩, by decide +kernel, by decide +kernel, by decide⟩
set_option maxRecDepth 20000 in
theorem iX0_hold : Cond.instanceMethod yX0_hold ∈ am_tbl := am_t5 202 rfl rfl
set_option maxRecDepth 20000 in
theorem sX0_hold : Cond.selects RX0 yX0_hold yX0_hold ∈ am_tbl := am_t5 203 rfl rfl
abbrev mX0_shuffle : am_M := (yX0_shuffle, cX0_shuffle, 3, none)
set_option maxRecDepth 20000 in
theorem MX0_shuffle : am_MM 1 mX0_shuffle := ⟨am_t5 208 rfl rfl, ziRX0, ⟨by decide +kernel, by decide +kernel⟩, by decide +kernel, by decide +kernel, by decide⟩
set_option maxRecDepth 20000 in
theorem iX0_shuffle : Cond.instanceMethod yX0_shuffle ∈ am_tbl := am_t5 207 rfl rfl
set_option maxRecDepth 20000 in
theorem sX0_shuffle : Cond.selects RX0 yX0_shuffle yX0_shuffle ∈ am_tbl := am_tbl_of 39 rfl rfl
abbrev mX11_drawn : am_M := (yX11_drawn, cX11_drawn, 2, some .int)
set_option maxRecDepth 20000 in
theorem MX11_drawn : am_MM 1 mX11_drawn := ⟨am_t5 219 rfl rfl, ziRX11, ⟨by decide +kernel, by decide +kernel⟩, by decide +kernel, by decide +kernel, by decide⟩
set_option maxRecDepth 20000 in
theorem iX11_drawn : Cond.instanceMethod yX11_drawn ∈ am_tbl := am_t5 217 rfl rfl
set_option maxRecDepth 20000 in
theorem sX11_drawn : Cond.selects RX11 yX11_drawn yX11_drawn ∈ am_tbl := am_t5 218 rfl rfl
abbrev mX11_image : am_M := (yX11_image, cX11_image, 2, some .int)
set_option maxRecDepth 20000 in
theorem MX11_image : am_MM 1 mX11_image := ⟨am_t5 223 rfl rfl, ziRX11, ⟨by decide +kernel, by decide +kernel⟩, by decide +kernel, by decide +kernel, by decide⟩
set_option maxRecDepth 20000 in
theorem iX11_image : Cond.instanceMethod yX11_image ∈ am_tbl := am_t5 221 rfl rfl
set_option maxRecDepth 20000 in
theorem sX11_image : Cond.selects RX11 yX11_image yX11_image ∈ am_tbl := am_t5 222 rfl rfl
abbrev mX7_copy : am_M := (yX7_copy, cX7_copy, 3, none)
set_option maxRecDepth 20000 in
theorem MX7_copy : am_MM 1 mX7_copy := ⟨am_t5 227 rfl rfl, ziRX7, ⟨by decide +kernel, by decide +kernel⟩, by decide +kernel, by decide +kernel, by decide⟩
set_option maxRecDepth 20000 in
theorem iX7_copy : Cond.instanceMethod yX7_copy ∈ am_tbl := am_t5 225 rfl rfl
set_option maxRecDepth 20000 in
theorem sX7_copy : Cond.selects RX7 yX7_copy yX7_copy ∈ am_tbl := am_t5 226 rfl rfl
abbrev mX11_back : am_M := (yX11_back, cX11_back, 2, some .int)
set_option maxRecDepth 20000 in
theorem MX11_back : am_MM 1 mX11_back := ⟨am_t5 233 rfl rfl, ziRX11, ⟨by decide +kernel, by decide +kernel⟩, by decide +kernel, by decide +kernel, by decide⟩
set_option maxRecDepth 20000 in
theorem iX11_back : Cond.instanceMethod yX11_back ∈ am_tbl := am_t5 231 rfl rfl
set_option maxRecDepth 20000 in
theorem sX11_back : Cond.selects RX11 yX11_back yX11_back ∈ am_tbl := am_t5 232 rfl rfl
abbrev mX11_count : am_M := (yX11_count, cX11_count, 2, some .int)
set_option maxRecDepth 20000 in
theorem MX11_count : am_MM 1 mX11_count := ⟨am_t5 237 rfl rfl, ziRX11, ⟨by decide +kernel, by decide +kernel⟩, by decide +kernel, by decide +kernel, by decide⟩
set_option maxRecDepth 20000 in
theorem iX11_count : Cond.instanceMethod yX11_count ∈ am_tbl := am_t5 235 rfl rfl
set_option maxRecDepth 20000 in
theorem sX11_count : Cond.selects RX11 yX11_count yX11_count ∈ am_tbl := am_t5 236 rfl rfl
abbrev mX11_status : am_M := (yX11_status, cX11_status, 1, some .int)
set_option maxRecDepth 20000 in
theorem MX11_status : am_MM 0 mX11_status := ⟨am_t6 1 rfl rfl, ziRX11, ⟨by decide +kernel, by decide +kernel⟩, by decide +kernel, by decide +kernel, by decide⟩
set_option maxRecDepth 20000 in
theorem iX11_status : Cond.instanceMethod yX11_status ∈ am_tbl := am_t5 239 rfl rfl
set_option maxRecDepth 20000 in
theorem sX11_status : Cond.selects RX11 yX11_status yX11_status ∈ am_tbl := am_t6 0 rfl rfl
abbrev mX12_init : am_M := (yX12_init, cX12_init, 1, none)
set_option maxRecDepth 20000 in
theorem MX12_init : am_MM 0 mX12_init := ⟨am_t6 6 rfl rfl, ziRX12, ⟨by decide +kernel, by decide +kernel⟩, by decide +kernel, by decide +kernel, by decide⟩
set_option maxRecDepth 20000 in
theorem iX12_init : Cond.instanceMethod yX12_init ∈ am_tbl := am_t6 5 rfl rfl
abbrev mX12_image : am_M := (yX12_image, cX12_image, 3, some .int)
set_option maxRecDepth 20000 in
theorem MX12_image : am_MM 1 mX12_image := ⟨am_t6 186 rfl rfl, ziRX12, ⟨by decide +kernel, by decide +kernel⟩, by decide +kernel, by decide +kernel, by decide⟩
set_option maxRecDepth 20000 in
theorem iX12_image : Cond.instanceMethod yX12_image ∈ am_tbl := am_t6 184 rfl rfl
set_option maxRecDepth 20000 in
theorem sX12_image : Cond.selects RX12 yX12_image yX12_image ∈ am_tbl := am_t6 185 rfl rfl
abbrev mX12_lies : am_M := (yX12_lies, cX12_lies, 3, some .boolean)
set_option maxRecDepth 20000 in
theorem MX12_lies : am_MM 3 mX12_lies := ⟨am_t6 189 rfl rfl, ziRX12, ⟨by decide +kernel, by decide +kernel⟩, by decide +kernel, by decide +kernel, by decide⟩
set_option maxRecDepth 20000 in
theorem tX12_lies : Cond.static yX12_lies ∈ am_tbl := am_t6 188 rfl rfl
abbrev mX12_refuses : am_M := (yX12_refuses, cX12_refuses, 2, some .int)
set_option maxRecDepth 20000 in
theorem MX12_refuses : am_MM 1 mX12_refuses := ⟨am_t6 193 rfl rfl, ziRX12, ⟨by decide +kernel, by decide +kernel⟩, by decide +kernel, by decide +kernel, by decide⟩
set_option maxRecDepth 20000 in
theorem iX12_refuses : Cond.instanceMethod yX12_refuses ∈ am_tbl := am_t6 192 rfl rfl
set_option maxRecDepth 20000 in
theorem sX12_refuses : Cond.selects RX12 yX12_refuses yX12_refuses ∈ am_tbl := am_tbl_of 40 rfl rfl
abbrev mX12_good : am_M := (yX12_good, cX12_good, 2, some .int)
set_option maxRecDepth 20000 in
theorem MX12_good : am_MM 1 mX12_good := ⟨am_t6 197 rfl rfl, ziRX12, ⟨by decide +kernel, by decide +kernel⟩, by decide +kernel, by decide +kernel, by decide⟩
set_option maxRecDepth 20000 in
theorem iX12_good : Cond.instanceMethod yX12_good ∈ am_tbl := am_t6 196 rfl rfl
set_option maxRecDepth 20000 in
theorem sX12_good : Cond.selects RX12 yX12_good yX12_good ∈ am_tbl := am_tbl_of 41 rfl rfl
abbrev mX12_back : am_M := (yX12_back, cX12_back, 3, some .int)
set_option maxRecDepth 20000 in
theorem MX12_back : am_MM 1 mX12_back := ⟨am_t6 201 rfl rfl, ziRX12, ⟨by decide +kernel, by decide +kernel⟩, by decide +kernel, by decide +kernel, by decide⟩
set_option maxRecDepth 20000 in
theorem iX12_back : Cond.instanceMethod yX12_back ∈ am_tbl := am_t6 199 rfl rfl
set_option maxRecDepth 20000 in
theorem sX12_back : Cond.selects RX12 yX12_back yX12_back ∈ am_tbl := am_t6 200 rfl rfl
abbrev mX12_settled : am_M := (yX12_settled, cX12_settled, 2, some .int)
set_option maxRecDepth 20000 in
theorem MX12_settled : am_MM 1 mX12_settled := ⟨am_t6 205 rfl rfl, ziRX12, ⟨by decide +kernel, by decide +kernel⟩, by decide +kernel, by decide +kernel, by decide⟩
set_option maxRecDepth 20000 in
theorem iX12_settled : Cond.instanceMethod yX12_settled ∈ am_tbl := am_t6 204 rfl rfl
set_option maxRecDepth 20000 in
theorem sX12_settled : Cond.selects RX12 yX12_settled yX12_settled ∈ am_tbl := am_tbl_of 42 rfl rfl
abbrev mX12_heap : am_M := (yX12_heap, cX12_heap, 6, some .int)
set_option maxRecDepth 20000 in
theorem MX12_heap : am_MM 0 mX12_heap := ⟨am_t6 209 rfl rfl, ziRX12, ⟨by decide +kernel, by decide +kernel⟩, by decide +kernel, by decide +kernel, by decide⟩
set_option maxRecDepth 20000 in
theorem iX12_heap : Cond.instanceMethod yX12_heap ∈ am_tbl := am_t6 207 rfl rfl
set_option maxRecDepth 20000 in
theorem sX12_heap : Cond.selects RX12 yX12_heap yX12_heap ∈ am_tbl := am_t6 208 rfl rfl
abbrev mX12_placeOf : am_M := (yX12_placeOf, cX12_placeOf, 1, some .int)
set_option maxRecDepth 20000 in
theorem MX12_placeOf : am_MM 1 mX12_placeOf := ⟨am_t6 212 rfl rfl, ziRX12, ⟨by decide +kernel, by decide +kernel⟩, by decide +kernel, by decide +kernel, by decide⟩
set_option maxRecDepth 20000 in
theorem tX12_placeOf : Cond.static yX12_placeOf ∈ am_tbl := am_t6 211 rfl rfl
abbrev mX12_of : am_M := (yX12_of, cX12_of, 3, some .int)
set_option maxRecDepth 20000 in
theorem MX12_of : am_MM 2 mX12_of := ⟨am_t6 216 rfl rfl, ziRX12, ⟨by decide +kernel, by decide +kernel⟩, by decide +kernel, by decide +kernel, by decide⟩
set_option maxRecDepth 20000 in
theorem iX12_of : Cond.instanceMethod yX12_of ∈ am_tbl := am_t6 214 rfl rfl
set_option maxRecDepth 20000 in
theorem sX12_of : Cond.selects RX12 yX12_of yX12_of ∈ am_tbl := am_t6 215 rfl rfl
abbrev mX12_isHeap : am_M := (yX12_isHeap, cX12_isHeap, 2, some .boolean)
set_option maxRecDepth 20000 in
theorem MX12_isHeap : am_MM 1 mX12_isHeap := ⟨am_t6 220 rfl rfl, ziRX12, ⟨by decide +kernel, by decide +kernel⟩, by decide +kernel, by decide +kernel, by decide⟩
set_option maxRecDepth 20000 in
theorem iX12_isHeap : Cond.instanceMethod yX12_isHeap ∈ am_tbl := am_t6 219 rfl rfl
set_option maxRecDepth 20000 in
theorem sX12_isHeap : Cond.selects RX12 yX12_isHeap yX12_isHeap ∈ am_tbl := am_tbl_of 43 rfl rfl
abbrev mX12_takes : am_M := (yX12_takes, cX12_takes, 3, none)
set_option maxRecDepth 20000 in
theorem MX12_takes : am_MM 1 mX12_takes := ⟨am_t6 224 rfl rfl, ziRX12, ⟨by decide +kernel, by decide +kernel⟩, by decide +kernel, by decide +kernel, by decide⟩
set_option maxRecDepth 20000 in
theorem iX12_takes : Cond.instanceMethod yX12_takes ∈ am_tbl := am_t6 223 rfl rfl
set_option maxRecDepth 20000 in
theorem sX12_takes : Cond.selects RX12 yX12_takes yX12_takes ∈ am_tbl := am_tbl_of 44 rfl rfl
abbrev mX12_manyIn : am_M := (yX12_manyIn, cX12_manyIn, 2, some .int)
set_option maxRecDepth 20000 in
theorem MX12_manyIn : am_MM 1 mX12_manyIn := ⟨am_t6 228 rfl rfl, ziRX12, ⟨by decide +kernel, by decide +kernel⟩, by decide +kernel, by decide +kernel, by decide⟩
set_option maxRecDepth 20000 in
theorem iX12_manyIn : Cond.instanceMethod yX12_manyIn ∈ am_tbl := am_t6 227 rfl rfl
set_option maxRecDepth 20000 in
theorem sX12_manyIn : Cond.selects RX12 yX12_manyIn yX12_manyIn ∈ am_tbl := am_tbl_of 45 rfl rfl
abbrev mX12_cardOf : am_M := (yX12_cardOf, cX12_cardOf, 3, some .int)
set_option maxRecDepth 20000 in
theorem MX12_cardOf : am_MM 2 mX12_cardOf := ⟨am_t6 232 rfl rfl, ziRX12, ⟨by decide +kernel, by decide +kernel⟩, by decide +kernel, by decide +kernel, by decide⟩
set_option maxRecDepth 20000 in
theorem iX12_cardOf : Cond.instanceMethod yX12_cardOf ∈ am_tbl := am_t6 231 rfl rfl
set_option maxRecDepth 20000 in
theorem sX12_cardOf : Cond.selects RX12 yX12_cardOf yX12_cardOf ∈ am_tbl := am_tbl_of 46 rfl rfl
abbrev mX12_hasEnded : am_M := (yX12_hasEnded, cX12_hasEnded, 1, some .boolean)
set_option maxRecDepth 20000 in
theorem MX12_hasEnded : am_MM 0 mX12_hasEnded := ⟨am_t6 236 rfl rfl, ziRX12, ⟨by decide +kernel, by decide +kernel⟩, by decide +kernel, by decide +kernel, by decide⟩
set_option maxRecDepth 20000 in
theorem iX12_hasEnded : Cond.instanceMethod yX12_hasEnded ∈ am_tbl := am_t6 235 rfl rfl
set_option maxRecDepth 20000 in
theorem sX12_hasEnded : Cond.selects RX12 yX12_hasEnded yX12_hasEnded ∈ am_tbl := am_tbl_of 47 rfl rfl
abbrev mX12_tells : am_M := (yX12_tells, cX12_tells, 11, some .long)
set_option maxRecDepth 20000 in
theorem MX12_tells : am_MM 2 mX12_tells := ⟨am_t7 0 rfl rfl, ziRX12, ⟨by decide +kernel, by decide +kernel⟩, by decide +kernel, by decide +kernel, by decide⟩
set_option maxRecDepth 20000 in
theorem iX12_tells : Cond.instanceMethod yX12_tells ∈ am_tbl := am_t6 239 rfl rfl
set_option maxRecDepth 20000 in
theorem sX12_tells : Cond.selects RX12 yX12_tells yX12_tells ∈ am_tbl := am_tbl_of 48 rfl rfl
abbrev mX12_codeAt : am_M := (yX12_codeAt, cX12_codeAt, 2, some .int)
set_option maxRecDepth 20000 in
theorem MX12_codeAt : am_MM 1 mX12_codeAt := ⟨am_t7 4 rfl rfl, ziRX12, ⟨by decide +kernel, by decide +kernel⟩, by decide +kernel, by decide +kernel, by decide⟩
set_option maxRecDepth 20000 in
theorem iX12_codeAt : Cond.instanceMethod yX12_codeAt ∈ am_tbl := am_t7 3 rfl rfl
set_option maxRecDepth 20000 in
theorem sX12_codeAt : Cond.selects RX12 yX12_codeAt yX12_codeAt ∈ am_tbl := am_tbl_of 49 rfl rfl
abbrev mX12_sumOf : am_M := (yX12_sumOf, cX12_sumOf, 7, some .long)
set_option maxRecDepth 20000 in
theorem MX12_sumOf : am_MM 1 mX12_sumOf := ⟨am_t7 8 rfl rfl, ziRX12, ⟨by decide +kernel, by decide +kernel⟩, by decide +kernel, by decide +kernel, by decide⟩
set_option maxRecDepth 20000 in
theorem iX12_sumOf : Cond.instanceMethod yX12_sumOf ∈ am_tbl := am_t7 7 rfl rfl
set_option maxRecDepth 20000 in
theorem sX12_sumOf : Cond.selects RX12 yX12_sumOf yX12_sumOf ∈ am_tbl := am_tbl_of 50 rfl rfl
abbrev mX12_termOf : am_M := (yX12_termOf, cX12_termOf, 7, some .long)
set_option maxRecDepth 20000 in
theorem MX12_termOf : am_MM 1 mX12_termOf := ⟨am_t7 12 rfl rfl, ziRX12, ⟨by decide +kernel, by decide +kernel⟩, by decide +kernel, by decide +kernel, by decide⟩
set_option maxRecDepth 20000 in
theorem iX12_termOf : Cond.instanceMethod yX12_termOf ∈ am_tbl := am_t7 11 rfl rfl
set_option maxRecDepth 20000 in
theorem sX12_termOf : Cond.selects RX12 yX12_termOf yX12_termOf ∈ am_tbl := am_tbl_of 51 rfl rfl
abbrev mX12_partOf : am_M := (yX12_partOf, cX12_partOf, 4, some .long)
set_option maxRecDepth 20000 in
theorem MX12_partOf : am_MM 1 mX12_partOf := ⟨am_t7 16 rfl rfl, ziRX12, ⟨by decide +kernel, by decide +kernel⟩, by decide +kernel, by decide +kernel, by decide⟩
set_option maxRecDepth 20000 in
theorem iX12_partOf : Cond.instanceMethod yX12_partOf ∈ am_tbl := am_t7 15 rfl rfl
set_option maxRecDepth 20000 in
theorem sX12_partOf : Cond.selects RX12 yX12_partOf yX12_partOf ∈ am_tbl := am_tbl_of 52 rfl rfl
abbrev mX12_sign : am_M := (yX12_sign, cX12_sign, 1, some .int)
set_option maxRecDepth 20000 in
theorem MX12_sign : am_MM 1 mX12_sign := ⟨am_t7 19 rfl rfl, ziRX12, ⟨by decide +kernel, by decide +kernel⟩, by decide +kernel, by decide +kernel, by decide⟩
set_option maxRecDepth 20000 in
theorem tX12_sign : Cond.static yX12_sign ∈ am_tbl := am_t7 18 rfl rfl
abbrev mX12_passes0 : am_M := (yX12_passes0, cX12_passes0, 3, some .boolean)
set_option maxRecDepth 20000 in
theorem MX12_passes0 : am_MM 1 mX12_passes0 := ⟨am_t7 23 rfl rfl, ziRX12, ⟨by decide +kernel, by decide +kernel⟩, by decide +kernel, by decide +kernel, by decide⟩
set_option maxRecDepth 20000 in
theorem iX12_passes0 : Cond.instanceMethod yX12_passes0 ∈ am_tbl := am_t7 22 rfl rfl
set_option maxRecDepth 20000 in
theorem sX12_passes0 : Cond.selects RX12 yX12_passes0 yX12_passes0 ∈ am_tbl := am_tbl_of 53 rfl rfl
abbrev mX12_isOfHeap : am_M := (yX12_isOfHeap, cX12_isOfHeap, 1, some .boolean)
set_option maxRecDepth 20000 in
theorem MX12_isOfHeap : am_MM 1 mX12_isOfHeap := ⟨am_t7 26 rfl rfl, ziRX12, ⟨by decide +kernel, by decide +kernel⟩, by decide +kernel, by decide +kernel, by decide⟩
set_option maxRecDepth 20000 in
theorem tX12_isOfHeap : Cond.static yX12_isOfHeap ∈ am_tbl := am_t7 25 rfl rfl
abbrev mX12_heapValue : am_M := (yX12_heapValue, cX12_heapValue, 3, some .int)
set_option maxRecDepth 20000 in
theorem MX12_heapValue : am_MM 2 mX12_heapValue := ⟨am_t7 30 rfl rfl, ziRX12, ⟨by decide +kernel, by decide +kernel⟩, by decide +kernel, by decide +kernel, by decide⟩
set_option maxRecDepth 20000 in
theorem iX12_heapValue : Cond.instanceMethod yX12_heapValue ∈ am_tbl := am_t7 29 rfl rfl
set_option maxRecDepth 20000 in
theorem sX12_heapValue : Cond.selects RX12 yX12_heapValue yX12_heapValue ∈ am_tbl := am_tbl_of 54 rfl rfl
abbrev mX12_bounded : am_M := (yX12_bounded, cX12_bounded, 4, some .long)
set_option maxRecDepth 20000 in
theorem MX12_bounded : am_MM 2 mX12_bounded := ⟨am_t7 34 rfl rfl, ziRX12, ⟨by decide +kernel, by decide +kernel⟩, by decide +kernel, by decide +kernel, by decide⟩
set_option maxRecDepth 20000 in
theorem iX12_bounded : Cond.instanceMethod yX12_bounded ∈ am_tbl := am_t7 33 rfl rfl
set_option maxRecDepth 20000 in
theorem sX12_bounded : Cond.selects RX12 yX12_bounded yX12_bounded ∈ am_tbl := am_tbl_of 55 rfl rfl
abbrev mX12_testOf : am_M := (yX12_testOf, cX12_testOf, 4, some .boolean)
set_option maxRecDepth 20000 in
theorem MX12_testOf : am_MM 1 mX12_testOf := ⟨am_t7 40 rfl rfl, ziRX12, ⟨by decide +kernel, by decide +kernel⟩, by decide +kernel, by decide +kernel, by decide⟩
set_option maxRecDepth 20000 in
theorem iX12_testOf : Cond.instanceMethod yX12_testOf ∈ am_tbl := am_t7 39 rfl rfl
set_option maxRecDepth 20000 in
theorem sX12_testOf : Cond.selects RX12 yX12_testOf yX12_testOf ∈ am_tbl := am_tbl_of 56 rfl rfl
abbrev mX12_bothOf : am_M := (yX12_bothOf, cX12_bothOf, 4, some .boolean)
set_option maxRecDepth 20000 in
theorem MX12_bothOf : am_MM 1 mX12_bothOf := ⟨am_t7 44 rfl rfl, ziRX12, ⟨by decide +kernel, by decide +kernel⟩, by decide +kernel, by decide +kernel, by decide⟩
set_option maxRecDepth 20000 in
theorem iX12_bothOf : Cond.instanceMethod yX12_bothOf ∈ am_tbl := am_t7 43 rfl rfl
set_option maxRecDepth 20000 in
theorem sX12_bothOf : Cond.selects RX12 yX12_bothOf yX12_bothOf ∈ am_tbl := am_tbl_of 57 rfl rfl
abbrev mX12_plainOf : am_M := (yX12_plainOf, cX12_plainOf, 3, some .boolean)
set_option maxRecDepth 20000 in
theorem MX12_plainOf : am_MM 1 mX12_plainOf := ⟨am_t7 48 rfl rfl, ziRX12, ⟨by decide +kernel, by decide +kernel⟩, by decide +kernel, by decide +kernel, by decide⟩
set_option maxRecDepth 20000 in
theorem iX12_plainOf : Cond.instanceMethod yX12_plainOf ∈ am_tbl := am_t7 47 rfl rfl
set_option maxRecDepth 20000 in
theorem sX12_plainOf : Cond.selects RX12 yX12_plainOf yX12_plainOf ∈ am_tbl := am_tbl_of 58 rfl rfl
abbrev mX12_positiveOf : am_M := (yX12_positiveOf, cX12_positiveOf, 7, some .boolean)
set_option maxRecDepth 20000 in
theorem MX12_positiveOf : am_MM 1 mX12_positiveOf := ⟨am_t7 52 rfl rfl, ziRX12, ⟨by decide +kernel, by decide +kernel⟩, by decide +kernel, by decide +kernel, by decide⟩
set_option maxRecDepth 20000 in
theorem iX12_positiveOf : Cond.instanceMethod yX12_positiveOf ∈ am_tbl := am_t7 51 rfl rfl
set_option maxRecDepth 20000 in
theorem sX12_positiveOf : Cond.selects RX12 yX12_positiveOf yX12_positiveOf ∈ am_tbl := am_tbl_of 59 rfl rfl
abbrev mX12_isStuck : am_M := (yX12_isStuck, cX12_isStuck, 1, some .boolean)
set_option maxRecDepth 20000 in
theorem MX12_isStuck : am_MM 0 mX12_isStuck := ⟨am_t7 56 rfl rfl, ziRX12, ⟨by decide +kernel, by decide +kernel⟩, by decide +kernel, by decide +kernel, by decide⟩
set_option maxRecDepth 20000 in
theorem iX12_isStuck : Cond.instanceMethod yX12_isStuck ∈ am_tbl := am_t7 55 rfl rfl
set_option maxRecDepth 20000 in
theorem sX12_isStuck : Cond.selects RX12 yX12_isStuck yX12_isStuck ∈ am_tbl := am_tbl_of 60 rfl rfl
abbrev mX12_turnsBy : am_M := (yX12_turnsBy, cX12_turnsBy, 1, some .long)
set_option maxRecDepth 20000 in
theorem MX12_turnsBy : am_MM 0 mX12_turnsBy := ⟨am_t7 60 rfl rfl, ziRX12, ⟨by decide +kernel, by decide +kernel⟩, by decide +kernel, by decide +kernel, by decide⟩
set_option maxRecDepth 20000 in
theorem iX12_turnsBy : Cond.instanceMethod yX12_turnsBy ∈ am_tbl := am_t7 59 rfl rfl
set_option maxRecDepth 20000 in
theorem sX12_turnsBy : Cond.selects RX12 yX12_turnsBy yX12_turnsBy ∈ am_tbl := am_tbl_of 61 rfl rfl
abbrev mX12_cannot : am_M := (yX12_cannot, cX12_cannot, 3, some .boolean)
set_option maxRecDepth 20000 in
theorem MX12_cannot : am_MM 1 mX12_cannot := ⟨am_t7 64 rfl rfl, ziRX12, ⟨by decide +kernel, by decide +kernel⟩, by decide +kernel, by decide +kernel, by decide⟩
set_option maxRecDepth 20000 in
theorem iX12_cannot : Cond.instanceMethod yX12_cannot ∈ am_tbl := am_t7 63 rfl rfl
set_option maxRecDepth 20000 in
theorem sX12_cannot : Cond.selects RX12 yX12_cannot yX12_cannot ∈ am_tbl := am_tbl_of 62 rfl rfl
abbrev mX12_sinksBy : am_M := (yX12_sinksBy, cX12_sinksBy, 1, some .long)
set_option maxRecDepth 20000 in
theorem MX12_sinksBy : am_MM 0 mX12_sinksBy := ⟨am_t7 68 rfl rfl, ziRX12, ⟨by decide +kernel, by decide +kernel⟩, by decide +kernel, by decide +kernel, by decide⟩
set_option maxRecDepth 20000 in
theorem iX12_sinksBy : Cond.instanceMethod yX12_sinksBy ∈ am_tbl := am_t7 67 rfl rfl
set_option maxRecDepth 20000 in
theorem sX12_sinksBy : Cond.selects RX12 yX12_sinksBy yX12_sinksBy ∈ am_tbl := am_tbl_of 63 rfl rfl
abbrev mX12_near : am_M := (yX12_near, cX12_near, 2, some .int)
set_option maxRecDepth 20000 in
theorem MX12_near : am_MM 1 mX12_near := ⟨am_t7 71 rfl rfl, ziRX12, ⟨by decide +kernel, by decide +kernel⟩, by decide +kernel, by decide +kernel, by decide⟩
set_option maxRecDepth 20000 in
theorem tX12_near : Cond.static yX12_near ∈ am_tbl := am_t7 70 rfl rfl
abbrev mX12_terms : am_M := (yX12_terms, cX12_terms, 4, some .int)
set_option maxRecDepth 20000 in
theorem MX12_terms : am_MM 2 mX12_terms := ⟨am_t7 77 rfl rfl, ziRX12, ⟨by decide +kernel, by decide +kernel⟩, by decide +kernel, by decide +kernel, by decide⟩
set_option maxRecDepth 20000 in
theorem iX12_terms : Cond.instanceMethod yX12_terms ∈ am_tbl := am_t7 75 rfl rfl
set_option maxRecDepth 20000 in
theorem sX12_terms : Cond.selects RX12 yX12_terms yX12_terms ∈ am_tbl := am_t7 76 rfl rfl
abbrev mX12_feed : am_M := (yX12_feed, cX12_feed, 7, some .int)
set_option maxRecDepth 20000 in
theorem MX12_feed : am_MM 5 mX12_feed := ⟨am_t7 81 rfl rfl, ziRX12, ⟨by decide +kernel, by decide +kernel⟩, by decide +kernel, by decide +kernel, by decide⟩
set_option maxRecDepth 20000 in
theorem iX12_feed : Cond.instanceMethod yX12_feed ∈ am_tbl := am_t7 79 rfl rfl
set_option maxRecDepth 20000 in
theorem sX12_feed : Cond.selects RX12 yX12_feed yX12_feed ∈ am_tbl := am_t7 80 rfl rfl
abbrev mX12_end : am_M := (yX12_end, cX12_end, 2, some .int)
set_option maxRecDepth 20000 in
theorem MX12_end : am_MM 1 mX12_end := ⟨am_t7 85 rfl rfl, ziRX12, ⟨by decide +kernel, by decide +kernel⟩, by decide +kernel, by decide +kernel, by decide⟩
set_option maxRecDepth 20000 in
theorem iX12_end : Cond.instanceMethod yX12_end ∈ am_tbl := am_t7 83 rfl rfl
set_option maxRecDepth 20000 in
theorem sX12_end : Cond.selects RX12 yX12_end yX12_end ∈ am_tbl := am_t7 84 rfl rfl
abbrev mX12_law : am_M := (yX12_law, cX12_law, 1, some .int)
set_option maxRecDepth 20000 in
theorem MX12_law : am_MM 0 mX12_law := ⟨am_t7 89 rfl rfl, ziRX12, ⟨by decide +kernel, by decide +kernel⟩, by decide +kernel, by decide +kernel, by decide⟩
set_option maxRecDepth 20000 in
theorem iX12_law : Cond.instanceMethod yX12_law ∈ am_tbl := am_t7 87 rfl rfl
set_option maxRecDepth 20000 in
theorem sX12_law : Cond.selects RX12 yX12_law yX12_law ∈ am_tbl := am_t7 88 rfl rfl
abbrev mX12_readsAs : am_M := (yX12_readsAs, cX12_readsAs, 2, some .boolean)
set_option maxRecDepth 20000 in
theorem MX12_readsAs : am_MM 1 mX12_readsAs := ⟨am_t7 93 rfl rfl, ziRX12, ⟨by decide +kernel, by decide +kernel⟩, by decide +kernel, by decide +kernel, by decide⟩
set_option maxRecDepth 20000 in
theorem iX12_readsAs : Cond.instanceMethod yX12_readsAs ∈ am_tbl := am_t7 92 rfl rfl
set_option maxRecDepth 20000 in
theorem sX12_readsAs : Cond.selects RX12 yX12_readsAs yX12_readsAs ∈ am_tbl := am_tbl_of 64 rfl rfl
abbrev mX12_reads : am_M := (yX12_reads, cX12_reads, 2, some .boolean)
set_option maxRecDepth 20000 in
theorem MX12_reads : am_MM 0 mX12_reads := ⟨am_t7 97 rfl rfl, ziRX12, ⟨by decide +kernel, by decide +kernel⟩, by decide +kernel, by decide +kernel, by decide⟩
set_option maxRecDepth 20000 in
theorem iX12_reads : Cond.instanceMethod yX12_reads ∈ am_tbl := am_t7 96 rfl rfl
set_option maxRecDepth 20000 in
theorem sX12_reads : Cond.selects RX12 yX12_reads yX12_reads ∈ am_tbl := am_tbl_of 65 rfl rfl
abbrev mX12_splits : am_M := (yX12_splits, cX12_splits, 6, none)
set_option maxRecDepth 20000 in
theorem MX12_splits : am_MM 1 mX12_splits := ⟨am_t7 101 rfl rfl, ziRX12, ⟨by decide +kernel, by decide +kernel⟩, by decide +kernel, by decide +kernel, by decide⟩
set_option maxRecDepth 20000 in
theorem iX12_splits : Cond.instanceMethod yX12_splits ∈ am_tbl := am_t7 100 rfl rfl
set_option maxRecDepth 20000 in
theorem sX12_splits : Cond.selects RX12 yX12_splits yX12_splits ∈ am_tbl := am_tbl_of 66 rfl rfl
abbrev mX12_isSmall : am_M := (yX12_isSmall, cX12_isSmall, 1, some .boolean)
set_option maxRecDepth 20000 in
theorem MX12_isSmall : am_MM 1 mX12_isSmall := ⟨am_t7 104 rfl rfl, ziRX12, ⟨by decide +kernel, by decide +kernel⟩, by decide +kernel, by decide +kernel, by decide⟩
set_option maxRecDepth 20000 in
theorem tX12_isSmall : Cond.static yX12_isSmall ∈ am_tbl := am_t7 103 rfl rfl
abbrev mX12_isDigit : am_M := (yX12_isDigit, cX12_isDigit, 1, some .boolean)
set_option maxRecDepth 20000 in
theorem MX12_isDigit : am_MM 1 mX12_isDigit := ⟨am_t7 107 rfl rfl, ziRX12, ⟨by decide +kernel, by decide +kernel⟩, by decide +kernel, by decide +kernel, by decide⟩
set_option maxRecDepth 20000 in
theorem tX12_isDigit : Cond.static yX12_isDigit ∈ am_tbl := am_t7 106 rfl rfl
abbrev mX12_wordOf : am_M := (yX12_wordOf, cX12_wordOf, 8, some .int)
set_option maxRecDepth 20000 in
theorem MX12_wordOf : am_MM 2 mX12_wordOf := ⟨am_t7 111 rfl rfl, ziRX12, ⟨by decide +kernel, by decide +kernel⟩, by decide +kernel, by decide +kernel, by decide⟩
set_option maxRecDepth 20000 in
theorem iX12_wordOf : Cond.instanceMethod yX12_wordOf ∈ am_tbl := am_t7 110 rfl rfl
set_option maxRecDepth 20000 in
theorem sX12_wordOf : Cond.selects RX12 yX12_wordOf yX12_wordOf ∈ am_tbl := am_tbl_of 67 rfl rfl
abbrev mX12_readOne : am_M := (yX12_readOne, cX12_readOne, 1, none)
set_option maxRecDepth 20000 in
theorem MX12_readOne : am_MM 0 mX12_readOne := ⟨am_t7 116 rfl rfl, ziRX12, ⟨by decide +kernel, by decide +kernel⟩, by decide +kernel, by decide +kernel, by decide⟩
set_option maxRecDepth 20000 in
theorem iX12_readOne : Cond.instanceMethod yX12_readOne ∈ am_tbl := am_t7 115 rfl rfl
set_option maxRecDepth 20000 in
theorem sX12_readOne : Cond.selects RX12 yX12_readOne yX12_readOne ∈ am_tbl := am_tbl_of 68 rfl rfl
abbrev mX12_readOrder : am_M := (yX12_readOrder, cX12_readOrder, 1, none)
set_option maxRecDepth 20000 in
theorem MX12_readOrder : am_MM 0 mX12_readOrder := ⟨am_t7 120 rfl rfl, ziRX12, ⟨by decide +kernel, by decide +kernel⟩, by decide +kernel, by decide +kernel, by decide⟩
set_option maxRecDepth 20000 in
theorem iX12_readOrder : Cond.instanceMethod yX12_readOrder ∈ am_tbl := am_t7 119 rfl rfl
set_option maxRecDepth 20000 in
theorem sX12_readOrder : Cond.selects RX12 yX12_readOrder yX12_readOrder ∈ am_tbl := am_tbl_of 69 rfl rfl
abbrev mX12_takes0 : am_M := (yX12_takes0, cX12_takes0, 3, some .boolean)
set_option maxRecDepth 20000 in
theorem MX12_takes0 : am_MM 1 mX12_takes0 := ⟨am_t7 124 rfl rfl, ziRX12, ⟨by decide +kernel, by decide +kernel⟩, by decide +kernel, by decide +kernel, by decide⟩
set_option maxRecDepth 20000 in
theorem iX12_takes0 : Cond.instanceMethod yX12_takes0 ∈ am_tbl := am_t7 123 rfl rfl
set_option maxRecDepth 20000 in
theorem sX12_takes0 : Cond.selects RX12 yX12_takes0 yX12_takes0 ∈ am_tbl := am_tbl_of 70 rfl rfl
abbrev mX12_fine : am_M := (yX12_fine, cX12_fine, 1, some .boolean)
set_option maxRecDepth 20000 in
theorem MX12_fine : am_MM 0 mX12_fine := ⟨am_t7 128 rfl rfl, ziRX12, ⟨by decide +kernel, by decide +kernel⟩, by decide +kernel, by decide +kernel, by decide⟩
set_option maxRecDepth 20000 in
theorem iX12_fine : Cond.instanceMethod yX12_fine ∈ am_tbl := am_t7 127 rfl rfl
set_option maxRecDepth 20000 in
theorem sX12_fine : Cond.selects RX12 yX12_fine yX12_fine ∈ am_tbl := am_tbl_of 71 rfl rfl
abbrev mX12_readSum : am_M := (yX12_readSum, cX12_readSum, 2, none)
set_option maxRecDepth 20000 in
theorem MX12_readSum : am_MM 1 mX12_readSum := ⟨am_t7 132 rfl rfl, ziRX12, ⟨by decide +kernel, by decide +kernel⟩, by decide +kernel, by decide +kernel, by decide⟩
set_option maxRecDepth 20000 in
theorem iX12_readSum : Cond.instanceMethod yX12_readSum ∈ am_tbl := am_t7 131 rfl rfl
set_option maxRecDepth 20000 in
theorem sX12_readSum : Cond.selects RX12 yX12_readSum yX12_readSum ∈ am_tbl := am_tbl_of 72 rfl rfl
abbrev mX12_readTerm : am_M := (yX12_readTerm, cX12_readTerm, 2, none)
set_option maxRecDepth 20000 in
theorem MX12_readTerm : am_MM 1 mX12_readTerm := ⟨am_t7 136 rfl rfl, ziRX12, ⟨by decide +kernel, by decide +kernel⟩, by decide +kernel, by decide +kernel, by decide⟩
set_option maxRecDepth 20000 in
theorem iX12_readTerm : Cond.instanceMethod yX12_readTerm ∈ am_tbl := am_t7 135 rfl rfl
set_option maxRecDepth 20000 in
theorem sX12_readTerm : Cond.selects RX12 yX12_readTerm yX12_readTerm ∈ am_tbl := am_tbl_of 73 rfl rfl
abbrev mX12_readPart : am_M := (yX12_readPart, cX12_readPart, 3, none)
set_option maxRecDepth 20000 in
theorem MX12_readPart : am_MM 1 mX12_readPart := ⟨am_t7 140 rfl rfl, ziRX12, ⟨by decide +kernel, by decide +kernel⟩, by decide +kernel, by decide +kernel, by decide⟩
set_option maxRecDepth 20000 in
theorem iX12_readPart : Cond.instanceMethod yX12_readPart ∈ am_tbl := am_t7 139 rfl rfl
set_option maxRecDepth 20000 in
theorem sX12_readPart : Cond.selects RX12 yX12_readPart yX12_readPart ∈ am_tbl := am_tbl_of 74 rfl rfl
abbrev mX12_faults : am_M := (yX12_faults, cX12_faults, 1, none)
set_option maxRecDepth 20000 in
theorem MX12_faults : am_MM 0 mX12_faults := ⟨am_t7 144 rfl rfl, ziRX12, ⟨by decide +kernel, by decide +kernel⟩, by decide +kernel, by decide +kernel, by decide⟩
set_option maxRecDepth 20000 in
theorem iX12_faults : Cond.instanceMethod yX12_faults ∈ am_tbl := am_t7 143 rfl rfl
set_option maxRecDepth 20000 in
theorem sX12_faults : Cond.selects RX12 yX12_faults yX12_faults ∈ am_tbl := am_tbl_of 75 rfl rfl
abbrev mX12_must : am_M := (yX12_must, cX12_must, 2, none)
set_option maxRecDepth 20000 in
theorem MX12_must : am_MM 1 mX12_must := ⟨am_t7 148 rfl rfl, ziRX12, ⟨by decide +kernel, by decide +kernel⟩, by decide +kernel, by decide +kernel, by decide⟩
set_option maxRecDepth 20000 in
theorem iX12_must : Cond.instanceMethod yX12_must ∈ am_tbl := am_t7 147 rfl rfl
set_option maxRecDepth 20000 in
theorem sX12_must : Cond.selects RX12 yX12_must yX12_must ∈ am_tbl := am_tbl_of 76 rfl rfl
abbrev mX12_leaf : am_M := (yX12_leaf, cX12_leaf, 1, none)
set_option maxRecDepth 20000 in
theorem MX12_leaf : am_MM 0 mX12_leaf := ⟨am_t7 152 rfl rfl, ziRX12, ⟨by decide +kernel, by decide +kernel⟩, by decide +kernel, by decide +kernel, by decide⟩
set_option maxRecDepth 20000 in
theorem iX12_leaf : Cond.instanceMethod yX12_leaf ∈ am_tbl := am_t7 151 rfl rfl
set_option maxRecDepth 20000 in
theorem sX12_leaf : Cond.selects RX12 yX12_leaf yX12_leaf ∈ am_tbl := am_tbl_of 77 rfl rfl
abbrev mX12_mustNumber : am_M := (yX12_mustNumber, cX12_mustNumber, 3, none)
set_option maxRecDepth 20000 in
theorem MX12_mustNumber : am_MM 2 mX12_mustNumber := ⟨am_t7 156 rfl rfl, ziRX12, ⟨by decide +kernel, by decide +kernel⟩, by decide +kernel, by decide +kernel, by decide⟩
set_option maxRecDepth 20000 in
theorem iX12_mustNumber : Cond.instanceMethod yX12_mustNumber ∈ am_tbl := am_t7 155 rfl rfl
set_option maxRecDepth 20000 in
theorem sX12_mustNumber : Cond.selects RX12 yX12_mustNumber yX12_mustNumber ∈ am_tbl := am_tbl_of 78 rfl rfl
abbrev mX12_readTest : am_M := (yX12_readTest, cX12_readTest, 2, none)
set_option maxRecDepth 20000 in
theorem MX12_readTest : am_MM 1 mX12_readTest := ⟨am_t7 160 rfl rfl, ziRX12, ⟨by decide +kernel, by decide +kernel⟩, by decide +kernel, by decide +kernel, by decide⟩
set_option maxRecDepth 20000 in
theorem iX12_readTest : Cond.instanceMethod yX12_readTest ∈ am_tbl := am_t7 159 rfl rfl
set_option maxRecDepth 20000 in
theorem sX12_readTest : Cond.selects RX12 yX12_readTest yX12_readTest ∈ am_tbl := am_tbl_of 79 rfl rfl
abbrev mX12_readBoth : am_M := (yX12_readBoth, cX12_readBoth, 2, none)
set_option maxRecDepth 20000 in
theorem MX12_readBoth : am_MM 1 mX12_readBoth := ⟨am_t7 164 rfl rfl, ziRX12, ⟨by decide +kernel, by decide +kernel⟩, by decide +kernel, by decide +kernel, by decide⟩
set_option maxRecDepth 20000 in
theorem iX12_readBoth : Cond.instanceMethod yX12_readBoth ∈ am_tbl := am_t7 163 rfl rfl
set_option maxRecDepth 20000 in
theorem sX12_readBoth : Cond.selects RX12 yX12_readBoth yX12_readBoth ∈ am_tbl := am_tbl_of 80 rfl rfl
abbrev mX12_readPlain : am_M := (yX12_readPlain, cX12_readPlain, 4, none)
set_option maxRecDepth 20000 in
theorem MX12_readPlain : am_MM 1 mX12_readPlain := ⟨am_t7 168 rfl rfl, ziRX12, ⟨by decide +kernel, by decide +kernel⟩, by decide +kernel, by decide +kernel, by decide⟩
set_option maxRecDepth 20000 in
theorem iX12_readPlain : Cond.instanceMethod yX12_readPlain ∈ am_tbl := am_t7 167 rfl rfl
set_option maxRecDepth 20000 in
theorem sX12_readPlain : Cond.selects RX12 yX12_readPlain yX12_readPlain ∈ am_tbl := am_tbl_of 81 rfl rfl
abbrev mX12_readClause : am_M := (yX12_readClause, cX12_readClause, 1, none)
set_option maxRecDepth 20000 in
theorem MX12_readClause : am_MM 0 mX12_readClause := ⟨am_t7 172 rfl rfl, ziRX12, ⟨by decide +kernel, by decide +kernel⟩, by decide +kernel, by decide +kernel, by decide⟩
set_option maxRecDepth 20000 in
theorem iX12_readClause : Cond.instanceMethod yX12_readClause ∈ am_tbl := am_t7 171 rfl rfl
set_option maxRecDepth 20000 in
theorem sX12_readClause : Cond.selects RX12 yX12_readClause yX12_readClause ∈ am_tbl := am_tbl_of 82 rfl rfl
abbrev mX12_lays : am_M := (yX12_lays, cX12_lays, 3, none)
set_option maxRecDepth 20000 in
theorem MX12_lays : am_MM 1 mX12_lays := ⟨am_t7 176 rfl rfl, ziRX12, ⟨by decide +kernel, by decide +kernel⟩, by decide +kernel, by decide +kernel, by decide⟩
set_option maxRecDepth 20000 in
theorem iX12_lays : Cond.instanceMethod yX12_lays ∈ am_tbl := am_t7 175 rfl rfl
set_option maxRecDepth 20000 in
theorem sX12_lays : Cond.selects RX12 yX12_lays yX12_lays ∈ am_tbl := am_tbl_of 83 rfl rfl
abbrev mX12_fault : am_M := (yX12_fault, cX12_fault, 1, some .int)
set_option maxRecDepth 20000 in
theorem MX12_fault : am_MM 0 mX12_fault := ⟨am_t7 180 rfl rfl, ziRX12, ⟨by decide +kernel, by decide +kernel⟩, by decide +kernel, by decide +kernel, by decide⟩
set_option maxRecDepth 20000 in
theorem iX12_fault : Cond.instanceMethod yX12_fault ∈ am_tbl := am_t7 178 rfl rfl
set_option maxRecDepth 20000 in
theorem sX12_fault : Cond.selects RX12 yX12_fault yX12_fault ∈ am_tbl := am_t7 179 rfl rfl
abbrev mX12_force : am_M := (yX12_force, cX12_force, 3, some .int)
set_option maxRecDepth 20000 in
theorem MX12_force : am_MM 1 mX12_force := ⟨am_t7 184 rfl rfl, ziRX12, ⟨by decide +kernel, by decide +kernel⟩, by decide +kernel, by decide +kernel, by decide⟩
set_option maxRecDepth 20000 in
theorem iX12_force : Cond.instanceMethod yX12_force ∈ am_tbl := am_t7 182 rfl rfl
set_option maxRecDepth 20000 in
theorem sX12_force : Cond.selects RX12 yX12_force yX12_force ∈ am_tbl := am_t7 183 rfl rfl
abbrev mX12_goes : am_M := (yX12_goes, cX12_goes, 4, some .int)
set_option maxRecDepth 20000 in
theorem MX12_goes : am_MM 2 mX12_goes := ⟨am_t7 188 rfl rfl, ziRX12, ⟨by decide +kernel, by decide +kernel⟩, by decide +kernel, by decide +kernel, by decide⟩
set_option maxRecDepth 20000 in
theorem iX12_goes : Cond.instanceMethod yX12_goes ∈ am_tbl := am_t7 186 rfl rfl
set_option maxRecDepth 20000 in
theorem sX12_goes : Cond.selects RX12 yX12_goes yX12_goes ∈ am_tbl := am_t7 187 rfl rfl
abbrev mX12_goesOn : am_M := (yX12_goesOn, cX12_goesOn, 3, some .int)
set_option maxRecDepth 20000 in
theorem MX12_goesOn : am_MM 0 mX12_goesOn := ⟨am_t7 192 rfl rfl, ziRX12, ⟨by decide +kernel, by decide +kernel⟩, by decide +kernel, by decide +kernel, by decide⟩
set_option maxRecDepth 20000 in
theorem iX12_goesOn : Cond.instanceMethod yX12_goesOn ∈ am_tbl := am_t7 191 rfl rfl
set_option maxRecDepth 20000 in
theorem sX12_goesOn : Cond.selects RX12 yX12_goesOn yX12_goesOn ∈ am_tbl := am_tbl_of 84 rfl rfl
abbrev mX12_wasSo : am_M := (yX12_wasSo, cX12_wasSo, 5, some .boolean)
set_option maxRecDepth 20000 in
theorem MX12_wasSo : am_MM 2 mX12_wasSo := ⟨am_t7 196 rfl rfl, ziRX12, ⟨by decide +kernel, by decide +kernel⟩, by decide +kernel, by decide +kernel, by decide⟩
set_option maxRecDepth 20000 in
theorem iX12_wasSo : Cond.instanceMethod yX12_wasSo ∈ am_tbl := am_t7 195 rfl rfl
set_option maxRecDepth 20000 in
theorem sX12_wasSo : Cond.selects RX12 yX12_wasSo yX12_wasSo ∈ am_tbl := am_tbl_of 85 rfl rfl
abbrev mX12_steps : am_M := (yX12_steps, cX12_steps, 3, none)
set_option maxRecDepth 20000 in
theorem MX12_steps : am_MM 0 mX12_steps := ⟨am_t7 200 rfl rfl, ziRX12, ⟨by decide +kernel, by decide +kernel⟩, by decide +kernel, by decide +kernel, by decide⟩
set_option maxRecDepth 20000 in
theorem iX12_steps : Cond.instanceMethod yX12_steps ∈ am_tbl := am_t7 199 rfl rfl
set_option maxRecDepth 20000 in
theorem sX12_steps : Cond.selects RX12 yX12_steps yX12_steps ∈ am_tbl := am_tbl_of 86 rfl rfl
abbrev mX12_turns : am_M := (yX12_turns, cX12_turns, 4, none)
set_option maxRecDepth 20000 in
theorem MX12_turns : am_MM 1 mX12_turns := ⟨am_t7 204 rfl rfl, ziRX12, ⟨by decide +kernel, by decide +kernel⟩, by decide +kernel, by decide +kernel, by decide⟩
set_option maxRecDepth 20000 in
theorem iX12_turns : Cond.instanceMethod yX12_turns ∈ am_tbl := am_t7 203 rfl rfl
set_option maxRecDepth 20000 in
theorem sX12_turns : Cond.selects RX12 yX12_turns yX12_turns ∈ am_tbl := am_tbl_of 87 rfl rfl
abbrev mX12_sinks : am_M := (yX12_sinks, cX12_sinks, 3, none)
set_option maxRecDepth 20000 in
theorem MX12_sinks : am_MM 1 mX12_sinks := ⟨am_t7 208 rfl rfl, ziRX12, ⟨by decide +kernel, by decide +kernel⟩, by decide +kernel, by decide +kernel, by decide⟩
set_option maxRecDepth 20000 in
theorem iX12_sinks : Cond.instanceMethod yX12_sinks ∈ am_tbl := am_t7 207 rfl rfl
set_option maxRecDepth 20000 in
theorem sX12_sinks : Cond.selects RX12 yX12_sinks yX12_sinks ∈ am_tbl := am_tbl_of 88 rfl rfl
abbrev mX12_after : am_M := (yX12_after, cX12_after, 5, some .int)
set_option maxRecDepth 20000 in
theorem MX12_after : am_MM 3 mX12_after := ⟨am_t7 212 rfl rfl, ziRX12, ⟨by decide +kernel, by decide +kernel⟩, by decide +kernel, by decide +kernel, by decide⟩
set_option maxRecDepth 20000 in
theorem iX12_after : Cond.instanceMethod yX12_after ∈ am_tbl := am_t7 210 rfl rfl
set_option maxRecDepth 20000 in
theorem sX12_after : Cond.selects RX12 yX12_after yX12_after ∈ am_tbl := am_t7 211 rfl rfl
abbrev mX12_canStep : am_M := (yX12_canStep, cX12_canStep, 1, some .boolean)
set_option maxRecDepth 20000 in
theorem MX12_canStep : am_MM 0 mX12_canStep := ⟨am_t7 216 rfl rfl, ziRX12, ⟨by decide +kernel, by decide +kernel⟩, by decide +kernel, by decide +kernel, by decide⟩
set_option maxRecDepth 20000 in
theorem iX12_canStep : Cond.instanceMethod yX12_canStep ∈ am_tbl := am_t7 215 rfl rfl
set_option maxRecDepth 20000 in
theorem sX12_canStep : Cond.selects RX12 yX12_canStep yX12_canStep ∈ am_tbl := am_tbl_of 89 rfl rfl
abbrev mX12_race : am_M := (yX12_race, cX12_race, 5, some .int)
set_option maxRecDepth 20000 in
theorem MX12_race : am_MM 2 mX12_race := ⟨am_t7 220 rfl rfl, ziRX12, ⟨by decide +kernel, by decide +kernel⟩, by decide +kernel, by decide +kernel, by decide⟩
set_option maxRecDepth 20000 in
theorem iX12_race : Cond.instanceMethod yX12_race ∈ am_tbl := am_t7 218 rfl rfl
set_option maxRecDepth 20000 in
theorem sX12_race : Cond.selects RX12 yX12_race yX12_race ∈ am_tbl := am_t7 219 rfl rfl
abbrev mX12_endsBehind : am_M := (yX12_endsBehind, cX12_endsBehind, 2, some .int)
set_option maxRecDepth 20000 in
theorem MX12_endsBehind : am_MM 0 mX12_endsBehind := ⟨am_t7 224 rfl rfl, ziRX12, ⟨by decide +kernel, by decide +kernel⟩, by decide +kernel, by decide +kernel, by decide⟩
set_option maxRecDepth 20000 in
theorem iX12_endsBehind : Cond.instanceMethod yX12_endsBehind ∈ am_tbl := am_t7 223 rfl rfl
set_option maxRecDepth 20000 in
theorem sX12_endsBehind : Cond.selects RX12 yX12_endsBehind yX12_endsBehind ∈ am_tbl := am_tbl_of 90 rfl rfl
abbrev mX12_undo : am_M := (yX12_undo, cX12_undo, 3, some .int)
set_option maxRecDepth 20000 in
theorem MX12_undo : am_MM 0 mX12_undo := ⟨am_t7 228 rfl rfl, ziRX12, ⟨by decide +kernel, by decide +kernel⟩, by decide +kernel, by decide +kernel, by decide⟩
set_option maxRecDepth 20000 in
theorem iX12_undo : Cond.instanceMethod yX12_undo ∈ am_tbl := am_t7 226 rfl rfl
set_option maxRecDepth 20000 in
theorem sX12_undo : Cond.selects RX12 yX12_undo yX12_undo ∈ am_tbl := am_t7 227 rfl rfl
abbrev mX12_step : am_M := (yX12_step, cX12_step, 2, some .int)
set_option maxRecDepth 20000 in
theorem MX12_step : am_MM 1 mX12_step := ⟨am_t7 232 rfl rfl, ziRX12, ⟨by decide +kernel, by decide +kernel⟩, by decide +kernel, by decide +kernel, by decide⟩
set_option maxRecDepth 20000 in
theorem iX12_step : Cond.instanceMethod yX12_step ∈ am_tbl := am_t7 230 rfl rfl
set_option maxRecDepth 20000 in
theorem sX12_step : Cond.selects RX12 yX12_step yX12_step ∈ am_tbl := am_t7 231 rfl rfl
abbrev mX12_stepsKept : am_M := (yX12_stepsKept, cX12_stepsKept, 3, some .int)
set_option maxRecDepth 20000 in
theorem MX12_stepsKept : am_MM 1 mX12_stepsKept := ⟨am_t7 236 rfl rfl, ziRX12, ⟨by decide +kernel, by decide +kernel⟩, by decide +kernel, by decide +kernel, by decide⟩
set_option maxRecDepth 20000 in
theorem iX12_stepsKept : Cond.instanceMethod yX12_stepsKept ∈ am_tbl := am_t7 235 rfl rfl
set_option maxRecDepth 20000 in
theorem sX12_stepsKept : Cond.selects RX12 yX12_stepsKept yX12_stepsKept ∈ am_tbl := am_tbl_of 91 rfl rfl
abbrev mX12_keeps : am_M := (yX12_keeps, cX12_keeps, 4, none)
set_option maxRecDepth 20000 in
theorem MX12_keeps : am_MM 1 mX12_keeps := ⟨am_t8 0 rfl rfl, ziRX12, ⟨by decide +kernel, by decide +kernel⟩, by decide +kernel, by decide +kernel, by decide⟩
set_option maxRecDepth 20000 in
theorem iX12_keeps : Cond.instanceMethod yX12_keeps ∈ am_tbl := am_t7 239 rfl rfl
set_option maxRecDepth 20000 in
theorem sX12_keeps : Cond.selects RX12 yX12_keeps yX12_keeps ∈ am_tbl := am_tbl_of 92 rfl rfl
abbrev mX12_puts : am_M := (yX12_puts, cX12_puts, 3, none)
set_option maxRecDepth 20000 in
theorem MX12_puts : am_MM 1 mX12_puts := ⟨am_t8 4 rfl rfl, ziRX12, ⟨by decide +kernel, by decide +kernel⟩, by decide +kernel, by decide +kernel, by decide⟩
set_option maxRecDepth 20000 in
theorem iX12_puts : Cond.instanceMethod yX12_puts ∈ am_tbl := am_t8 3 rfl rfl
set_option maxRecDepth 20000 in
theorem sX12_puts : Cond.selects RX12 yX12_puts yX12_puts ∈ am_tbl := am_tbl_of 93 rfl rfl
abbrev mX12_lesser : am_M := (yX12_lesser, cX12_lesser, 2, some .int)
set_option maxRecDepth 20000 in
theorem MX12_lesser : am_MM 2 mX12_lesser := ⟨am_t8 7 rfl rfl, ziRX12, ⟨by decide +kernel, by decide +kernel⟩, by decide +kernel, by decide +kernel, by decide⟩
set_option maxRecDepth 20000 in
theorem tX12_lesser : Cond.static yX12_lesser ∈ am_tbl := am_t8 6 rfl rfl
abbrev mX12_goodOr : am_M := (yX12_goodOr, cX12_goodOr, 2, some .int)
set_option maxRecDepth 20000 in
theorem MX12_goodOr : am_MM 1 mX12_goodOr := ⟨am_t8 11 rfl rfl, ziRX12, ⟨by decide +kernel, by decide +kernel⟩, by decide +kernel, by decide +kernel, by decide⟩
set_option maxRecDepth 20000 in
theorem iX12_goodOr : Cond.instanceMethod yX12_goodOr ∈ am_tbl := am_t8 10 rfl rfl
set_option maxRecDepth 20000 in
theorem sX12_goodOr : Cond.selects RX12 yX12_goodOr yX12_goodOr ∈ am_tbl := am_tbl_of 94 rfl rfl
abbrev mX12_swap : am_M := (yX12_swap, cX12_swap, 4, some .int)
set_option maxRecDepth 20000 in
theorem MX12_swap : am_MM 3 mX12_swap := ⟨am_t8 15 rfl rfl, ziRX12, ⟨by decide +kernel, by decide +kernel⟩, by decide +kernel, by decide +kernel, by decide⟩
set_option maxRecDepth 20000 in
theorem iX12_swap : Cond.instanceMethod yX12_swap ∈ am_tbl := am_t8 13 rfl rfl
set_option maxRecDepth 20000 in
theorem sX12_swap : Cond.selects RX12 yX12_swap yX12_swap ∈ am_tbl := am_t8 14 rfl rfl
abbrev mX12_swapsKept : am_M := (yX12_swapsKept, cX12_swapsKept, 6, some .int)
set_option maxRecDepth 20000 in
theorem MX12_swapsKept : am_MM 3 mX12_swapsKept := ⟨am_t8 19 rfl rfl, ziRX12, ⟨by decide +kernel, by decide +kernel⟩, by decide +kernel, by decide +kernel, by decide⟩
set_option maxRecDepth 20000 in
theorem iX12_swapsKept : Cond.instanceMethod yX12_swapsKept ∈ am_tbl := am_t8 18 rfl rfl
set_option maxRecDepth 20000 in
theorem sX12_swapsKept : Cond.selects RX12 yX12_swapsKept yX12_swapsKept ∈ am_tbl := am_tbl_of 95 rfl rfl
abbrev mX12_cut : am_M := (yX12_cut, cX12_cut, 3, some .int)
set_option maxRecDepth 20000 in
theorem MX12_cut : am_MM 2 mX12_cut := ⟨am_t8 23 rfl rfl, ziRX12, ⟨by decide +kernel, by decide +kernel⟩, by decide +kernel, by decide +kernel, by decide⟩
set_option maxRecDepth 20000 in
theorem iX12_cut : Cond.instanceMethod yX12_cut ∈ am_tbl := am_t8 21 rfl rfl
set_option maxRecDepth 20000 in
theorem sX12_cut : Cond.selects RX12 yX12_cut yX12_cut ∈ am_tbl := am_t8 22 rfl rfl
abbrev mX12_cutsKept : am_M := (yX12_cutsKept, cX12_cutsKept, 3, some .int)
set_option maxRecDepth 20000 in
theorem MX12_cutsKept : am_MM 2 mX12_cutsKept := ⟨am_t8 27 rfl rfl, ziRX12, ⟨by decide +kernel, by decide +kernel⟩, by decide +kernel, by decide +kernel, by decide⟩
set_option maxRecDepth 20000 in
theorem iX12_cutsKept : Cond.instanceMethod yX12_cutsKept ∈ am_tbl := am_t8 26 rfl rfl
set_option maxRecDepth 20000 in
theorem sX12_cutsKept : Cond.selects RX12 yX12_cutsKept yX12_cutsKept ∈ am_tbl := am_tbl_of 96 rfl rfl
abbrev mX12_longest : am_M := (yX12_longest, cX12_longest, 7, some .int)
set_option maxRecDepth 20000 in
theorem MX12_longest : am_MM 2 mX12_longest := ⟨am_t8 31 rfl rfl, ziRX12, ⟨by decide +kernel, by decide +kernel⟩, by decide +kernel, by decide +kernel, by decide⟩
set_option maxRecDepth 20000 in
theorem iX12_longest : Cond.instanceMethod yX12_longest ∈ am_tbl := am_t8 29 rfl rfl
set_option maxRecDepth 20000 in
theorem sX12_longest : Cond.selects RX12 yX12_longest yX12_longest ∈ am_tbl := am_t8 30 rfl rfl
abbrev mX12_firstOrder : am_M := (yX12_firstOrder, cX12_firstOrder, 3, none)
set_option maxRecDepth 20000 in
theorem MX12_firstOrder : am_MM 1 mX12_firstOrder := ⟨am_t8 35 rfl rfl, ziRX12, ⟨by decide +kernel, by decide +kernel⟩, by decide +kernel, by decide +kernel, by decide⟩
set_option maxRecDepth 20000 in
theorem iX12_firstOrder : Cond.instanceMethod yX12_firstOrder ∈ am_tbl := am_t8 34 rfl rfl
set_option maxRecDepth 20000 in
theorem sX12_firstOrder : Cond.selects RX12 yX12_firstOrder yX12_firstOrder ∈ am_tbl := am_tbl_of 97 rfl rfl
abbrev mX12_takesRow : am_M := (yX12_takesRow, cX12_takesRow, 3, none)
set_option maxRecDepth 20000 in
theorem MX12_takesRow : am_MM 1 mX12_takesRow := ⟨am_t8 39 rfl rfl, ziRX12, ⟨by decide +kernel, by decide +kernel⟩, by decide +kernel, by decide +kernel, by decide⟩
set_option maxRecDepth 20000 in
theorem iX12_takesRow : Cond.instanceMethod yX12_takesRow ∈ am_tbl := am_t8 38 rfl rfl
set_option maxRecDepth 20000 in
theorem sX12_takesRow : Cond.selects RX12 yX12_takesRow yX12_takesRow ∈ am_tbl := am_tbl_of 98 rfl rfl
abbrev mX12_finds : am_M := (yX12_finds, cX12_finds, 2, none)
set_option maxRecDepth 20000 in
theorem MX12_finds : am_MM 0 mX12_finds := ⟨am_t8 43 rfl rfl, ziRX12, ⟨by decide +kernel, by decide +kernel⟩, by decide +kernel, by decide +kernel, by decide⟩
set_option maxRecDepth 20000 in
theorem iX12_finds : Cond.instanceMethod yX12_finds ∈ am_tbl := am_t8 42 rfl rfl
set_option maxRecDepth 20000 in
theorem sX12_finds : Cond.selects RX12 yX12_finds yX12_finds ∈ am_tbl := am_tbl_of 99 rfl rfl
abbrev mX12_nextRow : am_M := (yX12_nextRow, cX12_nextRow, 6, some .boolean)
set_option maxRecDepth 20000 in
theorem MX12_nextRow : am_MM 0 mX12_nextRow := ⟨am_t8 47 rfl rfl, ziRX12, ⟨by decide +kernel, by decide +kernel⟩, by decide +kernel, by decide +kernel, by decide⟩
set_option maxRecDepth 20000 in
theorem iX12_nextRow : Cond.instanceMethod yX12_nextRow ∈ am_tbl := am_t8 46 rfl rfl
set_option maxRecDepth 20000 in
theorem sX12_nextRow : Cond.selects RX12 yX12_nextRow yX12_nextRow ∈ am_tbl := am_tbl_of 100 rfl rfl
abbrev mX12_orderly : am_M := (yX12_orderly, cX12_orderly, 10, some .int)
set_option maxRecDepth 20000 in
theorem MX12_orderly : am_MM 2 mX12_orderly := ⟨am_t8 51 rfl rfl, ziRX12, ⟨by decide +kernel, by decide +kernel⟩, by decide +kernel, by decide +kernel, by decide⟩
set_option maxRecDepth 20000 in
theorem iX12_orderly : Cond.instanceMethod yX12_orderly ∈ am_tbl := am_t8 49 rfl rfl
set_option maxRecDepth 20000 in
theorem sX12_orderly : Cond.selects RX12 yX12_orderly yX12_orderly ∈ am_tbl := am_t8 50 rfl rfl
abbrev mX12_rises : am_M := (yX12_rises, cX12_rises, 3, some .boolean)
set_option maxRecDepth 20000 in
theorem MX12_rises : am_MM 0 mX12_rises := ⟨am_t8 55 rfl rfl, ziRX12, ⟨by decide +kernel, by decide +kernel⟩, by decide +kernel, by decide +kernel, by decide⟩
set_option maxRecDepth 20000 in
theorem iX12_rises : Cond.instanceMethod yX12_rises ∈ am_tbl := am_t8 54 rfl rfl
set_option maxRecDepth 20000 in
theorem sX12_rises : Cond.selects RX12 yX12_rises yX12_rises ∈ am_tbl := am_tbl_of 101 rfl rfl
abbrev mX12_to : am_M := (yX12_to, cX12_to, 4, some .int)
set_option maxRecDepth 20000 in
theorem MX12_to : am_MM 3 mX12_to := ⟨am_t8 59 rfl rfl, ziRX12, ⟨by decide +kernel, by decide +kernel⟩, by decide +kernel, by decide +kernel, by decide⟩
set_option maxRecDepth 20000 in
theorem iX12_to : Cond.instanceMethod yX12_to ∈ am_tbl := am_t8 57 rfl rfl
set_option maxRecDepth 20000 in
theorem sX12_to : Cond.selects RX12 yX12_to yX12_to ∈ am_tbl := am_t8 58 rfl rfl
abbrev mX12_canAsk : am_M := (yX12_canAsk, cX12_canAsk, 4, some .boolean)
set_option maxRecDepth 20000 in
theorem MX12_canAsk : am_MM 3 mX12_canAsk := ⟨am_t8 63 rfl rfl, ziRX12, ⟨by decide +kernel, by decide +kernel⟩, by decide +kernel, by decide +kernel, by decide⟩
set_option maxRecDepth 20000 in
theorem iX12_canAsk : Cond.instanceMethod yX12_canAsk ∈ am_tbl := am_t8 62 rfl rfl
set_option maxRecDepth 20000 in
theorem sX12_canAsk : Cond.selects RX12 yX12_canAsk yX12_canAsk ∈ am_tbl := am_tbl_of 102 rfl rfl
abbrev mX12_rowsBy : am_M := (yX12_rowsBy, cX12_rowsBy, 8, some .int)
set_option maxRecDepth 20000 in
theorem MX12_rowsBy : am_MM 4 mX12_rowsBy := ⟨am_t8 67 rfl rfl, ziRX12, ⟨by decide +kernel, by decide +kernel⟩, by decide +kernel, by decide +kernel, by decide⟩
set_option maxRecDepth 20000 in
theorem iX12_rowsBy : Cond.instanceMethod yX12_rowsBy ∈ am_tbl := am_t8 66 rfl rfl
set_option maxRecDepth 20000 in
theorem sX12_rowsBy : Cond.selects RX12 yX12_rowsBy yX12_rowsBy ∈ am_tbl := am_tbl_of 103 rfl rfl
abbrev mX12_firstRow : am_M := (yX12_firstRow, cX12_firstRow, 5, none)
set_option maxRecDepth 20000 in
theorem MX12_firstRow : am_MM 1 mX12_firstRow := ⟨am_t8 71 rfl rfl, ziRX12, ⟨by decide +kernel, by decide +kernel⟩, by decide +kernel, by decide +kernel, by decide⟩
set_option maxRecDepth 20000 in
theorem iX12_firstRow : Cond.instanceMethod yX12_firstRow ∈ am_tbl := am_t8 70 rfl rfl
set_option maxRecDepth 20000 in
theorem sX12_firstRow : Cond.selects RX12 yX12_firstRow yX12_firstRow ∈ am_tbl := am_tbl_of 104 rfl rfl
abbrev mX12_fitsAll : am_M := (yX12_fitsAll, cX12_fitsAll, 6, some .boolean)
set_option maxRecDepth 20000 in
theorem MX12_fitsAll : am_MM 1 mX12_fitsAll := ⟨am_t8 75 rfl rfl, ziRX12, ⟨by decide +kernel, by decide +kernel⟩, by decide +kernel, by decide +kernel, by decide⟩
set_option maxRecDepth 20000 in
theorem iX12_fitsAll : Cond.instanceMethod yX12_fitsAll ∈ am_tbl := am_t8 74 rfl rfl
set_option maxRecDepth 20000 in
theorem sX12_fitsAll : Cond.selects RX12 yX12_fitsAll yX12_fitsAll ∈ am_tbl := am_tbl_of 105 rfl rfl
abbrev mX12_leadsTo : am_M := (yX12_leadsTo, cX12_leadsTo, 4, some .boolean)
set_option maxRecDepth 20000 in
theorem MX12_leadsTo : am_MM 1 mX12_leadsTo := ⟨am_t8 79 rfl rfl, ziRX12, ⟨by decide +kernel, by decide +kernel⟩, by decide +kernel, by decide +kernel, by decide⟩
set_option maxRecDepth 20000 in
theorem iX12_leadsTo : Cond.instanceMethod yX12_leadsTo ∈ am_tbl := am_t8 78 rfl rfl
set_option maxRecDepth 20000 in
theorem sX12_leadsTo : Cond.selects RX12 yX12_leadsTo yX12_leadsTo ∈ am_tbl := am_tbl_of 106 rfl rfl
abbrev mX12_fits : am_M := (yX12_fits, cX12_fits, 4, some .int)
set_option maxRecDepth 20000 in
theorem MX12_fits : am_MM 3 mX12_fits := ⟨am_t8 83 rfl rfl, ziRX12, ⟨by decide +kernel, by decide +kernel⟩, by decide +kernel, by decide +kernel, by decide⟩
set_option maxRecDepth 20000 in
theorem iX12_fits : Cond.instanceMethod yX12_fits ∈ am_tbl := am_t8 81 rfl rfl
set_option maxRecDepth 20000 in
theorem sX12_fits : Cond.selects RX12 yX12_fits yX12_fits ∈ am_tbl := am_t8 82 rfl rfl
abbrev mX12_sight : am_M := (yX12_sight, cX12_sight, 4, some .int)
set_option maxRecDepth 20000 in
theorem MX12_sight : am_MM 2 mX12_sight := ⟨am_t8 87 rfl rfl, ziRX12, ⟨by decide +kernel, by decide +kernel⟩, by decide +kernel, by decide +kernel, by decide⟩
set_option maxRecDepth 20000 in
theorem iX12_sight : Cond.instanceMethod yX12_sight ∈ am_tbl := am_t8 85 rfl rfl
set_option maxRecDepth 20000 in
theorem sX12_sight : Cond.selects RX12 yX12_sight yX12_sight ∈ am_tbl := am_t8 86 rfl rfl
abbrev mX12_forget : am_M := (yX12_forget, cX12_forget, 2, some .int)
set_option maxRecDepth 20000 in
theorem MX12_forget : am_MM 0 mX12_forget := ⟨am_t8 91 rfl rfl, ziRX12, ⟨by decide +kernel, by decide +kernel⟩, by decide +kernel, by decide +kernel, by decide⟩
set_option maxRecDepth 20000 in
theorem iX12_forget : Cond.instanceMethod yX12_forget ∈ am_tbl := am_t8 89 rfl rfl
set_option maxRecDepth 20000 in
theorem sX12_forget : Cond.selects RX12 yX12_forget yX12_forget ∈ am_tbl := am_t8 90 rfl rfl
abbrev mX12_cheat : am_M := (yX12_cheat, cX12_cheat, 9, some .int)
set_option maxRecDepth 20000 in
theorem MX12_cheat : am_MM 2 mX12_cheat := ⟨am_t8 95 rfl rfl, ziRX12, ⟨by decide +kernel, by decide +kernel⟩, by decide +kernel, by decide +kernel, by decide⟩
set_option maxRecDepth 20000 in
theorem iX12_cheat : Cond.instanceMethod yX12_cheat ∈ am_tbl := am_t8 93 rfl rfl
set_option maxRecDepth 20000 in
theorem sX12_cheat : Cond.selects RX12 yX12_cheat yX12_cheat ∈ am_tbl := am_t8 94 rfl rfl
abbrev mX12_endsSwapped : am_M := (yX12_endsSwapped, cX12_endsSwapped, 4, some .int)
set_option maxRecDepth 20000 in
theorem MX12_endsSwapped : am_MM 3 mX12_endsSwapped := ⟨am_t8 99 rfl rfl, ziRX12, ⟨by decide +kernel, by decide +kernel⟩, by decide +kernel, by decide +kernel, by decide⟩
set_option maxRecDepth 20000 in
theorem iX12_endsSwapped : Cond.instanceMethod yX12_endsSwapped ∈ am_tbl := am_t8 98 rfl rfl
set_option maxRecDepth 20000 in
theorem sX12_endsSwapped : Cond.selects RX12 yX12_endsSwapped yX12_endsSwapped ∈ am_tbl := am_tbl_of 107 rfl rfl
abbrev mX12_odds : am_M := (yX12_odds, cX12_odds, 6, some .int)
set_option maxRecDepth 20000 in
theorem MX12_odds : am_MM 4 mX12_odds := ⟨am_t8 103 rfl rfl, ziRX12, ⟨by decide +kernel, by decide +kernel⟩, by decide +kernel, by decide +kernel, by decide⟩
set_option maxRecDepth 20000 in
theorem iX12_odds : Cond.instanceMethod yX12_odds ∈ am_tbl := am_t8 101 rfl rfl
set_option maxRecDepth 20000 in
theorem sX12_odds : Cond.selects RX12 yX12_odds yX12_odds ∈ am_tbl := am_t8 102 rfl rfl
abbrev mX12_countsOrders : am_M := (yX12_countsOrders, cX12_countsOrders, 6, none)
set_option maxRecDepth 20000 in
theorem MX12_countsOrders : am_MM 3 mX12_countsOrders := ⟨am_t8 107 rfl rfl, ziRX12, ⟨by decide +kernel, by decide +kernel⟩, by decide +kernel, by decide +kernel, by decide⟩
set_option maxRecDepth 20000 in
theorem iX12_countsOrders : Cond.instanceMethod yX12_countsOrders ∈ am_tbl := am_t8 106 rfl rfl
set_option maxRecDepth 20000 in
theorem sX12_countsOrders : Cond.selects RX12 yX12_countsOrders yX12_countsOrders ∈ am_tbl := am_tbl_of 108 rfl rfl
abbrev mX12_common : am_M := (yX12_common, cX12_common, 5, some .int)
set_option maxRecDepth 20000 in
theorem MX12_common : am_MM 2 mX12_common := ⟨am_t8 110 rfl rfl, ziRX12, ⟨by decide +kernel, by decide +kernel⟩, by decide +kernel, by decide +kernel, by decide⟩
set_option maxRecDepth 20000 in
theorem tX12_common : Cond.static yX12_common ∈ am_tbl := am_t8 109 rfl rfl
abbrev mX12_sorted : am_M := (yX12_sorted, cX12_sorted, 4, some .int)
set_option maxRecDepth 20000 in
theorem MX12_sorted : am_MM 2 mX12_sorted := ⟨am_t8 114 rfl rfl, ziRX12, ⟨by decide +kernel, by decide +kernel⟩, by decide +kernel, by decide +kernel, by decide⟩
set_option maxRecDepth 20000 in
theorem iX12_sorted : Cond.instanceMethod yX12_sorted ∈ am_tbl := am_t8 112 rfl rfl
set_option maxRecDepth 20000 in
theorem sX12_sorted : Cond.selects RX12 yX12_sorted yX12_sorted ∈ am_tbl := am_t8 113 rfl rfl
abbrev mX12_canOrder : am_M := (yX12_canOrder, cX12_canOrder, 5, some .boolean)
set_option maxRecDepth 20000 in
theorem MX12_canOrder : am_MM 2 mX12_canOrder := ⟨am_t8 118 rfl rfl, ziRX12, ⟨by decide +kernel, by decide +kernel⟩, by decide +kernel, by decide +kernel, by decide⟩
set_option maxRecDepth 20000 in
theorem iX12_canOrder : Cond.instanceMethod yX12_canOrder ∈ am_tbl := am_t8 117 rfl rfl
set_option maxRecDepth 20000 in
theorem sX12_canOrder : Cond.selects RX12 yX12_canOrder yX12_canOrder ∈ am_tbl := am_tbl_of 109 rfl rfl
abbrev mX12_stopped : am_M := (yX12_stopped, cX12_stopped, 1, some .int)
set_option maxRecDepth 20000 in
theorem MX12_stopped : am_MM 0 mX12_stopped := ⟨am_t8 122 rfl rfl, ziRX12, ⟨by decide +kernel, by decide +kernel⟩, by decide +kernel, by decide +kernel, by decide⟩
set_option maxRecDepth 20000 in
theorem iX12_stopped : Cond.instanceMethod yX12_stopped ∈ am_tbl := am_t8 120 rfl rfl
set_option maxRecDepth 20000 in
theorem sX12_stopped : Cond.selects RX12 yX12_stopped yX12_stopped ∈ am_tbl := am_t8 121 rfl rfl
abbrev mX12_orders : am_M := (yX12_orders, cX12_orders, 5, some .int)
set_option maxRecDepth 20000 in
theorem MX12_orders : am_MM 0 mX12_orders := ⟨am_t8 126 rfl rfl, ziRX12, ⟨by decide +kernel, by decide +kernel⟩, by decide +kernel, by decide +kernel, by decide⟩
set_option maxRecDepth 20000 in
theorem iX12_orders : Cond.instanceMethod yX12_orders ∈ am_tbl := am_t8 124 rfl rfl
set_option maxRecDepth 20000 in
theorem sX12_orders : Cond.selects RX12 yX12_orders yX12_orders ∈ am_tbl := am_t8 125 rfl rfl
abbrev mX12_runs : am_M := (yX12_runs, cX12_runs, 5, some .boolean)
set_option maxRecDepth 20000 in
theorem MX12_runs : am_MM 1 mX12_runs := ⟨am_t8 130 rfl rfl, ziRX12, ⟨by decide +kernel, by decide +kernel⟩, by decide +kernel, by decide +kernel, by decide⟩
set_option maxRecDepth 20000 in
theorem iX12_runs : Cond.instanceMethod yX12_runs ∈ am_tbl := am_t8 129 rfl rfl
set_option maxRecDepth 20000 in
theorem sX12_runs : Cond.selects RX12 yX12_runs yX12_runs ∈ am_tbl := am_tbl_of 110 rfl rfl
abbrev mX12_goesAlong : am_M := (yX12_goesAlong, cX12_goesAlong, 5, none)
set_option maxRecDepth 20000 in
theorem MX12_goesAlong : am_MM 2 mX12_goesAlong := ⟨am_t8 134 rfl rfl, ziRX12, ⟨by decide +kernel, by decide +kernel⟩, by decide +kernel, by decide +kernel, by decide⟩
set_option maxRecDepth 20000 in
theorem iX12_goesAlong : Cond.instanceMethod yX12_goesAlong ∈ am_tbl := am_t8 133 rfl rfl
set_option maxRecDepth 20000 in
theorem sX12_goesAlong : Cond.selects RX12 yX12_goesAlong yX12_goesAlong ∈ am_tbl := am_tbl_of 111 rfl rfl
abbrev mX12_obeys : am_M := (yX12_obeys, cX12_obeys, 4, some .int)
set_option maxRecDepth 20000 in
theorem MX12_obeys : am_MM 0 mX12_obeys := ⟨am_t8 138 rfl rfl, ziRX12, ⟨by decide +kernel, by decide +kernel⟩, by decide +kernel, by decide +kernel, by decide⟩
set_option maxRecDepth 20000 in
theorem iX12_obeys : Cond.instanceMethod yX12_obeys ∈ am_tbl := am_t8 137 rfl rfl
set_option maxRecDepth 20000 in
theorem sX12_obeys : Cond.selects RX12 yX12_obeys yX12_obeys ∈ am_tbl := am_tbl_of 112 rfl rfl
abbrev mX12_small : am_M := (yX12_small, cX12_small, 2, some .int)
set_option maxRecDepth 20000 in
theorem MX12_small : am_MM 1 mX12_small := ⟨am_t8 141 rfl rfl, ziRX12, ⟨by decide +kernel, by decide +kernel⟩, by decide +kernel, by decide +kernel, by decide⟩
set_option maxRecDepth 20000 in
theorem tX12_small : Cond.static yX12_small ∈ am_tbl := am_t8 140 rfl rfl
abbrev mX12_evenings : am_M := (yX12_evenings, cX12_evenings, 7, some .int)
set_option maxRecDepth 20000 in
theorem MX12_evenings : am_MM 3 mX12_evenings := ⟨am_t8 146 rfl rfl, ziRX12, ⟨by decide +kernel, by decide +kernel⟩, by decide +kernel, by decide +kernel, by decide⟩
set_option maxRecDepth 20000 in
theorem iX12_evenings : Cond.instanceMethod yX12_evenings ∈ am_tbl := am_t8 144 rfl rfl
set_option maxRecDepth 20000 in
theorem sX12_evenings : Cond.selects RX12 yX12_evenings yX12_evenings ∈ am_tbl := am_t8 145 rfl rfl
abbrev mX12_shuffles : am_M := (yX12_shuffles, cX12_shuffles, 4, none)
set_option maxRecDepth 20000 in
theorem MX12_shuffles : am_MM 0 mX12_shuffles := ⟨am_t8 150 rfl rfl, ziRX12, ⟨by decide +kernel, by decide +kernel⟩, by decide +kernel, by decide +kernel, by decide⟩
set_option maxRecDepth 20000 in
theorem iX12_shuffles : Cond.instanceMethod yX12_shuffles ∈ am_tbl := am_t8 149 rfl rfl
set_option maxRecDepth 20000 in
theorem sX12_shuffles : Cond.selects RX12 yX12_shuffles yX12_shuffles ∈ am_tbl := am_tbl_of 113 rfl rfl
abbrev mX12_draws : am_M := (yX12_draws, cX12_draws, 2, some .int)
set_option maxRecDepth 20000 in
theorem MX12_draws : am_MM 1 mX12_draws := ⟨am_t8 154 rfl rfl, ziRX12, ⟨by decide +kernel, by decide +kernel⟩, by decide +kernel, by decide +kernel, by decide⟩
set_option maxRecDepth 20000 in
theorem iX12_draws : Cond.instanceMethod yX12_draws ∈ am_tbl := am_t8 153 rfl rfl
set_option maxRecDepth 20000 in
theorem sX12_draws : Cond.selects RX12 yX12_draws yX12_draws ∈ am_tbl := am_tbl_of 114 rfl rfl
abbrev mX12_drawn : am_M := (yX12_drawn, cX12_drawn, 2, some .int)
set_option maxRecDepth 20000 in
theorem MX12_drawn : am_MM 1 mX12_drawn := ⟨am_t8 161 rfl rfl, ziRX12, ⟨by decide +kernel, by decide +kernel⟩, by decide +kernel, by decide +kernel, by decide⟩
set_option maxRecDepth 20000 in
theorem iX12_drawn : Cond.instanceMethod yX12_drawn ∈ am_tbl := am_t8 159 rfl rfl
set_option maxRecDepth 20000 in
theorem sX12_drawn : Cond.selects RX12 yX12_drawn yX12_drawn ∈ am_tbl := am_t8 160 rfl rfl
abbrev mX12_count : am_M := (yX12_count, cX12_count, 2, some .int)
set_option maxRecDepth 20000 in
theorem MX12_count : am_MM 1 mX12_count := ⟨am_t8 165 rfl rfl, ziRX12, ⟨by decide +kernel, by decide +kernel⟩, by decide +kernel, by decide +kernel, by decide⟩
set_option maxRecDepth 20000 in
theorem iX12_count : Cond.instanceMethod yX12_count ∈ am_tbl := am_t8 163 rfl rfl
set_option maxRecDepth 20000 in
theorem sX12_count : Cond.selects RX12 yX12_count yX12_count ∈ am_tbl := am_t8 164 rfl rfl
abbrev mX12_status : am_M := (yX12_status, cX12_status, 1, some .int)
set_option maxRecDepth 20000 in
theorem MX12_status : am_MM 0 mX12_status := ⟨am_t8 169 rfl rfl, ziRX12, ⟨by decide +kernel, by decide +kernel⟩, by decide +kernel, by decide +kernel, by decide⟩
set_option maxRecDepth 20000 in
theorem iX12_status : Cond.instanceMethod yX12_status ∈ am_tbl := am_t8 167 rfl rfl
set_option maxRecDepth 20000 in
theorem sX12_status : Cond.selects RX12 yX12_status yX12_status ∈ am_tbl := am_t8 168 rfl rfl
