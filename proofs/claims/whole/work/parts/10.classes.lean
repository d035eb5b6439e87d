/-! THE TABLES' WORDS, by their places; methods, fields, calls of the picture -/
theorem am_tbl_list (ws : List Cond) (ps : List Nat) (h : ws = ps.filterMap (fun i => lw_tbl[i]?)) (hw : ws.all am_word = true) : ∀ w ∈ ws, w ∈ am_tbl := by
  intro w hm
  have h1 := List.all_eq_true.mp hw w hm
  rw [h] at hm
  obtain ⟨i, -, hi⟩ := List.mem_filterMap.mp hm
  exact am_tbl_of i hi h1
theorem am_t1 {w : Cond} (i : Nat) (h : tables_1_1[i]? = some w) (hw : am_word w = true) : w ∈ am_tbl := List.mem_filter.mpr ⟨List.mem_append_right _ (List.mem_append_left _ (List.mem_of_getElem? h)), hw⟩
theorem am_t2 {w : Cond} (i : Nat) (h : tables_1_2[i]? = some w) (hw : am_word w = true) : w ∈ am_tbl := List.mem_filter.mpr ⟨List.mem_append_right _ (List.mem_append_right _ (List.mem_append_left _ (List.mem_of_getElem? h))), hw⟩
theorem am_t3 {w : Cond} (i : Nat) (h : tables_1_3[i]? = some w) (hw : am_word w = true) : w ∈ am_tbl := List.mem_filter.mpr ⟨List.mem_append_right _ (List.mem_append_right _ (List.mem_append_right _ (List.mem_append_left _ (List.mem_of_getElem? h)))), hw⟩
theorem am_t4 {w : Cond} (i : Nat) (h : tables_1_4[i]? = some w) (hw : am_word w = true) : w ∈ am_tbl := List.mem_filter.mpr ⟨List.mem_append_right _ (List.mem_append_right _ (List.mem_append_right _ (List.mem_append_right _ (List.mem_append_left _ (List.mem_of_getElem? h))))), hw⟩
theorem am_t5 {w : Cond} (i : Nat) (h : tables_1_5[i]? = some w) (hw : am_word w = true) : w ∈ am_tbl := List.mem_filter.mpr ⟨List.mem_append_right _ (List.mem_append_right _ (List.mem_append_right _ (List.mem_append_right _ (List.mem_append_right _ (List.mem_append_left _ (List.mem_of_getElem? h)))))), hw⟩
theorem am_t6 {w : Cond} (i : Nat) (h : tables_1_6[i]? = some w) (hw : am_word w = true) : w ∈ am_tbl := List.mem_filter.mpr ⟨List.mem_append_right _ (List.mem_append_right _ (List.mem_append_right _ (List.mem_append_right _ (List.mem_append_right _ (List.mem_append_right _ (List.mem_append_left _ (List.mem_of_getElem? h))))))), hw⟩
theorem am_t7 {w : Cond} (i : Nat) (h : tables_1_7[i]? = some w) (hw : am_word w = true) : w ∈ am_tbl := List.mem_filter.mpr ⟨List.mem_append_right _ (List.mem_append_right _ (List.mem_append_right _ (List.mem_append_right _ (List.mem_append_right _ (List.mem_append_right _ (List.mem_append_right _ (List.mem_append_left _ (List.mem_of_getElem? h)))))))), hw⟩
theorem am_t8 {w : Cond} (i : Nat) (h : tables_1_8[i]? = some w) (hw : am_word w = true) : w ∈ am_tbl := List.mem_filter.mpr ⟨List.mem_append_right _ (List.mem_append_right _ (List.mem_append_right _ (List.mem_append_right _ (List.mem_append_right _ (List.mem_append_right _ (List.mem_append_right _ (List.mem_append_right _ (List.mem_of_getElem? h)))))))), hw⟩
set_option maxRecDepth 20000 in
theorem KX0 : am_K 0 RX0 TX0 6 tyX0 := ⟨rfl, am_tbl_list _ [552, 554, 556, 558, 560, 562] (by decide +kernel) (by decide +kernel), tyX0_ok, nmX0⟩
set_option maxRecDepth 20000 in
theorem KX1 : am_K 1 RX1 TX1 9 tyX1 := ⟨rfl, am_tbl_list _ [423, 425, 427, 429, 431, 433, 435, 437, 439] (by decide +kernel) (by decide +kernel), tyX1_ok, nmX1⟩
set_option maxRecDepth 20000 in
theorem KX2 : am_K 2 RX2 TX2 4 tyX2 := ⟨rfl, am_tbl_list _ [285, 287, 289, 291] (by decide +kernel) (by decide +kernel), tyX2_ok, nmX2⟩
set_option maxRecDepth 20000 in
theorem KX3 : am_K 3 RX3 TX3 4 tyX3 := ⟨rfl, am_tbl_list _ [343, 345, 347, 349] (by decide +kernel) (by decide +kernel), tyX3_ok, nmX3⟩
set_option maxRecDepth 20000 in
theorem KX4 : am_K 4 RX4 TX4 5 tyX4 := ⟨rfl, am_tbl_list _ [216, 218, 220, 222, 224] (by decide +kernel) (by decide +kernel), tyX4_ok, nmX4⟩
set_option maxRecDepth 20000 in
theorem KX5 : am_K 5 RX5 TX5 4 tyX5 := ⟨rfl, am_tbl_list _ [525, 527, 529, 531] (by decide +kernel) (by decide +kernel), tyX5_ok, nmX5⟩
set_option maxRecDepth 20000 in
theorem KX6 : am_K 6 RX6 TX6 11 tyX6 := ⟨rfl, am_tbl_list _ [379, 381, 383, 385, 387, 389, 391, 393, 395, 397, 399] (by decide +kernel) (by decide +kernel), tyX6_ok, nmX6⟩
set_option maxRecDepth 20000 in
theorem KX7 : am_K 7 RX7 TX7 10 tyX7 := ⟨rfl, am_tbl_list _ [250, 252, 254, 256, 258, 260, 262, 264, 266, 268] (by decide +kernel) (by decide +kernel), tyX7_ok, nmX7⟩
set_option maxRecDepth 20000 in
theorem KX8 : am_K 8 RX8 TX8 5 tyX8 := ⟨rfl, am_tbl_list _ [160, 162, 164, 166, 168] (by decide +kernel) (by decide +kernel), tyX8_ok, nmX8⟩
set_option maxRecDepth 20000 in
theorem KX9 : am_K 9 RX9 TX9 9 tyX9 := ⟨rfl, am_tbl_list _ [319, 321, 323, 325, 327, 329, 331, 333, 335] (by decide +kernel) (by decide +kernel), tyX9_ok, nmX9⟩
set_option maxRecDepth 20000 in
theorem KX10 : am_K 10 RX10 TX10 19 tyX10 := ⟨rfl, am_tbl_list _ [475, 477, 479, 481, 483, 485, 487, 489, 491, 493, 495, 497, 499, 501, 503, 505, 507, 509, 511] (by decide +kernel) (by decide +kernel), tyX10_ok, nmX10⟩
set_option maxRecDepth 20000 in
theorem KX11 : am_K 11 RX11 TX11 15 tyX11 := ⟨rfl, am_tbl_list _ [582, 584, 586, 588, 590, 592, 594, 596, 598, 600, 602, 604, 606, 608, 610] (by decide +kernel) (by decide +kernel), tyX11_ok, nmX11⟩
set_option maxRecDepth 20000 in
theorem KX12 : am_K 12 RX12 TX12 58 tyX12 := ⟨rfl, am_tbl_list _ [1381, 1383, 1385, 1387, 1389, 1391, 1393, 1395, 1397, 1399, 1401, 1403, 1405, 1407, 1409, 1411, 1413, 1415, 1417, 1419, 1421, 1423, 1425, 1427, 1429, 1431, 1433, 1435, 1437, 1439, 1441, 1443, 1445, 1447, 1449, 1451, 1453, 1455, 1457, 1459, 1461, 1463, 1465, 1467, 1469, 1471, 1473, 1475, 1477, 1479, 1481, 1483, 1485, 1487, 1489, 1491, 1493, 1495] (by decide +kernel) (by decide +kernel), tyX12_ok, nmX12⟩
