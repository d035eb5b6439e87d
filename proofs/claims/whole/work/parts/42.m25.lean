/-! THE REFERENCE: of, goes, after, race -/
def nrv (v : Int64) : Int32 := if v < -1000 then -1000 else if 1000 < v then nI 1000 else v.toInt32
set_option maxHeartbeats 400000 in
set_option maxRecDepth 100000 in
theorem e_near (v : Int64) (h : am_H) : Ex 0 0 0 mX12_near 0 (am_en [.long v] 2) [] h (fun r h2 => r = some (.int (nrv v)) ∧ h2 = h) := by
  refine ex_lload_n dX12_near_0 rfl ?_
  refine ex_ldc2 dX12_near_1 qX12_118 ?_
  refine ex_lcmp dX12_near_4 ?_
  refine ex_if_ge 14 dX12_near_5 (by decide) (fun q5 => ?_) (fun q5 => ?_)
  · skip
    refine ex_lload_n dX12_near_14 rfl ?_
    refine ex_ldc2 dX12_near_15 qX12_120 ?_
    refine ex_lcmp dX12_near_18 ?_
    refine ex_if_le 28 dX12_near_19 (by decide) (fun q19 => ?_) (fun q19 => ?_)
    · skip
      refine ex_lload_n dX12_near_28 rfl ?_
      refine ex_l2i dX12_near_29 ?_
      refine ex_iret rfl dX12_near_30 ?_
      exact ⟨by rw [show nrv v = v.toInt32 from (if_neg (show ¬ v < -1000 from Int64.not_lt.mpr ((lg_cmp_ge _ _).mp q5))).trans (if_neg (show ¬ (1000 : Int64) < v from Int64.not_lt.mpr ((lg_cmp_le _ _).mp q19)))], rfl⟩
    · skip
      refine ex_sipushN (nI 1000) dX12_near_22 (by decide) ?_
      refine ex_goto 30 dX12_near_25 (by decide) ?_
      refine ex_iret rfl dX12_near_30 ?_
      exact ⟨by rw [show nrv v = nI 1000 from (if_neg (show ¬ v < -1000 from Int64.not_lt.mpr ((lg_cmp_ge _ _).mp q5))).trans (if_pos (show (1000 : Int64) < v from Int64.not_le.mp (fun z => q19 ((lg_cmp_le _ _).mpr z))))], rfl⟩
  · skip
    refine ex_sipushN (-1000) dX12_near_8 (by decide) ?_
    refine ex_goto 30 dX12_near_11 (by decide) ?_
    refine ex_iret rfl dX12_near_30 ?_
    exact ⟨by rw [show nrv v = -1000 from if_pos (show v < -1000 from Int64.not_le.mp (fun z => q5 ((lg_cmp_ge _ _).mpr z)))], rfl⟩
set_option maxHeartbeats 400000 in
set_option maxRecDepth 100000 in
theorem e_of0 {b : Nat} {h : am_H} {σ : am_S} {n j m : Nat} (hn : σ.2.1 1 96 = nI n) (hn6 : n ≤ 6) (hj : j < n) (hmj : σ.2.1 1 (16 * j) = nI m) (hm1 : 1 ≤ m) (hm13 : m ≤ 13) (hw : WK (σ.2.1 1)) (hb : Bo σ) (hm : Mo b h σ) : Ex 74 0 0 mX12_of 0 (am_en [.ref b, .int (nI j), .int (nI 0)] 3) [] h (fun r h2 => r = some (.int (nI m)) ∧ ∃ σ2, Mo b h2 σ2 ∧ Lk FX RX σ σ2 ∧ Bo σ2 ∧ Same b h h2) := by
  have hs : Same b h h := Same.rf
  refine ex_aload_n dX12_of_0 rfl rfl ?_
  refine ex_iload_n dX12_of_1 rfl ?_
  refine ex_callV0 (dc := 1) (as := [.int _]) dX12_of_2 MX12_isHeap kX12_122 iX12_isHeap sX12_isHeap rfl rfl hm.1 rfl rfl (Nat.le_of_ble_eq_true rfl) (Nat.le_of_ble_eq_true rfl) (by first | decide | omega) (e_isHeap _ hn hn6 hm) (fun r h2 q => ?_)
  obtain ⟨rfl, rfl⟩ := q
  show Ex _ 0 0 _ _ _ (Value.int _ :: _) _ _
  rw [bN_t ⟨by rw [nI_toInt (by omega)]; omega, by rw [nI_toInt (by omega)]; omega⟩]
  refine ex_if_neN 12 dX12_of_5 (by decide) (by first | omega | exact bN_lt) (fun q5 => ?_) (fun q5 => ?_)
  · skip
    refine ex_aload_n dX12_of_12 rfl rfl ?_
    refine ex_iload_n dX12_of_13 rfl ?_
    refine ex_callV0 (dc := 2) (as := [.int _]) dX12_of_14 MX12_takes kX12_126 iX12_takes sX12_takes rfl rfl hm.1 rfl rfl (Nat.le_of_ble_eq_true rfl) (Nat.le_of_ble_eq_true rfl) (by first | decide | omega) (e_takes2 (by omega) hmj hm1 hm13 hb hm) (fun r h2 q => ?_)
    obtain ⟨rfl, σ1, hm, hl1, hp, eq1, hs2⟩ := q
    have hs := hs.tr hs2
    have eK1 : σ1.2.1 1 = σ.2.1 1 := hl1.2.1 1 (by decide)
    show Ex _ 0 0 _ _ _ _ _ _
    refine ex_iload_n dX12_of_17 rfl ?_
    refine ex_tableIn 60 dX12_of_18 (by decide) (by decide) (show _ = some (42 : Int) by decide) (by decide) ?_
    refine ex_aload_n dX12_of_60 rfl rfl ?_
    refine ex_getf fX12_130 dX12_of_61 hm.1 (congrArg (fun z => some (Value.int z)) hp.1) ?_
    refine ex_iret rfl dX12_of_64 ?_
    exact ⟨by rfl, _, hm, hl1.mono (by decide) (by decide), hp.bo, hs⟩
  · skip
    exact absurd q5 (by decide)
set_option maxHeartbeats 400000 in
set_option maxRecDepth 100000 in
theorem e_of1 {b : Nat} {h : am_H} {σ : am_S} {n j m : Nat} (hn : σ.2.1 1 96 = nI n) (hn6 : n ≤ 6) (hj : j < n) (hmj : σ.2.1 1 (16 * j) = nI m) (hm1 : 1 ≤ m) (hm13 : m ≤ 13) (hw : WK (σ.2.1 1)) (hb : Bo σ) (hm : Mo b h σ) : Ex 74 0 0 mX12_of 0 (am_en [.ref b, .int (nI j), .int (nI 1)] 3) [] h (fun r h2 => r = some (.int ((σ.2.1 1) (16 * j + 1))) ∧ ∃ σ2, Mo b h2 σ2 ∧ Lk FX RX σ σ2 ∧ Bo σ2 ∧ Same b h h2) := by
  have hs : Same b h h := Same.rf
  refine ex_aload_n dX12_of_0 rfl rfl ?_
  refine ex_iload_n dX12_of_1 rfl ?_
  refine ex_callV0 (dc := 1) (as := [.int _]) dX12_of_2 MX12_isHeap kX12_122 iX12_isHeap sX12_isHeap rfl rfl hm.1 rfl rfl (Nat.le_of_ble_eq_true rfl) (Nat.le_of_ble_eq_true rfl) (by first | decide | omega) (e_isHeap _ hn hn6 hm) (fun r h2 q => ?_)
  obtain ⟨rfl, rfl⟩ := q
  show Ex _ 0 0 _ _ _ (Value.int _ :: _) _ _
  rw [bN_t ⟨by rw [nI_toInt (by omega)]; omega, by rw [nI_toInt (by omega)]; omega⟩]
  refine ex_if_neN 12 dX12_of_5 (by decide) (by first | omega | exact bN_lt) (fun q5 => ?_) (fun q5 => ?_)
  · skip
    refine ex_aload_n dX12_of_12 rfl rfl ?_
    refine ex_iload_n dX12_of_13 rfl ?_
    refine ex_callV0 (dc := 2) (as := [.int _]) dX12_of_14 MX12_takes kX12_126 iX12_takes sX12_takes rfl rfl hm.1 rfl rfl (Nat.le_of_ble_eq_true rfl) (Nat.le_of_ble_eq_true rfl) (by first | decide | omega) (e_takes2 (by omega) hmj hm1 hm13 hb hm) (fun r h2 q => ?_)
    obtain ⟨rfl, σ1, hm, hl1, hp, eq1, hs2⟩ := q
    have hs := hs.tr hs2
    have eK1 : σ1.2.1 1 = σ.2.1 1 := hl1.2.1 1 (by decide)
    show Ex _ 0 0 _ _ _ _ _ _
    refine ex_iload_n dX12_of_17 rfl ?_
    refine ex_tableIn 65 dX12_of_18 (by decide) (by decide) (show _ = some (47 : Int) by decide) (by decide) ?_
    refine ex_aload_n dX12_of_65 rfl rfl ?_
    refine ex_getf fX12_24 dX12_of_66 hm.1 rfl ?_
    refine ex_iload_n dX12_of_69 rfl ?_
    refine ex_callS0 (dc := 0) (as := [.int _]) dX12_of_70 MX12_placeOf kX12_112 tX12_placeOf rfl rfl (Nat.le_of_ble_eq_true rfl) (Nat.le_of_ble_eq_true rfl) (by first | decide | omega) (e_placeOf _ _) (fun r h2 q => ?_)
    obtain ⟨rfl, rfl⟩ := q
    show Ex _ 0 0 _ _ _ (Value.int _ :: _) _ _
    rw [pl_nI]
    refine ex_iconstN (nI 1) dX12_of_73 (by decide) ?_
    refine ex_iaddN dX12_of_74 ?_
    refine m_aldv hm dX12_of_75 (by decide) (by decide) rfl (by show _ < 5725; first | omega | exact bN_lt) (congrFun eK1 (16 * j + 1)) ?_
    refine ex_iret rfl dX12_of_76 ?_
    exact ⟨by rfl, _, hm, hl1.mono (by decide) (by decide), hp.bo, hs⟩
  · skip
    exact absurd q5 (by decide)
set_option maxHeartbeats 400000 in
set_option maxRecDepth 100000 in
theorem e_of2 {b : Nat} {h : am_H} {σ : am_S} {n j m : Nat} (hn : σ.2.1 1 96 = nI n) (hn6 : n ≤ 6) (hj : j < n) (hmj : σ.2.1 1 (16 * j) = nI m) (hm1 : 1 ≤ m) (hm13 : m ≤ 13) (hw : WK (σ.2.1 1)) (hb : Bo σ) (hm : Mo b h σ) : Ex 74 0 0 mX12_of 0 (am_en [.ref b, .int (nI j), .int (nI 2)] 3) [] h (fun r h2 => r = some (.int ((σ.2.1 1) (16 * j + 2))) ∧ ∃ σ2, Mo b h2 σ2 ∧ Lk FX RX σ σ2 ∧ Bo σ2 ∧ Same b h h2) := by
  have hs : Same b h h := Same.rf
  refine ex_aload_n dX12_of_0 rfl rfl ?_
  refine ex_iload_n dX12_of_1 rfl ?_
  refine ex_callV0 (dc := 1) (as := [.int _]) dX12_of_2 MX12_isHeap kX12_122 iX12_isHeap sX12_isHeap rfl rfl hm.1 rfl rfl (Nat.le_of_ble_eq_true rfl) (Nat.le_of_ble_eq_true rfl) (by first | decide | omega) (e_isHeap _ hn hn6 hm) (fun r h2 q => ?_)
  obtain ⟨rfl, rfl⟩ := q
  show Ex _ 0 0 _ _ _ (Value.int _ :: _) _ _
  rw [bN_t ⟨by rw [nI_toInt (by omega)]; omega, by rw [nI_toInt (by omega)]; omega⟩]
  refine ex_if_neN 12 dX12_of_5 (by decide) (by first | omega | exact bN_lt) (fun q5 => ?_) (fun q5 => ?_)
  · skip
    refine ex_aload_n dX12_of_12 rfl rfl ?_
    refine ex_iload_n dX12_of_13 rfl ?_
    refine ex_callV0 (dc := 2) (as := [.int _]) dX12_of_14 MX12_takes kX12_126 iX12_takes sX12_takes rfl rfl hm.1 rfl rfl (Nat.le_of_ble_eq_true rfl) (Nat.le_of_ble_eq_true rfl) (by first | decide | omega) (e_takes2 (by omega) hmj hm1 hm13 hb hm) (fun r h2 q => ?_)
    obtain ⟨rfl, σ1, hm, hl1, hp, eq1, hs2⟩ := q
    have hs := hs.tr hs2
    have eK1 : σ1.2.1 1 = σ.2.1 1 := hl1.2.1 1 (by decide)
    show Ex _ 0 0 _ _ _ _ _ _
    refine ex_iload_n dX12_of_17 rfl ?_
    refine ex_tableIn 77 dX12_of_18 (by decide) (by decide) (show _ = some (59 : Int) by decide) (by decide) ?_
    refine ex_aload_n dX12_of_77 rfl rfl ?_
    refine ex_getf fX12_133 dX12_of_78 hm.1 (congrArg (fun z => some (Value.int z)) (show σ1.1 32 = (σ.2.1 1) (16 * j + 2) from congrArg (fun z => z.2.1) eq1.2.1)) ?_
    refine ex_iret rfl dX12_of_81 ?_
    exact ⟨by rfl, _, hm, hl1.mono (by decide) (by decide), hp.bo, hs⟩
  · skip
    exact absurd q5 (by decide)
set_option maxHeartbeats 400000 in
set_option maxRecDepth 100000 in
theorem e_of3 {b : Nat} {h : am_H} {σ : am_S} {n j m : Nat} (hn : σ.2.1 1 96 = nI n) (hn6 : n ≤ 6) (hj : j < n) (hmj : σ.2.1 1 (16 * j) = nI m) (hm1 : 1 ≤ m) (hm13 : m ≤ 13) (hw : WK (σ.2.1 1)) (hb : Bo σ) (hm : Mo b h σ) : Ex 74 0 0 mX12_of 0 (am_en [.ref b, .int (nI j), .int (nI 3)] 3) [] h (fun r h2 => r = some (.int (nI (bN (endv (σ.2.1 1) (hpo (σ.2.1 1) j m) = true)))) ∧ ∃ σ2, Mo b h2 σ2 ∧ Lk FX RX σ σ2 ∧ Bo σ2 ∧ Same b h h2) := by
  have hs : Same b h h := Same.rf
  refine ex_aload_n dX12_of_0 rfl rfl ?_
  refine ex_iload_n dX12_of_1 rfl ?_
  refine ex_callV0 (dc := 1) (as := [.int _]) dX12_of_2 MX12_isHeap kX12_122 iX12_isHeap sX12_isHeap rfl rfl hm.1 rfl rfl (Nat.le_of_ble_eq_true rfl) (Nat.le_of_ble_eq_true rfl) (by first | decide | omega) (e_isHeap _ hn hn6 hm) (fun r h2 q => ?_)
  obtain ⟨rfl, rfl⟩ := q
  show Ex _ 0 0 _ _ _ (Value.int _ :: _) _ _
  rw [bN_t ⟨by rw [nI_toInt (by omega)]; omega, by rw [nI_toInt (by omega)]; omega⟩]
  refine ex_if_neN 12 dX12_of_5 (by decide) (by first | omega | exact bN_lt) (fun q5 => ?_) (fun q5 => ?_)
  · skip
    refine ex_aload_n dX12_of_12 rfl rfl ?_
    refine ex_iload_n dX12_of_13 rfl ?_
    refine ex_callV0 (dc := 2) (as := [.int _]) dX12_of_14 MX12_takes kX12_126 iX12_takes sX12_takes rfl rfl hm.1 rfl rfl (Nat.le_of_ble_eq_true rfl) (Nat.le_of_ble_eq_true rfl) (by first | decide | omega) (e_takes2 (by omega) hmj hm1 hm13 hb hm) (fun r h2 q => ?_)
    obtain ⟨rfl, σ1, hm, hl1, hp, eq1, hs2⟩ := q
    have hs := hs.tr hs2
    have eK1 : σ1.2.1 1 = σ.2.1 1 := hl1.2.1 1 (by decide)
    show Ex _ 0 0 _ _ _ _ _ _
    refine ex_iload_n dX12_of_17 rfl ?_
    refine ex_tableIn 82 dX12_of_18 (by decide) (by decide) (show _ = some (64 : Int) by decide) (by decide) ?_
    refine ex_aload_n dX12_of_82 rfl rfl ?_
    refine ex_callV0 (dc := 71) (as := []) dX12_of_83 MX12_hasEnded kX12_136 iX12_hasEnded sX12_hasEnded rfl rfl hm.1 rfl rfl (Nat.le_of_ble_eq_true rfl) (Nat.le_of_ble_eq_true rfl) (by first | decide | omega) (e_hasEnded (by rw [eK1]; exact hw) hp hm) (fun r h2 q => ?_)
    obtain ⟨rfl, σ2, hm, hl2, hp, hs2⟩ := q
    have hs := hs.tr hs2
    rw [eK1, endv_q eq1]
    have hl1 : Lk FX RX σ σ2 := (hl1.mono (by decide) (by decide)).tr (hl2.mono (by decide) (by decide))
    show Ex _ 0 0 _ _ _ (Value.int _ :: _) _ _
    refine ex_if_eqN 93 dX12_of_86 (by decide) (by first | omega | exact bN_lt) (fun q86 => ?_) (fun q86 => ?_)
    · skip
      refine ex_iconstN (nI 0) dX12_of_93 (by decide) ?_
      refine ex_iret rfl dX12_of_94 ?_
      exact ⟨by rw [bt.mp q86]; rfl, _, hm, hl1.mono (by decide) (by decide), hp.bo, hs⟩
    · skip
      refine ex_iconstN (nI 1) dX12_of_89 (by decide) ?_
      refine ex_goto 94 dX12_of_90 (by decide) ?_
      refine ex_iret rfl dX12_of_94 ?_
      exact ⟨by rw [bn.mp q86]; rfl, _, hm, hl1.mono (by decide) (by decide), hp.bo, hs⟩
  · skip
    exact absurd q5 (by decide)
set_option maxHeartbeats 400000 in
set_option maxRecDepth 100000 in
theorem e_of4 {b : Nat} {h : am_H} {σ : am_S} {n j m : Nat} (hn : σ.2.1 1 96 = nI n) (hn6 : n ≤ 6) (hj : j < n) (hmj : σ.2.1 1 (16 * j) = nI m) (hm1 : 1 ≤ m) (hm13 : m ≤ 13) (hw : WK (σ.2.1 1)) (hb : Bo σ) (hm : Mo b h σ) : Ex 74 0 0 mX12_of 0 (am_en [.ref b, .int (nI j), .int (nI 4)] 3) [] h (fun r h2 => r = some (.int (nI (bN (stkv (σ.2.1 1) (hpo (σ.2.1 1) j m) = true)))) ∧ ∃ σ2, Mo b h2 σ2 ∧ Lk FX RX σ σ2 ∧ Bo σ2 ∧ Same b h h2) := by
  have hs : Same b h h := Same.rf
  refine ex_aload_n dX12_of_0 rfl rfl ?_
  refine ex_iload_n dX12_of_1 rfl ?_
  refine ex_callV0 (dc := 1) (as := [.int _]) dX12_of_2 MX12_isHeap kX12_122 iX12_isHeap sX12_isHeap rfl rfl hm.1 rfl rfl (Nat.le_of_ble_eq_true rfl) (Nat.le_of_ble_eq_true rfl) (by first | decide | omega) (e_isHeap _ hn hn6 hm) (fun r h2 q => ?_)
  obtain ⟨rfl, rfl⟩ := q
  show Ex _ 0 0 _ _ _ (Value.int _ :: _) _ _
  rw [bN_t ⟨by rw [nI_toInt (by omega)]; omega, by rw [nI_toInt (by omega)]; omega⟩]
  refine ex_if_neN 12 dX12_of_5 (by decide) (by first | omega | exact bN_lt) (fun q5 => ?_) (fun q5 => ?_)
  · skip
    refine ex_aload_n dX12_of_12 rfl rfl ?_
    refine ex_iload_n dX12_of_13 rfl ?_
    refine ex_callV0 (dc := 2) (as := [.int _]) dX12_of_14 MX12_takes kX12_126 iX12_takes sX12_takes rfl rfl hm.1 rfl rfl (Nat.le_of_ble_eq_true rfl) (Nat.le_of_ble_eq_true rfl) (by first | decide | omega) (e_takes2 (by omega) hmj hm1 hm13 hb hm) (fun r h2 q => ?_)
    obtain ⟨rfl, σ1, hm, hl1, hp, eq1, hs2⟩ := q
    have hs := hs.tr hs2
    have eK1 : σ1.2.1 1 = σ.2.1 1 := hl1.2.1 1 (by decide)
    show Ex _ 0 0 _ _ _ _ _ _
    refine ex_iload_n dX12_of_17 rfl ?_
    refine ex_tableIn 95 dX12_of_18 (by decide) (by decide) (show _ = some (77 : Int) by decide) (by decide) ?_
    refine ex_aload_n dX12_of_95 rfl rfl ?_
    refine ex_callV0 (dc := 72) (as := []) dX12_of_96 MX12_isStuck kX12_140 iX12_isStuck sX12_isStuck rfl rfl hm.1 rfl rfl (Nat.le_of_ble_eq_true rfl) (Nat.le_of_ble_eq_true rfl) (by first | decide | omega) (e_isStuck (by rw [eK1]; exact hw) hp hm) (fun r h2 q => ?_)
    obtain ⟨rfl, σ2, hm, hl2, hp, hs2⟩ := q
    have hs := hs.tr hs2
    rw [eK1, stkv_q eq1]
    have hl1 : Lk FX RX σ σ2 := (hl1.mono (by decide) (by decide)).tr (hl2.mono (by decide) (by decide))
    show Ex _ 0 0 _ _ _ (Value.int _ :: _) _ _
    refine ex_if_eqN 106 dX12_of_99 (by decide) (by first | omega | exact bN_lt) (fun q99 => ?_) (fun q99 => ?_)
    · skip
      refine ex_iconstN (nI 0) dX12_of_106 (by decide) ?_
      refine ex_iret rfl dX12_of_107 ?_
      exact ⟨by rw [bt.mp q99]; rfl, _, hm, hl1.mono (by decide) (by decide), hp.bo, hs⟩
    · skip
      refine ex_iconstN (nI 1) dX12_of_102 (by decide) ?_
      refine ex_goto 107 dX12_of_103 (by decide) ?_
      refine ex_iret rfl dX12_of_107 ?_
      exact ⟨by rw [bn.mp q99]; rfl, _, hm, hl1.mono (by decide) (by decide), hp.bo, hs⟩
  · skip
    exact absurd q5 (by decide)
set_option maxHeartbeats 400000 in
set_option maxRecDepth 100000 in
theorem e_of5 {b : Nat} {h : am_H} {σ : am_S} {n j m : Nat} (hn : σ.2.1 1 96 = nI n) (hn6 : n ≤ 6) (hj : j < n) (hmj : σ.2.1 1 (16 * j) = nI m) (hm1 : 1 ≤ m) (hm13 : m ≤ 13) (hw : WK (σ.2.1 1)) (hb : Bo σ) (hm : Mo b h σ) : Ex 74 0 0 mX12_of 0 (am_en [.ref b, .int (nI j), .int (nI 5)] 3) [] h (fun r h2 => r = some (.int (nrv (trnv (σ.2.1 1) (hpo (σ.2.1 1) j m)))) ∧ ∃ σ2, Mo b h2 σ2 ∧ Lk FX RX σ σ2 ∧ Bo σ2 ∧ Same b h h2) := by
  have hs : Same b h h := Same.rf
  refine ex_aload_n dX12_of_0 rfl rfl ?_
  refine ex_iload_n dX12_of_1 rfl ?_
  refine ex_callV0 (dc := 1) (as := [.int _]) dX12_of_2 MX12_isHeap kX12_122 iX12_isHeap sX12_isHeap rfl rfl hm.1 rfl rfl (Nat.le_of_ble_eq_true rfl) (Nat.le_of_ble_eq_true rfl) (by first | decide | omega) (e_isHeap _ hn hn6 hm) (fun r h2 q => ?_)
  obtain ⟨rfl, rfl⟩ := q
  show Ex _ 0 0 _ _ _ (Value.int _ :: _) _ _
  rw [bN_t ⟨by rw [nI_toInt (by omega)]; omega, by rw [nI_toInt (by omega)]; omega⟩]
  refine ex_if_neN 12 dX12_of_5 (by decide) (by first | omega | exact bN_lt) (fun q5 => ?_) (fun q5 => ?_)
  · skip
    refine ex_aload_n dX12_of_12 rfl rfl ?_
    refine ex_iload_n dX12_of_13 rfl ?_
    refine ex_callV0 (dc := 2) (as := [.int _]) dX12_of_14 MX12_takes kX12_126 iX12_takes sX12_takes rfl rfl hm.1 rfl rfl (Nat.le_of_ble_eq_true rfl) (Nat.le_of_ble_eq_true rfl) (by first | decide | omega) (e_takes2 (by omega) hmj hm1 hm13 hb hm) (fun r h2 q => ?_)
    obtain ⟨rfl, σ1, hm, hl1, hp, eq1, hs2⟩ := q
    have hs := hs.tr hs2
    have eK1 : σ1.2.1 1 = σ.2.1 1 := hl1.2.1 1 (by decide)
    show Ex _ 0 0 _ _ _ _ _ _
    refine ex_iload_n dX12_of_17 rfl ?_
    refine ex_tableIn 108 dX12_of_18 (by decide) (by decide) (show _ = some (90 : Int) by decide) (by decide) ?_
    refine ex_aload_n dX12_of_108 rfl rfl ?_
    refine ex_callV0 (dc := 71) (as := []) dX12_of_109 MX12_turnsBy kX12_143 iX12_turnsBy sX12_turnsBy rfl rfl hm.1 rfl rfl (Nat.le_of_ble_eq_true rfl) (Nat.le_of_ble_eq_true rfl) (by first | decide | omega) (e_turnsBy (by rw [eK1]; exact hw) hp hm) (fun r h2 q => ?_)
    obtain ⟨rfl, σ2, hm, hl2, hp, hs2⟩ := q
    have hs := hs.tr hs2
    rw [eK1, trnv_q eq1]
    have hl1 : Lk FX RX σ σ2 := (hl1.mono (by decide) (by decide)).tr (hl2.mono (by decide) (by decide))
    show Ex _ 0 0 _ _ _ (Value.long _ :: _) _ _
    refine ex_callS0 (dc := 0) (as := [.long _]) dX12_of_112 MX12_near kX12_147 tX12_near rfl rfl (Nat.le_of_ble_eq_true rfl) (Nat.le_of_ble_eq_true rfl) (by first | decide | omega) (e_near _ _) (fun r h2 q => ?_)
    obtain ⟨rfl, rfl⟩ := q
    show Ex _ 0 0 _ _ _ (Value.int _ :: _) _ _
    refine ex_iret rfl dX12_of_115 ?_
    exact ⟨by rfl, _, hm, hl1.mono (by decide) (by decide), hp.bo, hs⟩
  · skip
    exact absurd q5 (by decide)
set_option maxHeartbeats 400000 in
set_option maxRecDepth 100000 in
theorem e_of6 {b : Nat} {h : am_H} {σ : am_S} {n j m : Nat} (hn : σ.2.1 1 96 = nI n) (hn6 : n ≤ 6) (hj : j < n) (hmj : σ.2.1 1 (16 * j) = nI m) (hm1 : 1 ≤ m) (hm13 : m ≤ 13) (hw : WK (σ.2.1 1)) (hb : Bo σ) (hm : Mo b h σ) : Ex 74 0 0 mX12_of 0 (am_en [.ref b, .int (nI j), .int (nI 6)] 3) [] h (fun r h2 => r = some (.int (nrv (snkv (σ.2.1 1) (hpo (σ.2.1 1) j m)))) ∧ ∃ σ2, Mo b h2 σ2 ∧ Lk FX RX σ σ2 ∧ Bo σ2 ∧ Same b h h2) := by
  have hs : Same b h h := Same.rf
  refine ex_aload_n dX12_of_0 rfl rfl ?_
  refine ex_iload_n dX12_of_1 rfl ?_
  refine ex_callV0 (dc := 1) (as := [.int _]) dX12_of_2 MX12_isHeap kX12_122 iX12_isHeap sX12_isHeap rfl rfl hm.1 rfl rfl (Nat.le_of_ble_eq_true rfl) (Nat.le_of_ble_eq_true rfl) (by first | decide | omega) (e_isHeap _ hn hn6 hm) (fun r h2 q => ?_)
  obtain ⟨rfl, rfl⟩ := q
  show Ex _ 0 0 _ _ _ (Value.int _ :: _) _ _
  rw [bN_t ⟨by rw [nI_toInt (by omega)]; omega, by rw [nI_toInt (by omega)]; omega⟩]
  refine ex_if_neN 12 dX12_of_5 (by decide) (by first | omega | exact bN_lt) (fun q5 => ?_) (fun q5 => ?_)
  · skip
    refine ex_aload_n dX12_of_12 rfl rfl ?_
    refine ex_iload_n dX12_of_13 rfl ?_
    refine ex_callV0 (dc := 2) (as := [.int _]) dX12_of_14 MX12_takes kX12_126 iX12_takes sX12_takes rfl rfl hm.1 rfl rfl (Nat.le_of_ble_eq_true rfl) (Nat.le_of_ble_eq_true rfl) (by first | decide | omega) (e_takes2 (by omega) hmj hm1 hm13 hb hm) (fun r h2 q => ?_)
    obtain ⟨rfl, σ1, hm, hl1, hp, eq1, hs2⟩ := q
    have hs := hs.tr hs2
    have eK1 : σ1.2.1 1 = σ.2.1 1 := hl1.2.1 1 (by decide)
    show Ex _ 0 0 _ _ _ _ _ _
    refine ex_iload_n dX12_of_17 rfl ?_
    refine ex_tableIn 116 dX12_of_18 (by decide) (by decide) (show _ = some (98 : Int) by decide) (by decide) ?_
    refine ex_aload_n dX12_of_116 rfl rfl ?_
    refine ex_callV0 (dc := 71) (as := []) dX12_of_117 MX12_sinksBy kX12_151 iX12_sinksBy sX12_sinksBy rfl rfl hm.1 rfl rfl (Nat.le_of_ble_eq_true rfl) (Nat.le_of_ble_eq_true rfl) (by first | decide | omega) (e_sinksBy (by rw [eK1]; exact hw) hp hm) (fun r h2 q => ?_)
    obtain ⟨rfl, σ2, hm, hl2, hp, hs2⟩ := q
    have hs := hs.tr hs2
    rw [eK1, snkv_q eq1]
    have hl1 : Lk FX RX σ σ2 := (hl1.mono (by decide) (by decide)).tr (hl2.mono (by decide) (by decide))
    show Ex _ 0 0 _ _ _ (Value.long _ :: _) _ _
    refine ex_callS0 (dc := 0) (as := [.long _]) dX12_of_120 MX12_near kX12_147 tX12_near rfl rfl (Nat.le_of_ble_eq_true rfl) (Nat.le_of_ble_eq_true rfl) (by first | decide | omega) (e_near _ _) (fun r h2 q => ?_)
    obtain ⟨rfl, rfl⟩ := q
    show Ex _ 0 0 _ _ _ (Value.int _ :: _) _ _
    refine ex_iret rfl dX12_of_123 ?_
    exact ⟨by rfl, _, hm, hl1.mono (by decide) (by decide), hp.bo, hs⟩
  · skip
    exact absurd q5 (by decide)
theorem sw7 {i : Nat} (h : i < 20) : ¬ (0 ≤ (nI (7 + i)).toInt ∧ (nI (7 + i)).toInt ≤ 6) := by rw [nI_toInt (by omega)]; omega
set_option maxHeartbeats 400000 in
set_option maxRecDepth 100000 in
theorem e_of7 {b : Nat} {h : am_H} {σ : am_S} {n j m : Nat} (hn : σ.2.1 1 96 = nI n) (hn6 : n ≤ 6) (hj : j < n) (hmj : σ.2.1 1 (16 * j) = nI m) (hm1 : 1 ≤ m) (hm13 : m ≤ 13) (hw : WK (σ.2.1 1)) (hb : Bo σ) {i : Nat} (hi : i < m) (hm : Mo b h σ) : Ex 74 0 0 mX12_of 0 (am_en [.ref b, .int (nI j), .int (nI (7 + i))] 3) [] h (fun r h2 => r = some (.int ((σ.2.1 1) (16 * j + 3 + i))) ∧ ∃ σ2, Mo b h2 σ2 ∧ Lk FX RX σ σ2 ∧ Bo σ2 ∧ Same b h h2) := by
  have hs : Same b h h := Same.rf
  refine ex_aload_n dX12_of_0 rfl rfl ?_
  refine ex_iload_n dX12_of_1 rfl ?_
  refine ex_callV0 (dc := 1) (as := [.int _]) dX12_of_2 MX12_isHeap kX12_122 iX12_isHeap sX12_isHeap rfl rfl hm.1 rfl rfl (Nat.le_of_ble_eq_true rfl) (Nat.le_of_ble_eq_true rfl) (by first | decide | omega) (e_isHeap _ hn hn6 hm) (fun r h2 q => ?_)
  obtain ⟨rfl, rfl⟩ := q
  show Ex _ 0 0 _ _ _ (Value.int _ :: _) _ _
  rw [bN_t ⟨by rw [nI_toInt (by omega)]; omega, by rw [nI_toInt (by omega)]; omega⟩]
  refine ex_if_neN 12 dX12_of_5 (by decide) (by first | omega | exact bN_lt) (fun q5 => ?_) (fun q5 => ?_)
  · skip
    refine ex_aload_n dX12_of_12 rfl rfl ?_
    refine ex_iload_n dX12_of_13 rfl ?_
    refine ex_callV0 (dc := 2) (as := [.int _]) dX12_of_14 MX12_takes kX12_126 iX12_takes sX12_takes rfl rfl hm.1 rfl rfl (Nat.le_of_ble_eq_true rfl) (Nat.le_of_ble_eq_true rfl) (by first | decide | omega) (e_takes2 (by omega) hmj hm1 hm13 hb hm) (fun r h2 q => ?_)
    obtain ⟨rfl, σ1, hm, hl1, hp, eq1, hs2⟩ := q
    have hs := hs.tr hs2
    have eK1 : σ1.2.1 1 = σ.2.1 1 := hl1.2.1 1 (by decide)
    show Ex _ 0 0 _ _ _ _ _ _
    refine ex_iload_n dX12_of_17 rfl ?_
    refine ex_tableOut 124 dX12_of_18 (by rw [nI_toInt (by omega)]; omega) (by decide) ?_
    refine ex_iload_n dX12_of_124 rfl ?_
    refine ex_bipushN (nI 7) dX12_of_125 (by decide) ?_
    refine ex_bipushN (nI 6) dX12_of_127 (by decide) ?_
    refine ex_aload_n dX12_of_129 rfl rfl ?_
    refine ex_getf fX12_130 dX12_of_130 hm.1 (congrArg (fun z => some (Value.int z)) hp.1) ?_
    refine ex_iaddN dX12_of_133 ?_
    refine ex_callS0 (dc := 0) (as := [.int _, .int _, .int _]) dX12_of_134 MX12_lies kX12_102 tX12_lies rfl rfl (Nat.le_of_ble_eq_true rfl) (Nat.le_of_ble_eq_true rfl) (by first | decide | omega) (e_lies _ _ _ _) (fun r h2 q => ?_)
    obtain ⟨rfl, rfl⟩ := q
    show Ex _ 0 0 _ _ _ (Value.int _ :: _) _ _
    rw [bN_t (lies_t (by omega) (by omega) (by omega))]
    refine ex_if_eqN 152 dX12_of_137 (by decide) (by first | omega | exact bN_lt) (fun q137 => ?_) (fun q137 => ?_)
    · skip
      exact absurd q137 (by decide)
    · skip
      refine ex_aload_n dX12_of_140 rfl rfl ?_
      refine ex_getf fX12_65 dX12_of_141 hm.1 rfl ?_
      refine ex_iload_n dX12_of_144 rfl ?_
      refine ex_bipushN (nI 7) dX12_of_145 (by decide) ?_
      refine ex_isubN dX12_of_147 (by first | omega | exact bN_lt) ?_
      refine m_aldv hm dX12_of_148 (by decide) (by decide) rfl (by show _ < 13; first | omega | exact bN_lt) ((show σ1.2.1 13 (7 + i - 7) = (σ.2.1 1) (16 * j + 3 + i) by rw [show 7 + i - 7 = i by omega]; exact eq1.1 i (by omega))) ?_
      refine ex_goto 155 dX12_of_149 (by decide) ?_
      refine ex_iret rfl dX12_of_155 ?_
      exact ⟨by rfl, _, hm, hl1.mono (by decide) (by decide), hp.bo, hs⟩
  · skip
    exact absurd q5 (by decide)
set_option maxHeartbeats 400000 in
set_option maxRecDepth 100000 in
theorem e_of_out {b : Nat} {h : am_H} {σ : am_S} {n j m : Nat} (hn : σ.2.1 1 96 = nI n) (hn6 : n ≤ 6) (hj : j < n) (hmj : σ.2.1 1 (16 * j) = nI m) (hm1 : 1 ≤ m) (hm13 : m ≤ 13) (hw : WK (σ.2.1 1)) (hb : Bo σ) {y : Int32} (hy : ¬ inN y (m + 7)) (hm : Mo b h σ) : Ex 74 0 0 mX12_of 0 (am_en [.ref b, .int (nI j), .int y] 3) [] h (fun r h2 => r = some (.int (-1001)) ∧ ∃ σ2, Mo b h2 σ2 ∧ Lk FX RX σ σ2 ∧ Bo σ2 ∧ Same b h h2) := by
  have hs : Same b h h := Same.rf
  refine ex_aload_n dX12_of_0 rfl rfl ?_
  refine ex_iload_n dX12_of_1 rfl ?_
  refine ex_callV0 (dc := 1) (as := [.int _]) dX12_of_2 MX12_isHeap kX12_122 iX12_isHeap sX12_isHeap rfl rfl hm.1 rfl rfl (Nat.le_of_ble_eq_true rfl) (Nat.le_of_ble_eq_true rfl) (by first | decide | omega) (e_isHeap _ hn hn6 hm) (fun r h2 q => ?_)
  obtain ⟨rfl, rfl⟩ := q
  show Ex _ 0 0 _ _ _ (Value.int _ :: _) _ _
  rw [bN_t ⟨by rw [nI_toInt (by omega)]; omega, by rw [nI_toInt (by omega)]; omega⟩]
  refine ex_if_neN 12 dX12_of_5 (by decide) (by first | omega | exact bN_lt | (intro z; exact hy ⟨by omega, by omega⟩)) (fun q5 => ?_) (fun q5 => ?_)
  · skip
    refine ex_aload_n dX12_of_12 rfl rfl ?_
    refine ex_iload_n dX12_of_13 rfl ?_
    refine ex_callV0 (dc := 2) (as := [.int _]) dX12_of_14 MX12_takes kX12_126 iX12_takes sX12_takes rfl rfl hm.1 rfl rfl (Nat.le_of_ble_eq_true rfl) (Nat.le_of_ble_eq_true rfl) (by first | decide | omega) (e_takes2 (by omega) hmj hm1 hm13 hb hm) (fun r h2 q => ?_)
    obtain ⟨rfl, σ1, hm, hl1, hp, eq1, hs2⟩ := q
    have hs := hs.tr hs2
    have eK1 : σ1.2.1 1 = σ.2.1 1 := hl1.2.1 1 (by decide)
    show Ex _ 0 0 _ _ _ _ _ _
    refine ex_iload_n dX12_of_17 rfl ?_
    refine ex_tableOut 124 dX12_of_18 (by first | omega | exact bN_lt | (intro z; exact hy ⟨by omega, by omega⟩)) (by decide) ?_
    refine ex_iload_n dX12_of_124 rfl ?_
    refine ex_bipushN (nI 7) dX12_of_125 (by decide) ?_
    refine ex_bipushN (nI 6) dX12_of_127 (by decide) ?_
    refine ex_aload_n dX12_of_129 rfl rfl ?_
    refine ex_getf fX12_130 dX12_of_130 hm.1 (congrArg (fun z => some (Value.int z)) hp.1) ?_
    refine ex_iaddN dX12_of_133 ?_
    refine ex_callS0 (dc := 0) (as := [.int _, .int _, .int _]) dX12_of_134 MX12_lies kX12_102 tX12_lies rfl rfl (Nat.le_of_ble_eq_true rfl) (Nat.le_of_ble_eq_true rfl) (by first | decide | omega) (e_lies _ _ _ _) (fun r h2 q => ?_)
    obtain ⟨rfl, rfl⟩ := q
    show Ex _ 0 0 _ _ _ (Value.int _ :: _) _ _
    rw [bN_f (fun z => by rw [Int32.le_iff_toInt_le, Int32.le_iff_toInt_le, nI_toInt (by omega), nI_toInt (by omega)] at z; exact hy ⟨by omega, by omega⟩)]
    refine ex_if_eqN 152 dX12_of_137 (by decide) (by first | omega | exact bN_lt | (intro z; exact hy ⟨by omega, by omega⟩)) (fun q137 => ?_) (fun q137 => ?_)
    · skip
      refine ex_sipushN (-1001) dX12_of_152 (by decide) ?_
      refine ex_iret rfl dX12_of_155 ?_
      exact ⟨by rfl, _, hm, hl1.mono (by decide) (by decide), hp.bo, hs⟩
    · skip
      exact absurd rfl q137
  · skip
    exact absurd q5 (by decide)
set_option maxHeartbeats 400000 in
set_option maxRecDepth 100000 in
theorem e_of_noheap {b : Nat} {h : am_H} {σ : am_S} {n : Nat} {x y : Int32} (hn : σ.2.1 1 96 = nI n) (hn6 : n ≤ 6) (hx : ¬ inN x n) (hm : Mo b h σ) : Ex 2 0 0 mX12_of 0 (am_en [.ref b, .int x, .int y] 3) [] h (fun r h2 => r = some (.int (-1001)) ∧ h2 = h) := by
  have hs : Same b h h := Same.rf
  refine ex_aload_n dX12_of_0 rfl rfl ?_
  refine ex_iload_n dX12_of_1 rfl ?_
  refine ex_callV0 (dc := 1) (as := [.int _]) dX12_of_2 MX12_isHeap kX12_122 iX12_isHeap sX12_isHeap rfl rfl hm.1 rfl rfl (Nat.le_of_ble_eq_true rfl) (Nat.le_of_ble_eq_true rfl) (by first | decide | omega) (e_isHeap _ hn hn6 hm) (fun r h2 q => ?_)
  obtain ⟨rfl, rfl⟩ := q
  show Ex _ 0 0 _ _ _ (Value.int _ :: _) _ _
  rw [bN_f hx]
  refine ex_if_neN 12 dX12_of_5 (by decide) (by omega) (fun q5 => ?_) (fun q5 => ?_)
  · skip
    exact absurd rfl q5
  · skip
    refine ex_sipushN (-1001) dX12_of_8 (by decide) ?_
    refine ex_iret rfl dX12_of_11 ?_
    exact ⟨rfl, rfl⟩
set_option maxHeartbeats 400000 in
set_option maxRecDepth 100000 in
theorem e_goes0 {b : Nat} {h : am_H} {σ : am_S} {n j m : Nat} (hn : σ.2.1 1 96 = nI n) (hn6 : n ≤ 6) (hj : j < n) (hmj : σ.2.1 1 (16 * j) = nI m) (hm1 : 1 ≤ m) (hm13 : m ≤ 13) (hw : WK (σ.2.1 1)) (hb : Bo σ) {L : Nat} (hL : σ.2.1 1 114 = nI L) (hL3 : L ≤ 300) (hm : Mo b h σ) : Ex 75 0 0 mX12_goes 0 (am_en [.ref b, .int (nI j), .int (nI 0)] 4) [] h (fun r h2 => r = some (.int (nI (gon (σ.2.1 1) (hpo (σ.2.1 1) j m) L (L + 1)).1)) ∧ ∃ σ2, Mo b h2 σ2 ∧ Lk FX RX σ σ2 ∧ Bo σ2 ∧ Same b h h2) := by
  have hs : Same b h h := Same.rf
  refine ex_aload_n dX12_goes_0 rfl rfl ?_
  refine ex_iload_n dX12_goes_1 rfl ?_
  refine ex_callV0 (dc := 1) (as := [.int _]) dX12_goes_2 MX12_isHeap kX12_122 iX12_isHeap sX12_isHeap rfl rfl hm.1 rfl rfl (Nat.le_of_ble_eq_true rfl) (Nat.le_of_ble_eq_true rfl) (by first | decide | omega) (e_isHeap _ hn hn6 hm) (fun r h2 q => ?_)
  obtain ⟨rfl, rfl⟩ := q
  show Ex _ 0 0 _ _ _ (Value.int _ :: _) _ _
  rw [bN_t ⟨by rw [nI_toInt (by omega)]; omega, by rw [nI_toInt (by omega)]; omega⟩]
  refine ex_if_eqN 17 dX12_goes_5 (by decide) (by first | omega | exact bN_lt) (fun q5 => ?_) (fun q5 => ?_)
  · skip
    exact absurd q5 (by decide)
  · skip
    refine ex_iload_n dX12_goes_8 rfl ?_
    refine ex_iconstN (nI 0) dX12_goes_9 (by decide) ?_
    refine ex_iconstN (nI 2) dX12_goes_10 (by decide) ?_
    refine ex_callS0 (dc := 0) (as := [.int _, .int _, .int _]) dX12_goes_11 MX12_lies kX12_102 tX12_lies rfl rfl (Nat.le_of_ble_eq_true rfl) (Nat.le_of_ble_eq_true rfl) (by first | decide | omega) (e_lies _ _ _ _) (fun r h2 q => ?_)
    obtain ⟨rfl, rfl⟩ := q
    show Ex _ 0 0 _ _ _ (Value.int _ :: _) _ _
    rw [bN_t (lies_t (by omega) (by omega) (by omega))]
    refine ex_if_neN 19 dX12_goes_14 (by decide) (by first | omega | exact bN_lt) (fun q14 => ?_) (fun q14 => ?_)
    · skip
      refine ex_aload_n dX12_goes_19 rfl rfl ?_
      refine ex_iload_n dX12_goes_20 rfl ?_
      refine ex_callV0 (dc := 2) (as := [.int _]) dX12_goes_21 MX12_takes kX12_126 iX12_takes sX12_takes rfl rfl hm.1 rfl rfl (Nat.le_of_ble_eq_true rfl) (Nat.le_of_ble_eq_true rfl) (by first | decide | omega) (e_takes2 (by omega) hmj hm1 hm13 hb hm) (fun r h2 q => ?_)
      obtain ⟨rfl, σ1, hm, hl1, hp, eq1, hs2⟩ := q
      have hs := hs.tr hs2
      have eK1 : σ1.2.1 1 = σ.2.1 1 := hl1.2.1 1 (by decide)
      show Ex _ 0 0 _ _ _ _ _ _
      refine ex_aload_n dX12_goes_24 rfl rfl ?_
      refine ex_callV0 (dc := 74) (as := []) dX12_goes_25 MX12_goesOn kX12_346 iX12_goesOn sX12_goesOn rfl rfl hm.1 rfl rfl (Nat.le_of_ble_eq_true rfl) (Nat.le_of_ble_eq_true rfl) (by first | decide | omega) (e_goesOn (by rw [eK1]; exact hw) (by rw [eK1]; exact hL) hL3 hp hm) (fun r h2 q => ?_)
      obtain ⟨rfl, σ2, hm, hl2, hp, -, h35, h36, hs2⟩ := q
      have hs := hs.tr hs2
      rw [eK1, gon_q eq1] at h35 h36 ⊢
      have hl1 : Lk FX RX σ σ2 := (hl1.mono (by decide) (by decide)).tr (hl2.mono (by decide) (by decide))
      show Ex _ 0 0 _ _ _ (Value.int _ :: _) _ _
      refine ex_istore_n dX12_goes_28 (by decide) ?_
      refine ex_iload_n dX12_goes_29 rfl ?_
      refine ex_if_neN 37 dX12_goes_30 (by decide) (by first | omega | exact bN_lt) (fun q30 => ?_) (fun q30 => ?_)
      · skip
        exact absurd rfl q30
      · skip
        refine ex_iload_n dX12_goes_33 rfl ?_
        refine ex_goto 53 dX12_goes_34 (by decide) ?_
        refine ex_iret rfl dX12_goes_53 ?_
        exact ⟨rfl, _, hm, hl1, hp.bo, hs⟩
    · skip
      exact absurd q14 (by decide)
set_option maxHeartbeats 400000 in
set_option maxRecDepth 100000 in
theorem e_goes1 {b : Nat} {h : am_H} {σ : am_S} {n j m : Nat} (hn : σ.2.1 1 96 = nI n) (hn6 : n ≤ 6) (hj : j < n) (hmj : σ.2.1 1 (16 * j) = nI m) (hm1 : 1 ≤ m) (hm13 : m ≤ 13) (hw : WK (σ.2.1 1)) (hb : Bo σ) {L : Nat} (hL : σ.2.1 1 114 = nI L) (hL3 : L ≤ 300) (hm : Mo b h σ) : Ex 75 0 0 mX12_goes 0 (am_en [.ref b, .int (nI j), .int (nI 1)] 4) [] h (fun r h2 => r = some (.int (nI (gon (σ.2.1 1) (hpo (σ.2.1 1) j m) L (L + 1)).2.1)) ∧ ∃ σ2, Mo b h2 σ2 ∧ Lk FX RX σ σ2 ∧ Bo σ2 ∧ Same b h h2) := by
  have hs : Same b h h := Same.rf
  refine ex_aload_n dX12_goes_0 rfl rfl ?_
  refine ex_iload_n dX12_goes_1 rfl ?_
  refine ex_callV0 (dc := 1) (as := [.int _]) dX12_goes_2 MX12_isHeap kX12_122 iX12_isHeap sX12_isHeap rfl rfl hm.1 rfl rfl (Nat.le_of_ble_eq_true rfl) (Nat.le_of_ble_eq_true rfl) (by first | decide | omega) (e_isHeap _ hn hn6 hm) (fun r h2 q => ?_)
  obtain ⟨rfl, rfl⟩ := q
  show Ex _ 0 0 _ _ _ (Value.int _ :: _) _ _
  rw [bN_t ⟨by rw [nI_toInt (by omega)]; omega, by rw [nI_toInt (by omega)]; omega⟩]
  refine ex_if_eqN 17 dX12_goes_5 (by decide) (by first | omega | exact bN_lt) (fun q5 => ?_) (fun q5 => ?_)
  · skip
    exact absurd q5 (by decide)
  · skip
    refine ex_iload_n dX12_goes_8 rfl ?_
    refine ex_iconstN (nI 0) dX12_goes_9 (by decide) ?_
    refine ex_iconstN (nI 2) dX12_goes_10 (by decide) ?_
    refine ex_callS0 (dc := 0) (as := [.int _, .int _, .int _]) dX12_goes_11 MX12_lies kX12_102 tX12_lies rfl rfl (Nat.le_of_ble_eq_true rfl) (Nat.le_of_ble_eq_true rfl) (by first | decide | omega) (e_lies _ _ _ _) (fun r h2 q => ?_)
    obtain ⟨rfl, rfl⟩ := q
    show Ex _ 0 0 _ _ _ (Value.int _ :: _) _ _
    rw [bN_t (lies_t (by omega) (by omega) (by omega))]
    refine ex_if_neN 19 dX12_goes_14 (by decide) (by first | omega | exact bN_lt) (fun q14 => ?_) (fun q14 => ?_)
    · skip
      refine ex_aload_n dX12_goes_19 rfl rfl ?_
      refine ex_iload_n dX12_goes_20 rfl ?_
      refine ex_callV0 (dc := 2) (as := [.int _]) dX12_goes_21 MX12_takes kX12_126 iX12_takes sX12_takes rfl rfl hm.1 rfl rfl (Nat.le_of_ble_eq_true rfl) (Nat.le_of_ble_eq_true rfl) (by first | decide | omega) (e_takes2 (by omega) hmj hm1 hm13 hb hm) (fun r h2 q => ?_)
      obtain ⟨rfl, σ1, hm, hl1, hp, eq1, hs2⟩ := q
      have hs := hs.tr hs2
      have eK1 : σ1.2.1 1 = σ.2.1 1 := hl1.2.1 1 (by decide)
      show Ex _ 0 0 _ _ _ _ _ _
      refine ex_aload_n dX12_goes_24 rfl rfl ?_
      refine ex_callV0 (dc := 74) (as := []) dX12_goes_25 MX12_goesOn kX12_346 iX12_goesOn sX12_goesOn rfl rfl hm.1 rfl rfl (Nat.le_of_ble_eq_true rfl) (Nat.le_of_ble_eq_true rfl) (by first | decide | omega) (e_goesOn (by rw [eK1]; exact hw) (by rw [eK1]; exact hL) hL3 hp hm) (fun r h2 q => ?_)
      obtain ⟨rfl, σ2, hm, hl2, hp, -, h35, h36, hs2⟩ := q
      have hs := hs.tr hs2
      rw [eK1, gon_q eq1] at h35 h36 ⊢
      have hl1 : Lk FX RX σ σ2 := (hl1.mono (by decide) (by decide)).tr (hl2.mono (by decide) (by decide))
      show Ex _ 0 0 _ _ _ (Value.int _ :: _) _ _
      refine ex_istore_n dX12_goes_28 (by decide) ?_
      refine ex_iload_n dX12_goes_29 rfl ?_
      refine ex_if_neN 37 dX12_goes_30 (by decide) (by first | omega | exact bN_lt) (fun q30 => ?_) (fun q30 => ?_)
      · skip
        refine ex_iload_n dX12_goes_37 rfl ?_
        refine ex_iconstN (nI 1) dX12_goes_38 (by decide) ?_
        refine ex_icmp_neN 49 dX12_goes_39 (by decide) (by first | omega | exact bN_lt) (by first | omega | exact bN_lt) (fun q39 => ?_) (fun q39 => ?_)
        · skip
          exact absurd rfl q39
        · skip
          refine ex_aload_n dX12_goes_42 rfl rfl ?_
          refine ex_getf fX12_336 dX12_goes_43 hm.1 (congrArg (fun z => some (Value.int z)) h35) ?_
          refine ex_goto 53 dX12_goes_46 (by decide) ?_
          refine ex_iret rfl dX12_goes_53 ?_
          exact ⟨rfl, _, hm, hl1, hp.bo, hs⟩
      · skip
        exact absurd q30 (by decide)
    · skip
      exact absurd q14 (by decide)
set_option maxHeartbeats 400000 in
set_option maxRecDepth 100000 in
theorem e_goes2 {b : Nat} {h : am_H} {σ : am_S} {n j m : Nat} (hn : σ.2.1 1 96 = nI n) (hn6 : n ≤ 6) (hj : j < n) (hmj : σ.2.1 1 (16 * j) = nI m) (hm1 : 1 ≤ m) (hm13 : m ≤ 13) (hw : WK (σ.2.1 1)) (hb : Bo σ) {L : Nat} (hL : σ.2.1 1 114 = nI L) (hL3 : L ≤ 300) (hm : Mo b h σ) : Ex 75 0 0 mX12_goes 0 (am_en [.ref b, .int (nI j), .int (nI 2)] 4) [] h (fun r h2 => r = some (.int (oN (gon (σ.2.1 1) (hpo (σ.2.1 1) j m) L (L + 1)).2.2)) ∧ ∃ σ2, Mo b h2 σ2 ∧ Lk FX RX σ σ2 ∧ Bo σ2 ∧ Same b h h2) := by
  have hs : Same b h h := Same.rf
  refine ex_aload_n dX12_goes_0 rfl rfl ?_
  refine ex_iload_n dX12_goes_1 rfl ?_
  refine ex_callV0 (dc := 1) (as := [.int _]) dX12_goes_2 MX12_isHeap kX12_122 iX12_isHeap sX12_isHeap rfl rfl hm.1 rfl rfl (Nat.le_of_ble_eq_true rfl) (Nat.le_of_ble_eq_true rfl) (by first | decide | omega) (e_isHeap _ hn hn6 hm) (fun r h2 q => ?_)
  obtain ⟨rfl, rfl⟩ := q
  show Ex _ 0 0 _ _ _ (Value.int _ :: _) _ _
  rw [bN_t ⟨by rw [nI_toInt (by omega)]; omega, by rw [nI_toInt (by omega)]; omega⟩]
  refine ex_if_eqN 17 dX12_goes_5 (by decide) (by first | omega | exact bN_lt) (fun q5 => ?_) (fun q5 => ?_)
  · skip
    exact absurd q5 (by decide)
  · skip
    refine ex_iload_n dX12_goes_8 rfl ?_
    refine ex_iconstN (nI 0) dX12_goes_9 (by decide) ?_
    refine ex_iconstN (nI 2) dX12_goes_10 (by decide) ?_
    refine ex_callS0 (dc := 0) (as := [.int _, .int _, .int _]) dX12_goes_11 MX12_lies kX12_102 tX12_lies rfl rfl (Nat.le_of_ble_eq_true rfl) (Nat.le_of_ble_eq_true rfl) (by first | decide | omega) (e_lies _ _ _ _) (fun r h2 q => ?_)
    obtain ⟨rfl, rfl⟩ := q
    show Ex _ 0 0 _ _ _ (Value.int _ :: _) _ _
    rw [bN_t (lies_t (by omega) (by omega) (by omega))]
    refine ex_if_neN 19 dX12_goes_14 (by decide) (by first | omega | exact bN_lt) (fun q14 => ?_) (fun q14 => ?_)
    · skip
      refine ex_aload_n dX12_goes_19 rfl rfl ?_
      refine ex_iload_n dX12_goes_20 rfl ?_
      refine ex_callV0 (dc := 2) (as := [.int _]) dX12_goes_21 MX12_takes kX12_126 iX12_takes sX12_takes rfl rfl hm.1 rfl rfl (Nat.le_of_ble_eq_true rfl) (Nat.le_of_ble_eq_true rfl) (by first | decide | omega) (e_takes2 (by omega) hmj hm1 hm13 hb hm) (fun r h2 q => ?_)
      obtain ⟨rfl, σ1, hm, hl1, hp, eq1, hs2⟩ := q
      have hs := hs.tr hs2
      have eK1 : σ1.2.1 1 = σ.2.1 1 := hl1.2.1 1 (by decide)
      show Ex _ 0 0 _ _ _ _ _ _
      refine ex_aload_n dX12_goes_24 rfl rfl ?_
      refine ex_callV0 (dc := 74) (as := []) dX12_goes_25 MX12_goesOn kX12_346 iX12_goesOn sX12_goesOn rfl rfl hm.1 rfl rfl (Nat.le_of_ble_eq_true rfl) (Nat.le_of_ble_eq_true rfl) (by first | decide | omega) (e_goesOn (by rw [eK1]; exact hw) (by rw [eK1]; exact hL) hL3 hp hm) (fun r h2 q => ?_)
      obtain ⟨rfl, σ2, hm, hl2, hp, -, h35, h36, hs2⟩ := q
      have hs := hs.tr hs2
      rw [eK1, gon_q eq1] at h35 h36 ⊢
      have hl1 : Lk FX RX σ σ2 := (hl1.mono (by decide) (by decide)).tr (hl2.mono (by decide) (by decide))
      show Ex _ 0 0 _ _ _ (Value.int _ :: _) _ _
      refine ex_istore_n dX12_goes_28 (by decide) ?_
      refine ex_iload_n dX12_goes_29 rfl ?_
      refine ex_if_neN 37 dX12_goes_30 (by decide) (by first | omega | exact bN_lt) (fun q30 => ?_) (fun q30 => ?_)
      · skip
        refine ex_iload_n dX12_goes_37 rfl ?_
        refine ex_iconstN (nI 1) dX12_goes_38 (by decide) ?_
        refine ex_icmp_neN 49 dX12_goes_39 (by decide) (by first | omega | exact bN_lt) (by first | omega | exact bN_lt) (fun q39 => ?_) (fun q39 => ?_)
        · skip
          refine ex_aload_n dX12_goes_49 rfl rfl ?_
          refine ex_getf fX12_333 dX12_goes_50 hm.1 (congrArg (fun z => some (Value.int z)) h36) ?_
          refine ex_iret rfl dX12_goes_53 ?_
          exact ⟨rfl, _, hm, hl1, hp.bo, hs⟩
        · skip
          exact absurd q39 (by decide)
      · skip
        exact absurd q30 (by decide)
    · skip
      exact absurd q14 (by decide)
set_option maxHeartbeats 400000 in
set_option maxRecDepth 100000 in
theorem e_goes_no {b : Nat} {h : am_H} {σ : am_S} {n : Nat} {x y : Int32} (hn : σ.2.1 1 96 = nI n) (hn6 : n ≤ 6) (hx : ¬ (inN x n ∧ inN y 3)) (hm : Mo b h σ) : Ex 2 0 0 mX12_goes 0 (am_en [.ref b, .int x, .int y] 4) [] h (fun r h2 => r = some (.int (-1)) ∧ h2 = h) := by
  have hs : Same b h h := Same.rf
  refine ex_aload_n dX12_goes_0 rfl rfl ?_
  refine ex_iload_n dX12_goes_1 rfl ?_
  refine ex_callV0 (dc := 1) (as := [.int _]) dX12_goes_2 MX12_isHeap kX12_122 iX12_isHeap sX12_isHeap rfl rfl hm.1 rfl rfl (Nat.le_of_ble_eq_true rfl) (Nat.le_of_ble_eq_true rfl) (by first | decide | omega) (e_isHeap _ hn hn6 hm) (fun r h2 q => ?_)
  obtain ⟨rfl, rfl⟩ := q
  show Ex _ 0 0 _ _ _ (Value.int _ :: _) _ _
  refine ex_if_eqN 17 dX12_goes_5 (by decide) (by first | omega | exact bN_lt) (fun q5 => ?_) (fun q5 => ?_)
  · skip
    refine ex_iconstN (-1) dX12_goes_17 (by decide) ?_
    refine ex_iret rfl dX12_goes_18 ?_
    exact ⟨rfl, rfl⟩
  · skip
    refine ex_iload_n dX12_goes_8 rfl ?_
    refine ex_iconstN (nI 0) dX12_goes_9 (by decide) ?_
    refine ex_iconstN (nI 2) dX12_goes_10 (by decide) ?_
    refine ex_callS0 (dc := 0) (as := [.int _, .int _, .int _]) dX12_goes_11 MX12_lies kX12_102 tX12_lies rfl rfl (Nat.le_of_ble_eq_true rfl) (Nat.le_of_ble_eq_true rfl) (by first | decide | omega) (e_lies _ _ _ _) (fun r h2 q => ?_)
    obtain ⟨rfl, rfl⟩ := q
    show Ex _ 0 0 _ _ _ (Value.int _ :: _) _ _
    refine ex_if_neN 19 dX12_goes_14 (by decide) (by first | omega | exact bN_lt) (fun q14 => ?_) (fun q14 => ?_)
    · skip
      exact absurd ⟨bN_n.mp q5, (lies_in (n := 3) (by decide) (by decide)).mp (bN_n.mp q14)⟩ hx
    · skip
      refine ex_iconstN (-1) dX12_goes_17 (by decide) ?_
      refine ex_iret rfl dX12_goes_18 ?_
      exact ⟨rfl, rfl⟩
theorem cst_no {K : Nat → Int32} {p : Po} (h : cstv K p = true) : canv (trnv K p) p.2.1 = false ∧ canv (snkv K p) p.2.1 = false := by
  have hc2 := Bool.and_eq_true_iff.mp h
  exact stk_no (by simpa using hc2.1) (by simpa using hc2.2)
set_option maxHeartbeats 800000 in
set_option maxRecDepth 100000 in
theorem l_after {b : Nat} {h0 : am_H} {σ : am_S} {K : Nat → Int32} {m t i : Nat} {x1 : Value} {Q : Option Value → am_H → Prop} (hw : WK K) (ht : t ≤ 300) : ∀ (nn k : Nat) (p : Po) (h : am_H) (σ1 : am_S), k + nn = t → (∀ (k2 : Nat) (h2 : am_H) (σ2 : am_S), Mo b h2 σ2 → Lk FS [11, 13, 14] σ σ2 → Ps σ2 m → po σ2 m = aft K nn p → Same b h0 h2 → Ex 74 0 0 mX12_after 67 [.ref b, x1, .int (nI t), .int (nI i), .int (nI k2)] [] h2 Q) → Mo b h σ1 → Lk FS [11, 13, 14] σ σ1 → Ps σ1 m → σ1.2.1 1 = K → po σ1 m = p → p.2.1 = m → Same b h0 h → Ex 74 0 0 mX12_after 44 [.ref b, x1, .int (nI t), .int (nI i), .int (nI k)] [] h Q := by
  intro nn
  induction nn with
  | zero =>
    intro k p h σ1 hk hK hm hl hp eK eP eM hs
    refine ex_iload dX12_after_44 rfl ?_
    refine ex_iload_n dX12_after_46 rfl ?_
    refine ex_icmp_geN 67 dX12_after_47 (by decide) (by first | omega | exact bN_lt) (by first | omega | exact bN_lt) (fun q47 => ?_) (fun q47 => ?_)
    · skip
      exact hK _ _ _ hm hl hp eP hs
    · skip
      exact absurd q47 (by omega)
  | succ nn ih =>
    intro k p h σ1 hk hK hm hl hp eK eP eM hs
    refine ex_iload dX12_after_44 rfl ?_
    refine ex_iload_n dX12_after_46 rfl ?_
    refine ex_icmp_geN 67 dX12_after_47 (by decide) (by first | omega | exact bN_lt) (by first | omega | exact bN_lt) (fun q47 => ?_) (fun q47 => ?_)
    · skip
      exact absurd q47 (by omega)
    · skip
      refine ex_aload_n dX12_after_50 rfl rfl ?_
      refine ex_callV0 (dc := 73) (as := []) dX12_after_51 MX12_canStep kX12_350 iX12_canStep sX12_canStep rfl rfl hm.1 rfl rfl (Nat.le_of_ble_eq_true rfl) (Nat.le_of_ble_eq_true rfl) (by first | decide | omega) (e_canStep (by rw [eK]; exact hw) hp hm) (fun r h2 q => ?_)
      obtain ⟨rfl, σ2, hm, hk2, hp, hs2⟩ := q
      have hs := hs.tr hs2
      rw [eP, eK]
      have eP := (po_eq hk2).trans eP
      have eK := (kp_eq hk2).trans eK
      have hl := hl.tr (hk2.mono (F2 := FS) (R2 := [11, 13, 14]) (by decide) (by decide))
      show Ex _ 0 0 _ _ _ (Value.int _ :: _) _ _
      refine ex_if_eqN 67 dX12_after_54 (by decide) (by first | omega | exact bN_lt) (fun q54 => ?_) (fun q54 => ?_)
      · skip
        rw [show aft K (nn + 1) p = p from if_neg (fun z => Bool.false_ne_true ((bt.mp q54).symm.trans z))] at hK
        exact hK _ _ _ hm hl hp eP hs
      · skip
        refine ex_aload_n dX12_after_57 rfl rfl ?_
        refine ex_callV0 (dc := 72) (as := []) dX12_after_58 MX12_steps kX12_343 iX12_steps sX12_steps rfl rfl hm.1 rfl rfl (Nat.le_of_ble_eq_true rfl) (Nat.le_of_ble_eq_true rfl) (by first | decide | omega) (e_steps (by rw [eK]; exact hw) hp (by rw [eP, eK, ← eM]; exact (cst_no (bn.mp q54)).1) (by rw [eP, eK, ← eM]; exact (cst_no (bn.mp q54)).2) hm) (fun r h2 q => ?_)
        obtain ⟨rfl, σ4, hm, hk4, hp, eP4, hs2⟩ := q
        have hs := hs.tr hs2
        rw [eP, eK] at eP4
        have eK4 := (wk_eq hk4 (by decide)).trans eK
        have hl := hl.tr hk4
        show Ex _ 0 0 _ _ _ _ _ _
        refine ex_iincN 1 dX12_after_61 (by decide) rfl (by decide) ?_
        refine ex_goto 44 dX12_after_64 (by decide) ?_
        rw [show aft K (nn + 1) p = aft K nn (stp K p) from if_pos (bn.mp q54)] at hK
        exact ih (k + 1) _ _ _ (by omega) hK hm hl hp eK4 eP4 eM hs
set_option maxHeartbeats 400000 in
set_option maxRecDepth 100000 in
theorem e_after {b : Nat} {h : am_H} {σ : am_S} {n j m : Nat} (hn : σ.2.1 1 96 = nI n) (hn6 : n ≤ 6) (hj : j < n) (hmj : σ.2.1 1 (16 * j) = nI m) (hm1 : 1 ≤ m) (hm13 : m ≤ 13) (hw : WK (σ.2.1 1)) (hb : Bo σ) {t i : Nat} (ht : t ≤ 300) (hi : i < m) (hm : Mo b h σ) : Ex 74 0 0 mX12_after 0 (am_en [.ref b, .int (nI j), .int (nI t), .int (nI i)] 5) [] h (fun r h2 => r = some (.int ((aft (σ.2.1 1) t (hpo (σ.2.1 1) j m)).1 i)) ∧ ∃ σ2, Mo b h2 σ2 ∧ Lk FX RX σ σ2 ∧ Bo σ2 ∧ Same b h h2) := by
  have hs : Same b h h := Same.rf
  refine ex_aload_n dX12_after_0 rfl rfl ?_
  refine ex_iload_n dX12_after_1 rfl ?_
  refine ex_callV0 (dc := 1) (as := [.int _]) dX12_after_2 MX12_isHeap kX12_122 iX12_isHeap sX12_isHeap rfl rfl hm.1 rfl rfl (Nat.le_of_ble_eq_true rfl) (Nat.le_of_ble_eq_true rfl) (by first | decide | omega) (e_isHeap _ hn hn6 hm) (fun r h2 q => ?_)
  obtain ⟨rfl, rfl⟩ := q
  show Ex _ 0 0 _ _ _ (Value.int _ :: _) _ _
  rw [bN_t ⟨by rw [nI_toInt (by omega)]; omega, by rw [nI_toInt (by omega)]; omega⟩]
  refine ex_if_eqN 34 dX12_after_5 (by decide) (by first | omega | exact bN_lt) (fun q5 => ?_) (fun q5 => ?_)
  · skip
    exact absurd q5 (by decide)
  · skip
    refine ex_iload_n dX12_after_8 rfl ?_
    refine ex_iconstN (nI 0) dX12_after_9 (by decide) ?_
    refine ex_sipushN (nI 300) dX12_after_10 (by decide) ?_
    refine ex_callS0 (dc := 0) (as := [.int _, .int _, .int _]) dX12_after_13 MX12_lies kX12_102 tX12_lies rfl rfl (Nat.le_of_ble_eq_true rfl) (Nat.le_of_ble_eq_true rfl) (by first | decide | omega) (e_lies _ _ _ _) (fun r h2 q => ?_)
    obtain ⟨rfl, rfl⟩ := q
    show Ex _ 0 0 _ _ _ (Value.int _ :: _) _ _
    rw [bN_t (lies_t (by omega) (by omega) (by omega))]
    refine ex_if_eqN 34 dX12_after_16 (by decide) (by first | omega | exact bN_lt) (fun q16 => ?_) (fun q16 => ?_)
    · skip
      exact absurd q16 (by decide)
    · skip
      refine ex_iload_n dX12_after_19 rfl ?_
      refine ex_iconstN (nI 0) dX12_after_20 (by decide) ?_
      refine ex_aload_n dX12_after_21 rfl rfl ?_
      refine ex_iload_n dX12_after_22 rfl ?_
      refine ex_callV0 (dc := 1) (as := [.int _]) dX12_after_23 MX12_manyIn kX12_316 iX12_manyIn sX12_manyIn rfl rfl hm.1 rfl rfl (Nat.le_of_ble_eq_true rfl) (Nat.le_of_ble_eq_true rfl) (by first | decide | omega) (e_manyIn _ (by omega) hm) (fun r h2 q => ?_)
      obtain ⟨rfl, rfl⟩ := q
      show Ex _ 0 0 _ _ _ (Value.int _ :: _) _ _
      rw [hmj]
      refine ex_iconstN (nI 1) dX12_after_26 (by decide) ?_
      refine ex_isubN dX12_after_27 (by first | omega | exact bN_lt) ?_
      refine ex_callS0 (dc := 0) (as := [.int _, .int _, .int _]) dX12_after_28 MX12_lies kX12_102 tX12_lies rfl rfl (Nat.le_of_ble_eq_true rfl) (Nat.le_of_ble_eq_true rfl) (by first | decide | omega) (e_lies _ _ _ _) (fun r h2 q => ?_)
      obtain ⟨rfl, rfl⟩ := q
      show Ex _ 0 0 _ _ _ (Value.int _ :: _) _ _
      rw [bN_t (lies_t (by omega) (by omega) (by omega))]
      refine ex_if_neN 36 dX12_after_31 (by decide) (by first | omega | exact bN_lt) (fun q31 => ?_) (fun q31 => ?_)
      · skip
        refine ex_aload_n dX12_after_36 rfl rfl ?_
        refine ex_iload_n dX12_after_37 rfl ?_
        refine ex_callV0 (dc := 2) (as := [.int _]) dX12_after_38 MX12_takes kX12_126 iX12_takes sX12_takes rfl rfl hm.1 rfl rfl (Nat.le_of_ble_eq_true rfl) (Nat.le_of_ble_eq_true rfl) (by first | decide | omega) (e_takes2 (by omega) hmj hm1 hm13 hb hm) (fun r h2 q => ?_)
        obtain ⟨rfl, σ1, hm, hl1, hp, eq1, hs2⟩ := q
        have hs := hs.tr hs2
        have eK1 : σ1.2.1 1 = σ.2.1 1 := hl1.2.1 1 (by decide)
        show Ex _ 0 0 _ _ _ _ _ _
        refine ex_iconstN (nI 0) dX12_after_41 (by decide) ?_
        refine ex_istore dX12_after_42 (by decide) ?_
        refine l_after (K := σ.2.1 1) (σ := σ1) hw ht t 0 _ _ _ (by omega) (fun k2 h2 σ2 hm hl2 hp2 eP2 hs => ?_) hm Lk.rf hp eK1 rfl rfl hs
        refine ex_aload_n dX12_after_67 rfl rfl ?_
        refine ex_getf fX12_65 dX12_after_68 hm.1 rfl ?_
        refine ex_iload_n dX12_after_71 rfl ?_
        refine m_aldv hm dX12_after_72 (by decide) (by decide) rfl (by show _ < 13; first | omega | exact bN_lt) ((show σ2.2.1 13 i = (aft (σ.2.1 1) t (hpo (σ.2.1 1) j m)).1 i by rw [← (aft_q t eq1).1 i (by omega), ← eP2]; rfl)) ?_
        refine ex_iret rfl dX12_after_73 ?_
        exact ⟨rfl, _, hm, (hl1.mono (by decide) (by decide)).tr (hl2.mono (by decide) (by decide)), hp2.bo, hs⟩
      · skip
        exact absurd q31 (by decide)
set_option maxHeartbeats 400000 in
set_option maxRecDepth 100000 in
theorem e_after_noheap {b : Nat} {h : am_H} {σ : am_S} {n : Nat} {x y z : Int32} (hn : σ.2.1 1 96 = nI n) (hn6 : n ≤ 6) (hx : ¬ inN x n) (hm : Mo b h σ) : Ex 2 0 0 mX12_after 0 (am_en [.ref b, .int x, .int y, .int z] 5) [] h (fun r h2 => r = some (.int (-1)) ∧ h2 = h) := by
  have hs : Same b h h := Same.rf
  refine ex_aload_n dX12_after_0 rfl rfl ?_
  refine ex_iload_n dX12_after_1 rfl ?_
  refine ex_callV0 (dc := 1) (as := [.int _]) dX12_after_2 MX12_isHeap kX12_122 iX12_isHeap sX12_isHeap rfl rfl hm.1 rfl rfl (Nat.le_of_ble_eq_true rfl) (Nat.le_of_ble_eq_true rfl) (by first | decide | omega) (e_isHeap _ hn hn6 hm) (fun r h2 q => ?_)
  obtain ⟨rfl, rfl⟩ := q
  show Ex _ 0 0 _ _ _ (Value.int _ :: _) _ _
  rw [bN_f hx]
  refine ex_if_eqN 34 dX12_after_5 (by decide) (by omega) (fun q5 => ?_) (fun q5 => ?_)
  · skip
    refine ex_iconstN (-1) dX12_after_34 (by decide) ?_
    refine ex_iret rfl dX12_after_35 ?_
    exact ⟨rfl, rfl⟩
  · skip
    exact absurd rfl q5
set_option maxHeartbeats 400000 in
set_option maxRecDepth 100000 in
theorem e_after_no {b : Nat} {h : am_H} {σ : am_S} {n j m : Nat} (hn : σ.2.1 1 96 = nI n) (hn6 : n ≤ 6) (hj : j < n) (hmj : σ.2.1 1 (16 * j) = nI m) (hm1 : 1 ≤ m) (hm13 : m ≤ 13) {y z : Int32} (hx : ¬ (inN y 301 ∧ inN z m)) (hm : Mo b h σ) : Ex 2 0 0 mX12_after 0 (am_en [.ref b, .int (nI j), .int y, .int z] 5) [] h (fun r h2 => r = some (.int (-1)) ∧ h2 = h) := by
  have hs : Same b h h := Same.rf
  refine ex_aload_n dX12_after_0 rfl rfl ?_
  refine ex_iload_n dX12_after_1 rfl ?_
  refine ex_callV0 (dc := 1) (as := [.int _]) dX12_after_2 MX12_isHeap kX12_122 iX12_isHeap sX12_isHeap rfl rfl hm.1 rfl rfl (Nat.le_of_ble_eq_true rfl) (Nat.le_of_ble_eq_true rfl) (by first | decide | omega) (e_isHeap _ hn hn6 hm) (fun r h2 q => ?_)
  obtain ⟨rfl, rfl⟩ := q
  show Ex _ 0 0 _ _ _ (Value.int _ :: _) _ _
  rw [bN_t ⟨by rw [nI_toInt (by omega)]; omega, by rw [nI_toInt (by omega)]; omega⟩]
  refine ex_if_eqN 34 dX12_after_5 (by decide) (by first | omega | exact bN_lt) (fun q5 => ?_) (fun q5 => ?_)
  · skip
    exact absurd q5 (by decide)
  · skip
    refine ex_iload_n dX12_after_8 rfl ?_
    refine ex_iconstN (nI 0) dX12_after_9 (by decide) ?_
    refine ex_sipushN (nI 300) dX12_after_10 (by decide) ?_
    refine ex_callS0 (dc := 0) (as := [.int _, .int _, .int _]) dX12_after_13 MX12_lies kX12_102 tX12_lies rfl rfl (Nat.le_of_ble_eq_true rfl) (Nat.le_of_ble_eq_true rfl) (by first | decide | omega) (e_lies _ _ _ _) (fun r h2 q => ?_)
    obtain ⟨rfl, rfl⟩ := q
    show Ex _ 0 0 _ _ _ (Value.int _ :: _) _ _
    refine ex_if_eqN 34 dX12_after_16 (by decide) (by first | omega | exact bN_lt) (fun q16 => ?_) (fun q16 => ?_)
    · skip
      refine ex_iconstN (-1) dX12_after_34 (by decide) ?_
      refine ex_iret rfl dX12_after_35 ?_
      exact ⟨rfl, rfl⟩
    · skip
      refine ex_iload_n dX12_after_19 rfl ?_
      refine ex_iconstN (nI 0) dX12_after_20 (by decide) ?_
      refine ex_aload_n dX12_after_21 rfl rfl ?_
      refine ex_iload_n dX12_after_22 rfl ?_
      refine ex_callV0 (dc := 1) (as := [.int _]) dX12_after_23 MX12_manyIn kX12_316 iX12_manyIn sX12_manyIn rfl rfl hm.1 rfl rfl (Nat.le_of_ble_eq_true rfl) (Nat.le_of_ble_eq_true rfl) (by first | decide | omega) (e_manyIn _ (by omega) hm) (fun r h2 q => ?_)
      obtain ⟨rfl, rfl⟩ := q
      show Ex _ 0 0 _ _ _ (Value.int _ :: _) _ _
      rw [hmj]
      refine ex_iconstN (nI 1) dX12_after_26 (by decide) ?_
      refine ex_isubN dX12_after_27 (by first | omega | exact bN_lt) ?_
      refine ex_callS0 (dc := 0) (as := [.int _, .int _, .int _]) dX12_after_28 MX12_lies kX12_102 tX12_lies rfl rfl (Nat.le_of_ble_eq_true rfl) (Nat.le_of_ble_eq_true rfl) (by first | decide | omega) (e_lies _ _ _ _) (fun r h2 q => ?_)
      obtain ⟨rfl, rfl⟩ := q
      show Ex _ 0 0 _ _ _ (Value.int _ :: _) _ _
      refine ex_if_neN 36 dX12_after_31 (by decide) (by first | omega | exact bN_lt) (fun q31 => ?_) (fun q31 => ?_)
      · skip
        exact absurd ⟨(lies_in (n := 301) (by decide) (by decide)).mp (bN_n.mp q16), (lies_in hm1 (by omega)).mp (bN_n.mp q31)⟩ hx
      · skip
        refine ex_iconstN (-1) dX12_after_34 (by decide) ?_
        refine ex_iret rfl dX12_after_35 ?_
        exact ⟨rfl, rfl⟩
def rcv (x y : Int32) : Int32 := if x = y then (if x = -1 then -1 else nI 2) else if x = -1 then nI 1 else if y = -1 then nI 0 else if x < y then nI 0 else nI 1
set_option maxHeartbeats 400000 in
set_option maxRecDepth 100000 in
theorem e_race {b : Nat} {h : am_H} {σ : am_S} {n j m : Nat} (hn : σ.2.1 1 96 = nI n) (hn6 : n ≤ 6) (hj : j < n) (hmj : σ.2.1 1 (16 * j) = nI m) (hm1 : 1 ≤ m) (hm13 : m ≤ 13) (hw : WK (σ.2.1 1)) (hb : Bo σ) {L : Nat} (hL : σ.2.1 1 114 = nI L) (hL3 : L ≤ 300) {i m2 : Nat} (hi : i < n) (hmi : σ.2.1 1 (16 * i) = nI m2) (hi1 : 1 ≤ m2) (hi13 : m2 ≤ 13) (hm : Mo b h σ) : Ex 74 0 0 mX12_race 0 (am_en [.ref b, .int (nI j), .int (nI i)] 5) [] h (fun r h2 => r = some (.int (rcv (oN (ebv (σ.2.1 1) L 0 (hpo (σ.2.1 1) j m)).1) (oN (ebv (σ.2.1 1) L 0 (hpo (σ.2.1 1) i m2)).1))) ∧ ∃ σ2, Mo b h2 σ2 ∧ Lk FX RX σ σ2 ∧ Bo σ2 ∧ Same b h h2) := by
  have hs : Same b h h := Same.rf
  refine ex_aload_n dX12_race_0 rfl rfl ?_
  refine ex_iload_n dX12_race_1 rfl ?_
  refine ex_callV0 (dc := 1) (as := [.int _]) dX12_race_2 MX12_isHeap kX12_122 iX12_isHeap sX12_isHeap rfl rfl hm.1 rfl rfl (Nat.le_of_ble_eq_true rfl) (Nat.le_of_ble_eq_true rfl) (by first | decide | omega) (e_isHeap _ hn hn6 hm) (fun r h2 q => ?_)
  obtain ⟨rfl, rfl⟩ := q
  show Ex _ 0 0 _ _ _ (Value.int _ :: _) _ _
  rw [bN_t ⟨by rw [nI_toInt (by omega)]; omega, by rw [nI_toInt (by omega)]; omega⟩]
  refine ex_if_eqN 16 dX12_race_5 (by decide) (by first | omega | exact bN_lt) (fun q5 => ?_) (fun q5 => ?_)
  · skip
    exact absurd q5 (by decide)
  · skip
    refine ex_aload_n dX12_race_8 rfl rfl ?_
    refine ex_iload_n dX12_race_9 rfl ?_
    refine ex_callV0 (dc := 1) (as := [.int _]) dX12_race_10 MX12_isHeap kX12_122 iX12_isHeap sX12_isHeap rfl rfl hm.1 rfl rfl (Nat.le_of_ble_eq_true rfl) (Nat.le_of_ble_eq_true rfl) (by first | decide | omega) (e_isHeap _ hn hn6 hm) (fun r h2 q => ?_)
    obtain ⟨rfl, rfl⟩ := q
    show Ex _ 0 0 _ _ _ (Value.int _ :: _) _ _
    rw [bN_t ⟨by rw [nI_toInt (by omega)]; omega, by rw [nI_toInt (by omega)]; omega⟩]
    refine ex_if_neN 18 dX12_race_13 (by decide) (by first | omega | exact bN_lt) (fun q13 => ?_) (fun q13 => ?_)
    · skip
      refine ex_aload_n dX12_race_18 rfl rfl ?_
      refine ex_iload_n dX12_race_19 rfl ?_
      refine ex_callV0 (dc := 2) (as := [.int _]) dX12_race_20 MX12_takes kX12_126 iX12_takes sX12_takes rfl rfl hm.1 rfl rfl (Nat.le_of_ble_eq_true rfl) (Nat.le_of_ble_eq_true rfl) (by first | decide | omega) (e_takes2 (by omega) hmj hm1 hm13 hb hm) (fun r h2 q => ?_)
      obtain ⟨rfl, σ1, hm, hl1, hp, eq1, hs2⟩ := q
      have hs := hs.tr hs2
      have eK1 : σ1.2.1 1 = σ.2.1 1 := hl1.2.1 1 (by decide)
      show Ex _ 0 0 _ _ _ _ _ _
      refine ex_aload_n dX12_race_23 rfl rfl ?_
      refine ex_callV0 (dc := 73) (as := []) dX12_race_24 MX12_endsBehind kX12_353 iX12_endsBehind sX12_endsBehind rfl rfl hm.1 rfl rfl (Nat.le_of_ble_eq_true rfl) (Nat.le_of_ble_eq_true rfl) (by first | decide | omega) (e_endsBehind (by rw [eK1]; exact hw) (by rw [eK1]; exact hL) hL3 hp hm) (fun r h2 q => ?_)
      obtain ⟨rfl, σ2, hm, hl2, hp, -, hs2⟩ := q
      have hs := hs.tr hs2
      rw [eK1, (ebv_q _ _ eq1).1]
      have eK2 : σ2.2.1 1 = σ.2.1 1 := (wk_eq hl2 (by decide)).trans eK1
      have hl : Lk FX RX σ σ2 := (hl1.mono (by decide) (by decide)).tr (hl2.mono (by decide) (by decide))
      show Ex _ 0 0 _ _ _ (Value.int _ :: _) _ _
      refine ex_istore_n dX12_race_27 (by decide) ?_
      refine ex_aload_n dX12_race_28 rfl rfl ?_
      refine ex_iload_n dX12_race_29 rfl ?_
      refine ex_callV0 (dc := 2) (as := [.int _]) dX12_race_30 MX12_takes kX12_126 iX12_takes sX12_takes rfl rfl hm.1 rfl rfl (Nat.le_of_ble_eq_true rfl) (Nat.le_of_ble_eq_true rfl) (by first | decide | omega) (e_takes2 (m := m2) (by omega) ((congrFun eK2 _).trans hmi) hi1 hi13 hp.bo hm) (fun r h2 q => ?_)
      obtain ⟨rfl, σ3, hm, hl3, hp, eq3, hs2⟩ := q
      have hs := hs.tr hs2
      rw [eK2] at eq3
      have eK3 : σ3.2.1 1 = σ.2.1 1 := (hl3.2.1 1 (by decide)).trans eK2
      show Ex _ 0 0 _ _ _ _ _ _
      refine ex_aload_n dX12_race_33 rfl rfl ?_
      refine ex_callV0 (dc := 73) (as := []) dX12_race_34 MX12_endsBehind kX12_353 iX12_endsBehind sX12_endsBehind rfl rfl hm.1 rfl rfl (Nat.le_of_ble_eq_true rfl) (Nat.le_of_ble_eq_true rfl) (by first | decide | omega) (e_endsBehind (by rw [eK3]; exact hw) (by rw [eK3]; exact hL) hL3 hp hm) (fun r h2 q => ?_)
      obtain ⟨rfl, σ4, hm, hl4, hp, -, hs2⟩ := q
      have hs := hs.tr hs2
      rw [eK3, (ebv_q _ _ eq3).1]
      have hl : Lk FX RX σ σ4 := hl.tr ((hl3.mono (by decide) (by decide)).tr (hl4.mono (by decide) (by decide)))
      show Ex _ 0 0 _ _ _ (Value.int _ :: _) _ _
      refine ex_istore dX12_race_37 (by decide) ?_
      refine ex_iload_n dX12_race_39 rfl ?_
      refine ex_iload dX12_race_40 rfl ?_
      refine ex_icmp_ne 56 dX12_race_42 (by decide) (fun q42 => ?_) (fun q42 => ?_)
      · skip
        refine ex_iload_n dX12_race_56 rfl ?_
        refine ex_iconstN (-1) dX12_race_57 (by decide) ?_
        refine ex_icmp_ne 63 dX12_race_58 (by decide) (fun q58 => ?_) (fun q58 => ?_)
        · skip
          refine ex_iload dX12_race_63 rfl ?_
          refine ex_iconstN (-1) dX12_race_65 (by decide) ?_
          refine ex_icmp_ne 71 dX12_race_66 (by decide) (fun q66 => ?_) (fun q66 => ?_)
          · skip
            refine ex_iload_n dX12_race_71 rfl ?_
            refine ex_iload dX12_race_72 rfl ?_
            refine ex_icmp_ge 81 dX12_race_74 (by decide) (fun q74 => ?_) (fun q74 => ?_)
            · skip
              refine ex_iconstN (nI 1) dX12_race_81 (by decide) ?_
              refine ex_iret rfl dX12_race_82 ?_
              exact ⟨by rw [show rcv (oN (ebv (σ.2.1 1) L 0 (hpo (σ.2.1 1) j m)).1) (oN (ebv (σ.2.1 1) L 0 (hpo (σ.2.1 1) i m2)).1) = _ from (if_neg q42).trans ((if_neg q58).trans ((if_neg q66).trans (if_neg (Int32.not_lt.mpr q74))))], _, hm, hl, hp.bo, hs⟩
            · skip
              refine ex_iconstN (nI 0) dX12_race_77 (by decide) ?_
              refine ex_goto 82 dX12_race_78 (by decide) ?_
              refine ex_iret rfl dX12_race_82 ?_
              exact ⟨by rw [show rcv (oN (ebv (σ.2.1 1) L 0 (hpo (σ.2.1 1) j m)).1) (oN (ebv (σ.2.1 1) L 0 (hpo (σ.2.1 1) i m2)).1) = _ from (if_neg q42).trans ((if_neg q58).trans ((if_neg q66).trans (if_pos (Int32.not_le.mp q74))))], _, hm, hl, hp.bo, hs⟩
          · skip
            refine ex_iconstN (nI 0) dX12_race_69 (by decide) ?_
            refine ex_iret rfl dX12_race_70 ?_
            exact ⟨by rw [show rcv (oN (ebv (σ.2.1 1) L 0 (hpo (σ.2.1 1) j m)).1) (oN (ebv (σ.2.1 1) L 0 (hpo (σ.2.1 1) i m2)).1) = _ from (if_neg q42).trans ((if_neg q58).trans (if_pos q66))], _, hm, hl, hp.bo, hs⟩
        · skip
          refine ex_iconstN (nI 1) dX12_race_61 (by decide) ?_
          refine ex_iret rfl dX12_race_62 ?_
          exact ⟨by rw [show rcv (oN (ebv (σ.2.1 1) L 0 (hpo (σ.2.1 1) j m)).1) (oN (ebv (σ.2.1 1) L 0 (hpo (σ.2.1 1) i m2)).1) = _ from (if_neg q42).trans (if_pos q58)], _, hm, hl, hp.bo, hs⟩
      · skip
        refine ex_iload_n dX12_race_45 rfl ?_
        refine ex_iconstN (-1) dX12_race_46 (by decide) ?_
        refine ex_icmp_ne 54 dX12_race_47 (by decide) (fun q47 => ?_) (fun q47 => ?_)
        · skip
          refine ex_iconstN (nI 2) dX12_race_54 (by decide) ?_
          refine ex_iret rfl dX12_race_55 ?_
          exact ⟨by rw [show rcv (oN (ebv (σ.2.1 1) L 0 (hpo (σ.2.1 1) j m)).1) (oN (ebv (σ.2.1 1) L 0 (hpo (σ.2.1 1) i m2)).1) = _ from (if_pos q42).trans (if_neg q47)], _, hm, hl, hp.bo, hs⟩
        · skip
          refine ex_iconstN (-1) dX12_race_50 (by decide) ?_
          refine ex_goto 55 dX12_race_51 (by decide) ?_
          refine ex_iret rfl dX12_race_55 ?_
          exact ⟨by rw [show rcv (oN (ebv (σ.2.1 1) L 0 (hpo (σ.2.1 1) j m)).1) (oN (ebv (σ.2.1 1) L 0 (hpo (σ.2.1 1) i m2)).1) = _ from (if_pos q42).trans (if_pos q47)], _, hm, hl, hp.bo, hs⟩
    · skip
      exact absurd q13 (by decide)
set_option maxHeartbeats 400000 in
set_option maxRecDepth 100000 in
theorem e_race_no {b : Nat} {h : am_H} {σ : am_S} {n : Nat} {x y : Int32} (hn : σ.2.1 1 96 = nI n) (hn6 : n ≤ 6) (hx : ¬ (inN x n ∧ inN y n)) (hm : Mo b h σ) : Ex 2 0 0 mX12_race 0 (am_en [.ref b, .int x, .int y] 5) [] h (fun r h2 => r = some (.int (-1)) ∧ h2 = h) := by
  have hs : Same b h h := Same.rf
  refine ex_aload_n dX12_race_0 rfl rfl ?_
  refine ex_iload_n dX12_race_1 rfl ?_
  refine ex_callV0 (dc := 1) (as := [.int _]) dX12_race_2 MX12_isHeap kX12_122 iX12_isHeap sX12_isHeap rfl rfl hm.1 rfl rfl (Nat.le_of_ble_eq_true rfl) (Nat.le_of_ble_eq_true rfl) (by first | decide | omega) (e_isHeap _ hn hn6 hm) (fun r h2 q => ?_)
  obtain ⟨rfl, rfl⟩ := q
  show Ex _ 0 0 _ _ _ (Value.int _ :: _) _ _
  refine ex_if_eqN 16 dX12_race_5 (by decide) (by first | omega | exact bN_lt) (fun q5 => ?_) (fun q5 => ?_)
  · skip
    refine ex_iconstN (-1) dX12_race_16 (by decide) ?_
    refine ex_iret rfl dX12_race_17 ?_
    exact ⟨rfl, rfl⟩
  · skip
    refine ex_aload_n dX12_race_8 rfl rfl ?_
    refine ex_iload_n dX12_race_9 rfl ?_
    refine ex_callV0 (dc := 1) (as := [.int _]) dX12_race_10 MX12_isHeap kX12_122 iX12_isHeap sX12_isHeap rfl rfl hm.1 rfl rfl (Nat.le_of_ble_eq_true rfl) (Nat.le_of_ble_eq_true rfl) (by first | decide | omega) (e_isHeap _ hn hn6 hm) (fun r h2 q => ?_)
    obtain ⟨rfl, rfl⟩ := q
    show Ex _ 0 0 _ _ _ (Value.int _ :: _) _ _
    refine ex_if_neN 18 dX12_race_13 (by decide) (by first | omega | exact bN_lt) (fun q13 => ?_) (fun q13 => ?_)
    · skip
      exact absurd ⟨bN_n.mp q5, bN_n.mp q13⟩ hx
    · skip
      refine ex_iconstN (-1) dX12_race_16 (by decide) ?_
      refine ex_iret rfl dX12_race_17 ?_
      exact ⟨rfl, rfl⟩
