/-! THE REFERENCE: cuts, heaps made, counts, draws -/
def tks (σ : am_S) (j : Nat) : am_S := (upd (upd (upd σ.1 31 (σ.2.1 1 (16 * j))) 32 (σ.2.1 1 (16 * j + 2))) 33 (nI j), rs σ.2.1 13 (fill (σ.2.1 13) 0 13 (fun i => σ.2.1 1 (16 * j + 3 + i))), σ.2.2)
def snk (σ : am_S) (m p : Nat) : am_S := (σ.1, rs (rs σ.2.1 14 (fill (σ.2.1 14) 0 m (fun i => σ.2.1 13 ((i + p) % m)))) 13 (fill (σ.2.1 13) 0 m (fill (σ.2.1 14) 0 m (fun i => σ.2.1 13 ((i + p) % m)))), σ.2.2)
def trn (σ : am_S) (m : Nat) : am_S := (σ.1, rs σ.2.1 13 (rv (σ.2.1 13) m), σ.2.2)
def pts (σ : am_S) (j : Nat) : am_S := (σ.1, rs σ.2.1 1 (upd (fill (σ.2.1 1) (16 * j + 3) 13 (σ.2.1 13)) (16 * j + 2) (σ.1 32)), σ.2.2)
set_option maxHeartbeats 4000000 in
set_option maxRecDepth 100000 in
theorem e_cutsKept {b : Nat} {h : am_H} {σ : am_S} {n j u : Nat} (hn : σ.2.1 1 96 = nI n) (hn6 : n ≤ 6) (hj : j < n) {m p : Nat} (hmj : (σ.2.1 1) (16 * j) = nI m) (hm13 : m ≤ 13) (hp1 : 1 ≤ p) (hp : p ≤ m) (hu : u ≤ 16) (h39 : σ.1 39 = nI u) (hm : Mo b h σ) : Ex 3 0 0 mX12_cutsKept 0 (am_en [.ref b, .int (nI j), .int (nI p)] 3) [] h (fun r h2 => r = some (.int ((pts (snk (tks (kps σ u (nI 2)) j) m p) j).2.1 13 0)) ∧ Mo b h2 (pts (snk (tks (kps σ u (nI 2)) j) m p) j) ∧ Same b h h2) := by
  have hs : Same b h h := Same.rf
  refine ex_aload_n dX12_cutsKept_0 rfl rfl ?_
  refine ex_iload_n dX12_cutsKept_1 rfl ?_
  refine ex_callV0 (dc := 1) (as := [.int _]) dX12_cutsKept_2 MX12_isHeap kX12_122 iX12_isHeap sX12_isHeap rfl rfl hm.1 rfl rfl (Nat.le_of_ble_eq_true rfl) (Nat.le_of_ble_eq_true rfl) (by decide) (e_isHeap _ hn hn6 hm) (fun r h2 q => ?_)
  obtain ⟨rfl, rfl⟩ := q
  show Ex _ 0 0 _ _ _ (Value.int _ :: _) _ _
  rw [bN_t ⟨by rw [nI_toInt (by omega)]; omega, by rw [nI_toInt (by omega)]; omega⟩]
  refine ex_if_neN 11 dX12_cutsKept_5 (by decide) (by omega) (fun q5 => ?_) (fun q5 => ?_)
  · skip
    refine ex_iload_n dX12_cutsKept_11 rfl ?_
    refine ex_iconstN (nI 1) dX12_cutsKept_12 (by decide) ?_
    refine ex_aload_n dX12_cutsKept_13 rfl rfl ?_
    refine ex_iload_n dX12_cutsKept_14 rfl ?_
    refine ex_callV0 (dc := 1) (as := [.int _]) dX12_cutsKept_15 MX12_manyIn kX12_316 iX12_manyIn sX12_manyIn rfl rfl hm.1 rfl rfl (Nat.le_of_ble_eq_true rfl) (Nat.le_of_ble_eq_true rfl) (by decide) (e_manyIn _ (by omega) hm) (fun r h2 q => ?_)
    obtain ⟨rfl, rfl⟩ := q
    show Ex _ 0 0 _ _ _ (Value.int _ :: _) _ _
    rw [hmj]
    refine ex_callS0 (dc := 0) (as := [.int _, .int _, .int _]) dX12_cutsKept_18 MX12_lies kX12_102 tX12_lies rfl rfl (Nat.le_of_ble_eq_true rfl) (Nat.le_of_ble_eq_true rfl) (by decide) (e_lies _ _ _ _) (fun r h2 q => ?_)
    obtain ⟨rfl, rfl⟩ := q
    show Ex _ 0 0 _ _ _ (Value.int _ :: _) _ _
    rw [bN_t (lies_t (by omega) (by omega) (by omega))]
    refine ex_if_neN 26 dX12_cutsKept_21 (by decide) (by omega) (fun q21 => ?_) (fun q21 => ?_)
    · skip
      refine ex_aload_n dX12_cutsKept_26 rfl rfl ?_
      refine ex_iconstN (nI 2) dX12_cutsKept_27 (by decide) ?_
      refine ex_callV0 (dc := 0) (as := [.int _]) dX12_cutsKept_28 MX12_keeps kX12_356 iX12_keeps sX12_keeps rfl rfl hm.1 rfl rfl (Nat.le_of_ble_eq_true rfl) (Nat.le_of_ble_eq_true rfl) (by decide) (e_keeps2 _ hu h39 hm) (fun r h2 q => ?_)
      obtain ⟨rfl, hm, hs2⟩ := q
      have hs := hs.tr hs2
      show Ex _ 0 0 _ _ _ _ _ _
      refine ex_aload_n dX12_cutsKept_31 rfl rfl ?_
      refine ex_iload_n dX12_cutsKept_32 rfl ?_
      refine ex_callV0 (dc := 2) (as := [.int _]) dX12_cutsKept_33 MX12_takes kX12_126 iX12_takes sX12_takes rfl rfl hm.1 rfl rfl (Nat.le_of_ble_eq_true rfl) (Nat.le_of_ble_eq_true rfl) (by decide) ((e_takes _ (by omega) hm : Ex _ _ _ _ _ _ _ _ (fun r h2 => r = none ∧ Mo b h2 (tks _ _) ∧ Same b _ h2))) (fun r h2 q => ?_)
      obtain ⟨rfl, hm, hs2⟩ := q
      have hs := hs.tr hs2
      show Ex _ 0 0 _ _ _ _ _ _
      refine ex_aload_n dX12_cutsKept_36 rfl rfl ?_
      refine ex_iload_n dX12_cutsKept_37 rfl ?_
      refine ex_callV0 (dc := 0) (as := [.int _]) dX12_cutsKept_38 MX12_sinks kX12_330 iX12_sinks sX12_sinks rfl rfl hm.1 rfl rfl (Nat.le_of_ble_eq_true rfl) (Nat.le_of_ble_eq_true rfl) (by decide) ((e_sinks _ _ hmj (by omega) (by omega) hm : Ex _ _ _ _ _ _ _ _ (fun r h2 => r = none ∧ Mo b h2 (snk _ _ _) ∧ Same b _ h2))) (fun r h2 q => ?_)
      obtain ⟨rfl, hm, hs2⟩ := q
      have hs := hs.tr hs2
      show Ex _ 0 0 _ _ _ _ _ _
      refine ex_aload_n dX12_cutsKept_41 rfl rfl ?_
      refine ex_iload_n dX12_cutsKept_42 rfl ?_
      refine ex_callV0 (dc := 1) (as := [.int _]) dX12_cutsKept_43 MX12_puts kX12_359 iX12_puts sX12_puts rfl rfl hm.1 rfl rfl (Nat.le_of_ble_eq_true rfl) (Nat.le_of_ble_eq_true rfl) (by decide) ((e_puts _ (by omega) hm : Ex _ _ _ _ _ _ _ _ (fun r h2 => r = none ∧ Mo b h2 (pts _ _) ∧ Same b _ h2))) (fun r h2 q => ?_)
      obtain ⟨rfl, hm, hs2⟩ := q
      have hs := hs.tr hs2
      show Ex _ 0 0 _ _ _ _ _ _
      refine ex_aload_n dX12_cutsKept_46 rfl rfl ?_
      refine ex_getf fX12_65 dX12_cutsKept_47 hm.1 rfl ?_
      refine ex_iconstN (nI 0) dX12_cutsKept_50 (by decide) ?_
      refine m_ald hm dX12_cutsKept_51 (by decide) (by decide) rfl (by show _ < 13; omega) ?_
      refine ex_iret rfl dX12_cutsKept_52 ?_
      exact ⟨rfl, hm, hs⟩
    · skip
      exact absurd q21 (by decide)
  · skip
    exact absurd q5 (by decide)
set_option maxHeartbeats 4000000 in
set_option maxRecDepth 100000 in
theorem e_cutsKept_noheap {b : Nat} {h : am_H} {σ : am_S} {n : Nat} {x y : Int32} (hn : σ.2.1 1 96 = nI n) (hn6 : n ≤ 6) (hx : ¬ inN x n) (hm : Mo b h σ) : Ex 2 0 0 mX12_cutsKept 0 (am_en [.ref b, .int x, .int y] 3) [] h (fun r h2 => r = some (.int (-2)) ∧ h2 = h) := by
  have hs : Same b h h := Same.rf
  refine ex_aload_n dX12_cutsKept_0 rfl rfl ?_
  refine ex_iload_n dX12_cutsKept_1 rfl ?_
  refine ex_callV0 (dc := 1) (as := [.int _]) dX12_cutsKept_2 MX12_isHeap kX12_122 iX12_isHeap sX12_isHeap rfl rfl hm.1 rfl rfl (Nat.le_of_ble_eq_true rfl) (Nat.le_of_ble_eq_true rfl) (by decide) (e_isHeap _ hn hn6 hm) (fun r h2 q => ?_)
  obtain ⟨rfl, rfl⟩ := q
  show Ex _ 0 0 _ _ _ (Value.int _ :: _) _ _
  rw [bN_f hx]
  refine ex_if_neN 11 dX12_cutsKept_5 (by decide) (by omega) (fun q5 => ?_) (fun q5 => ?_)
  · skip
    exact absurd rfl q5
  · skip
    refine ex_bipushN (-2) dX12_cutsKept_8 (by decide) ?_
    refine ex_iret rfl dX12_cutsKept_10 ?_
    exact ⟨rfl, rfl⟩
set_option maxHeartbeats 4000000 in
set_option maxRecDepth 100000 in
theorem e_cutsKept_no {b : Nat} {h : am_H} {σ : am_S} {n j u : Nat} (hn : σ.2.1 1 96 = nI n) (hn6 : n ≤ 6) (hj : j < n) {m : Nat} {y : Int32} (hmj : (σ.2.1 1) (16 * j) = nI m) (hm13 : m ≤ 13) (hx : ∀ p, y = nI p → ¬ (1 ≤ p ∧ p ≤ m)) (hm : Mo b h σ) : Ex 2 0 0 mX12_cutsKept 0 (am_en [.ref b, .int (nI j), .int y] 3) [] h (fun r h2 => r = some (.int (-1)) ∧ h2 = h) := by
  have hs : Same b h h := Same.rf
  refine ex_aload_n dX12_cutsKept_0 rfl rfl ?_
  refine ex_iload_n dX12_cutsKept_1 rfl ?_
  refine ex_callV0 (dc := 1) (as := [.int _]) dX12_cutsKept_2 MX12_isHeap kX12_122 iX12_isHeap sX12_isHeap rfl rfl hm.1 rfl rfl (Nat.le_of_ble_eq_true rfl) (Nat.le_of_ble_eq_true rfl) (by decide) (e_isHeap _ hn hn6 hm) (fun r h2 q => ?_)
  obtain ⟨rfl, rfl⟩ := q
  show Ex _ 0 0 _ _ _ (Value.int _ :: _) _ _
  rw [bN_t ⟨by rw [nI_toInt (by omega)]; omega, by rw [nI_toInt (by omega)]; omega⟩]
  refine ex_if_neN 11 dX12_cutsKept_5 (by decide) (by first | omega | exact bN_lt) (fun q5 => ?_) (fun q5 => ?_)
  · skip
    refine ex_iload_n dX12_cutsKept_11 rfl ?_
    refine ex_iconstN (nI 1) dX12_cutsKept_12 (by decide) ?_
    refine ex_aload_n dX12_cutsKept_13 rfl rfl ?_
    refine ex_iload_n dX12_cutsKept_14 rfl ?_
    refine ex_callV0 (dc := 1) (as := [.int _]) dX12_cutsKept_15 MX12_manyIn kX12_316 iX12_manyIn sX12_manyIn rfl rfl hm.1 rfl rfl (Nat.le_of_ble_eq_true rfl) (Nat.le_of_ble_eq_true rfl) (by decide) (e_manyIn _ (by omega) hm) (fun r h2 q => ?_)
    obtain ⟨rfl, rfl⟩ := q
    show Ex _ 0 0 _ _ _ (Value.int _ :: _) _ _
    rw [hmj]
    refine ex_callS0 (dc := 0) (as := [.int _, .int _, .int _]) dX12_cutsKept_18 MX12_lies kX12_102 tX12_lies rfl rfl (Nat.le_of_ble_eq_true rfl) (Nat.le_of_ble_eq_true rfl) (by decide) (e_lies _ _ _ _) (fun r h2 q => ?_)
    obtain ⟨rfl, rfl⟩ := q
    show Ex _ 0 0 _ _ _ (Value.int _ :: _) _ _
    refine ex_if_neN 26 dX12_cutsKept_21 (by decide) (by first | omega | exact bN_lt) (fun q21 => ?_) (fun q21 => ?_)
    · skip
      obtain ⟨p, h1, h2, e⟩ := lies_of (bN_n.mp q21) (by omega) (by omega)
      exact absurd ⟨h1, h2⟩ (hx p e)
    · skip
      refine ex_iconstN (-1) dX12_cutsKept_24 (by decide) ?_
      refine ex_iret rfl dX12_cutsKept_25 ?_
      exact ⟨rfl, rfl⟩
  · skip
    exact absurd q5 (by decide)
set_option maxHeartbeats 4000000 in
set_option maxRecDepth 100000 in
theorem e_goodOr {b : Nat} {h : am_H} {σ : am_S} {x : Int32} (hx : 0 ≤ x) (hm : Mo b h σ) : Ex 1 0 0 mX12_goodOr 0 (am_en [.ref b, .int x] 2) [] h (fun r h2 => r = some (.int x) ∧ Mo b h2 (upd σ.1 0 (nI 0), σ.2) ∧ Same b h h2) := by
  have hs : Same b h h := Same.rf
  refine ex_iload_n dX12_goodOr_0 rfl ?_
  refine ex_if_ge 12 dX12_goodOr_1 (by decide) (fun q1 => ?_) (fun q1 => ?_)
  · skip
    refine ex_aload_n dX12_goodOr_12 rfl rfl ?_
    refine ex_iload_n dX12_goodOr_13 rfl ?_
    refine ex_callV0 (dc := 0) (as := [.int _]) dX12_goodOr_14 MX12_good kX12_14 iX12_good sX12_good rfl rfl hm.1 rfl rfl (Nat.le_of_ble_eq_true rfl) (Nat.le_of_ble_eq_true rfl) (by decide) (e_good _ hm) (fun r h2 q => ?_)
    obtain ⟨rfl, hm, hs2⟩ := q
    have hs := hs.tr hs2
    show Ex _ 0 0 _ _ _ (Value.int _ :: _) _ _
    refine ex_iret rfl dX12_goodOr_17 ?_
    exact ⟨rfl, hm, hs⟩
  · skip
    exact absurd hx q1
set_option maxHeartbeats 4000000 in
set_option maxRecDepth 100000 in
theorem e_goodOr_no {b : Nat} {h : am_H} {σ : am_S} {x : Int32} {c : Nat} (hx : ¬ 0 ≤ x) (hc : -x = nI c) (hc7 : c < 7) (hm : Mo b h σ) : Ex 1 0 0 mX12_goodOr 0 (am_en [.ref b, .int x] 2) [] h (fun r h2 => r = some (.int x) ∧ Mo b h2 (rfz σ x c) ∧ Same b h h2) := by
  have hs : Same b h h := Same.rf
  refine ex_iload_n dX12_goodOr_0 rfl ?_
  refine ex_if_ge 12 dX12_goodOr_1 (by decide) (fun q1 => ?_) (fun q1 => ?_)
  · skip
    exact absurd q1 hx
  · skip
    refine ex_aload_n dX12_goodOr_4 rfl rfl ?_
    refine ex_iload_n dX12_goodOr_5 rfl ?_
    refine ex_callV0 (dc := 0) (as := [.int _]) dX12_goodOr_6 MX12_refuses kX12_106 iX12_refuses sX12_refuses rfl rfl hm.1 rfl rfl (Nat.le_of_ble_eq_true rfl) (Nat.le_of_ble_eq_true rfl) (by decide) (e_refuses hc hc7 hm) (fun r h2 q => ?_)
    obtain ⟨rfl, hm, hs2⟩ := q
    have hs := hs.tr hs2
    show Ex _ 0 0 _ _ _ (Value.int _ :: _) _ _
    refine ex_goto 17 dX12_goodOr_9 (by decide) ?_
    refine ex_iret rfl dX12_goodOr_17 ?_
    exact ⟨rfl, hm, hs⟩
def cnt (σ : am_S) (w : Nat) : Int32 := ([σ.2.1 1 96, σ.2.1 1 115, σ.2.1 1 116, σ.1 39, σ.1 12, σ.2.1 0 1, σ.2.1 0 2, σ.2.1 0 3, σ.2.1 0 5, σ.2.1 0 6, σ.2.1 1 117, σ.2.1 1 113, σ.2.1 1 114] : List Int32).getD w (-1)
set_option maxHeartbeats 4000000 in
set_option maxRecDepth 100000 in
theorem e_count0 {b : Nat} {h : am_H} {σ : am_S} (hm : Mo b h σ) : Ex 0 0 0 mX12_count 0 (am_en [.ref b, .int (nI 0)] 2) [] h (fun r h2 => r = some (.int (cnt σ 0)) ∧ h2 = h) := by
  have hs : Same b h h := Same.rf
  refine ex_iload_n dX12_count_0 rfl ?_
  refine ex_tableIn 68 dX12_count_1 (by decide) (by decide) (show _ = some (67 : Int) by decide) (by decide) ?_
  refine ex_aload_n dX12_count_68 rfl rfl ?_
  refine ex_getf fX12_24 dX12_count_69 hm.1 rfl ?_
  refine ex_bipushN (nI 96) dX12_count_72 (by decide) ?_
  refine m_ald hm dX12_count_74 (by decide) (by decide) rfl (by show _ < 5725; first | omega | decide) ?_
  refine ex_iret rfl dX12_count_75 ?_
  exact ⟨rfl, rfl⟩
set_option maxHeartbeats 4000000 in
set_option maxRecDepth 100000 in
theorem e_count1 {b : Nat} {h : am_H} {σ : am_S} (hm : Mo b h σ) : Ex 0 0 0 mX12_count 0 (am_en [.ref b, .int (nI 1)] 2) [] h (fun r h2 => r = some (.int (cnt σ 1)) ∧ h2 = h) := by
  have hs : Same b h h := Same.rf
  refine ex_iload_n dX12_count_0 rfl ?_
  refine ex_tableIn 76 dX12_count_1 (by decide) (by decide) (show _ = some (75 : Int) by decide) (by decide) ?_
  refine ex_aload_n dX12_count_76 rfl rfl ?_
  refine ex_getf fX12_24 dX12_count_77 hm.1 rfl ?_
  refine ex_bipushN (nI 115) dX12_count_80 (by decide) ?_
  refine m_ald hm dX12_count_82 (by decide) (by decide) rfl (by show _ < 5725; first | omega | decide) ?_
  refine ex_iret rfl dX12_count_83 ?_
  exact ⟨rfl, rfl⟩
set_option maxHeartbeats 4000000 in
set_option maxRecDepth 100000 in
theorem e_count2 {b : Nat} {h : am_H} {σ : am_S} (hm : Mo b h σ) : Ex 0 0 0 mX12_count 0 (am_en [.ref b, .int (nI 2)] 2) [] h (fun r h2 => r = some (.int (cnt σ 2)) ∧ h2 = h) := by
  have hs : Same b h h := Same.rf
  refine ex_iload_n dX12_count_0 rfl ?_
  refine ex_tableIn 84 dX12_count_1 (by decide) (by decide) (show _ = some (83 : Int) by decide) (by decide) ?_
  refine ex_aload_n dX12_count_84 rfl rfl ?_
  refine ex_getf fX12_24 dX12_count_85 hm.1 rfl ?_
  refine ex_bipushN (nI 116) dX12_count_88 (by decide) ?_
  refine m_ald hm dX12_count_90 (by decide) (by decide) rfl (by show _ < 5725; first | omega | decide) ?_
  refine ex_iret rfl dX12_count_91 ?_
  exact ⟨rfl, rfl⟩
set_option maxHeartbeats 4000000 in
set_option maxRecDepth 100000 in
theorem e_count3 {b : Nat} {h : am_H} {σ : am_S} (hm : Mo b h σ) : Ex 0 0 0 mX12_count 0 (am_en [.ref b, .int (nI 3)] 2) [] h (fun r h2 => r = some (.int (cnt σ 3)) ∧ h2 = h) := by
  have hs : Same b h h := Same.rf
  refine ex_iload_n dX12_count_0 rfl ?_
  refine ex_tableIn 92 dX12_count_1 (by decide) (by decide) (show _ = some (91 : Int) by decide) (by decide) ?_
  refine ex_aload_n dX12_count_92 rfl rfl ?_
  refine ex_getf fX12_11 dX12_count_93 hm.1 rfl ?_
  refine ex_iret rfl dX12_count_96 ?_
  exact ⟨rfl, rfl⟩
set_option maxHeartbeats 4000000 in
set_option maxRecDepth 100000 in
theorem e_count4 {b : Nat} {h : am_H} {σ : am_S} (hm : Mo b h σ) : Ex 0 0 0 mX12_count 0 (am_en [.ref b, .int (nI 4)] 2) [] h (fun r h2 => r = some (.int (cnt σ 4)) ∧ h2 = h) := by
  have hs : Same b h h := Same.rf
  refine ex_iload_n dX12_count_0 rfl ?_
  refine ex_tableIn 97 dX12_count_1 (by decide) (by decide) (show _ = some (96 : Int) by decide) (by decide) ?_
  refine ex_aload_n dX12_count_97 rfl rfl ?_
  refine ex_getf fX12_115 dX12_count_98 hm.1 rfl ?_
  refine ex_iret rfl dX12_count_101 ?_
  exact ⟨rfl, rfl⟩
set_option maxHeartbeats 4000000 in
set_option maxRecDepth 100000 in
theorem e_count5 {b : Nat} {h : am_H} {σ : am_S} (hm : Mo b h σ) : Ex 0 0 0 mX12_count 0 (am_en [.ref b, .int (nI 5)] 2) [] h (fun r h2 => r = some (.int (cnt σ 5)) ∧ h2 = h) := by
  have hs : Same b h h := Same.rf
  refine ex_iload_n dX12_count_0 rfl ?_
  refine ex_tableIn 102 dX12_count_1 (by decide) (by decide) (show _ = some (101 : Int) by decide) (by decide) ?_
  refine ex_aload_n dX12_count_102 rfl rfl ?_
  refine ex_getf fX12_7 dX12_count_103 hm.1 rfl ?_
  refine ex_iload_n dX12_count_106 rfl ?_
  refine ex_iconstN (nI 4) dX12_count_107 (by decide) ?_
  refine ex_isubN dX12_count_108 (by first | omega | decide) ?_
  refine m_ald hm dX12_count_109 (by decide) (by decide) rfl (by show _ < 7; first | omega | decide) ?_
  refine ex_iret rfl dX12_count_110 ?_
  exact ⟨rfl, rfl⟩
set_option maxHeartbeats 4000000 in
set_option maxRecDepth 100000 in
theorem e_count6 {b : Nat} {h : am_H} {σ : am_S} (hm : Mo b h σ) : Ex 0 0 0 mX12_count 0 (am_en [.ref b, .int (nI 6)] 2) [] h (fun r h2 => r = some (.int (cnt σ 6)) ∧ h2 = h) := by
  have hs : Same b h h := Same.rf
  refine ex_iload_n dX12_count_0 rfl ?_
  refine ex_tableIn 102 dX12_count_1 (by decide) (by decide) (show _ = some (101 : Int) by decide) (by decide) ?_
  refine ex_aload_n dX12_count_102 rfl rfl ?_
  refine ex_getf fX12_7 dX12_count_103 hm.1 rfl ?_
  refine ex_iload_n dX12_count_106 rfl ?_
  refine ex_iconstN (nI 4) dX12_count_107 (by decide) ?_
  refine ex_isubN dX12_count_108 (by first | omega | decide) ?_
  refine m_ald hm dX12_count_109 (by decide) (by decide) rfl (by show _ < 7; first | omega | decide) ?_
  refine ex_iret rfl dX12_count_110 ?_
  exact ⟨rfl, rfl⟩
set_option maxHeartbeats 4000000 in
set_option maxRecDepth 100000 in
theorem e_count7 {b : Nat} {h : am_H} {σ : am_S} (hm : Mo b h σ) : Ex 0 0 0 mX12_count 0 (am_en [.ref b, .int (nI 7)] 2) [] h (fun r h2 => r = some (.int (cnt σ 7)) ∧ h2 = h) := by
  have hs : Same b h h := Same.rf
  refine ex_iload_n dX12_count_0 rfl ?_
  refine ex_tableIn 102 dX12_count_1 (by decide) (by decide) (show _ = some (101 : Int) by decide) (by decide) ?_
  refine ex_aload_n dX12_count_102 rfl rfl ?_
  refine ex_getf fX12_7 dX12_count_103 hm.1 rfl ?_
  refine ex_iload_n dX12_count_106 rfl ?_
  refine ex_iconstN (nI 4) dX12_count_107 (by decide) ?_
  refine ex_isubN dX12_count_108 (by first | omega | decide) ?_
  refine m_ald hm dX12_count_109 (by decide) (by decide) rfl (by show _ < 7; first | omega | decide) ?_
  refine ex_iret rfl dX12_count_110 ?_
  exact ⟨rfl, rfl⟩
set_option maxHeartbeats 4000000 in
set_option maxRecDepth 100000 in
theorem e_count8 {b : Nat} {h : am_H} {σ : am_S} (hm : Mo b h σ) : Ex 0 0 0 mX12_count 0 (am_en [.ref b, .int (nI 8)] 2) [] h (fun r h2 => r = some (.int (cnt σ 8)) ∧ h2 = h) := by
  have hs : Same b h h := Same.rf
  refine ex_iload_n dX12_count_0 rfl ?_
  refine ex_tableIn 111 dX12_count_1 (by decide) (by decide) (show _ = some (110 : Int) by decide) (by decide) ?_
  refine ex_aload_n dX12_count_111 rfl rfl ?_
  refine ex_getf fX12_7 dX12_count_112 hm.1 rfl ?_
  refine ex_iconstN (nI 5) dX12_count_115 (by decide) ?_
  refine m_ald hm dX12_count_116 (by decide) (by decide) rfl (by show _ < 7; first | omega | decide) ?_
  refine ex_iret rfl dX12_count_117 ?_
  exact ⟨rfl, rfl⟩
set_option maxHeartbeats 4000000 in
set_option maxRecDepth 100000 in
theorem e_count9 {b : Nat} {h : am_H} {σ : am_S} (hm : Mo b h σ) : Ex 0 0 0 mX12_count 0 (am_en [.ref b, .int (nI 9)] 2) [] h (fun r h2 => r = some (.int (cnt σ 9)) ∧ h2 = h) := by
  have hs : Same b h h := Same.rf
  refine ex_iload_n dX12_count_0 rfl ?_
  refine ex_tableIn 118 dX12_count_1 (by decide) (by decide) (show _ = some (117 : Int) by decide) (by decide) ?_
  refine ex_aload_n dX12_count_118 rfl rfl ?_
  refine ex_getf fX12_7 dX12_count_119 hm.1 rfl ?_
  refine ex_bipushN (nI 6) dX12_count_122 (by decide) ?_
  refine m_ald hm dX12_count_124 (by decide) (by decide) rfl (by show _ < 7; first | omega | decide) ?_
  refine ex_iret rfl dX12_count_125 ?_
  exact ⟨rfl, rfl⟩
set_option maxHeartbeats 4000000 in
set_option maxRecDepth 100000 in
theorem e_count10 {b : Nat} {h : am_H} {σ : am_S} (hm : Mo b h σ) : Ex 0 0 0 mX12_count 0 (am_en [.ref b, .int (nI 10)] 2) [] h (fun r h2 => r = some (.int (cnt σ 10)) ∧ h2 = h) := by
  have hs : Same b h h := Same.rf
  refine ex_iload_n dX12_count_0 rfl ?_
  refine ex_tableIn 126 dX12_count_1 (by decide) (by decide) (show _ = some (125 : Int) by decide) (by decide) ?_
  refine ex_aload_n dX12_count_126 rfl rfl ?_
  refine ex_getf fX12_24 dX12_count_127 hm.1 rfl ?_
  refine ex_bipushN (nI 117) dX12_count_130 (by decide) ?_
  refine m_ald hm dX12_count_132 (by decide) (by decide) rfl (by show _ < 5725; first | omega | decide) ?_
  refine ex_iret rfl dX12_count_133 ?_
  exact ⟨rfl, rfl⟩
set_option maxHeartbeats 4000000 in
set_option maxRecDepth 100000 in
theorem e_count11 {b : Nat} {h : am_H} {σ : am_S} (hm : Mo b h σ) : Ex 0 0 0 mX12_count 0 (am_en [.ref b, .int (nI 11)] 2) [] h (fun r h2 => r = some (.int (cnt σ 11)) ∧ h2 = h) := by
  have hs : Same b h h := Same.rf
  refine ex_iload_n dX12_count_0 rfl ?_
  refine ex_tableIn 134 dX12_count_1 (by decide) (by decide) (show _ = some (133 : Int) by decide) (by decide) ?_
  refine ex_aload_n dX12_count_134 rfl rfl ?_
  refine ex_getf fX12_24 dX12_count_135 hm.1 rfl ?_
  refine ex_bipushN (nI 113) dX12_count_138 (by decide) ?_
  refine ex_iload_n dX12_count_140 rfl ?_
  refine ex_iaddN dX12_count_141 ?_
  refine ex_bipushN (nI 11) dX12_count_142 (by decide) ?_
  refine ex_isubN dX12_count_144 (by first | omega | decide) ?_
  refine m_ald hm dX12_count_145 (by decide) (by decide) rfl (by show _ < 5725; first | omega | decide) ?_
  refine ex_iret rfl dX12_count_146 ?_
  exact ⟨rfl, rfl⟩
set_option maxHeartbeats 4000000 in
set_option maxRecDepth 100000 in
theorem e_count12 {b : Nat} {h : am_H} {σ : am_S} (hm : Mo b h σ) : Ex 0 0 0 mX12_count 0 (am_en [.ref b, .int (nI 12)] 2) [] h (fun r h2 => r = some (.int (cnt σ 12)) ∧ h2 = h) := by
  have hs : Same b h h := Same.rf
  refine ex_iload_n dX12_count_0 rfl ?_
  refine ex_tableIn 134 dX12_count_1 (by decide) (by decide) (show _ = some (133 : Int) by decide) (by decide) ?_
  refine ex_aload_n dX12_count_134 rfl rfl ?_
  refine ex_getf fX12_24 dX12_count_135 hm.1 rfl ?_
  refine ex_bipushN (nI 113) dX12_count_138 (by decide) ?_
  refine ex_iload_n dX12_count_140 rfl ?_
  refine ex_iaddN dX12_count_141 ?_
  refine ex_bipushN (nI 11) dX12_count_142 (by decide) ?_
  refine ex_isubN dX12_count_144 (by first | omega | decide) ?_
  refine m_ald hm dX12_count_145 (by decide) (by decide) rfl (by show _ < 5725; first | omega | decide) ?_
  refine ex_iret rfl dX12_count_146 ?_
  exact ⟨rfl, rfl⟩
set_option maxHeartbeats 4000000 in
set_option maxRecDepth 100000 in
theorem e_count_no {b : Nat} {h : am_H} {σ : am_S} {x : Int32} (hx : ¬ inN x 13) (hm : Mo b h σ) : Ex 0 0 0 mX12_count 0 (am_en [.ref b, .int x] 2) [] h (fun r h2 => r = some (.int (-1)) ∧ h2 = h) := by
  have hs : Same b h h := Same.rf
  refine ex_iload_n dX12_count_0 rfl ?_
  refine ex_tableOut 147 dX12_count_1 (by (unfold inN at hx; omega)) (by decide) ?_
  refine ex_iconstN (-1) dX12_count_147 (by decide) ?_
  refine ex_iret rfl dX12_count_148 ?_
  exact ⟨rfl, rfl⟩
set_option maxHeartbeats 4000000 in
set_option maxRecDepth 100000 in
theorem e_drawn_none {b : Nat} {h : am_H} {σ : am_S} {x : Int32} (h54 : σ.1 54 = -1) (hm : Mo b h σ) : Ex 1 0 0 mX12_drawn 0 (am_en [.ref b, .int x] 2) [] h (fun r h2 => r = some (.int (-1)) ∧ h2 = h) := by
  have hs : Same b h h := Same.rf
  refine ex_aload_n dX12_drawn_0 rfl rfl ?_
  refine ex_getf fX12_99 dX12_drawn_1 hm.1 rfl ?_
  refine ex_iconstN (-1) dX12_drawn_4 (by decide) ?_
  refine ex_icmp_eq 22 dX12_drawn_5 (by decide) (fun q5 => ?_) (fun q5 => ?_)
  · skip
    refine ex_iconstN (-1) dX12_drawn_22 (by decide) ?_
    refine ex_goto 57 dX12_drawn_23 (by decide) ?_
    refine ex_iret rfl dX12_drawn_57 ?_
    exact ⟨rfl, rfl⟩
  · skip
    exact absurd h54 q5
theorem nI_nm1 {n : Nat} (h : n < 2 ^ 31) : ¬ nI n = -1 := fun e => by
  have := congrArg Int32.toInt e
  rw [nI_toInt h] at this
  have e2 : (-1 : Int32).toInt = -1 := rfl
  rw [e2] at this
  omega
set_option maxHeartbeats 4000000 in
set_option maxRecDepth 100000 in
theorem e_drawn0 {b : Nat} {h : am_H} {σ : am_S} {m : Nat} (h54 : σ.1 54 = nI m) (hm13 : m ≤ 13) (hm : Mo b h σ) : Ex 1 0 0 mX12_drawn 0 (am_en [.ref b, .int (nI 0)] 2) [] h (fun r h2 => r = some (.int (σ.1 55)) ∧ h2 = h) := by
  have hs : Same b h h := Same.rf
  refine ex_aload_n dX12_drawn_0 rfl rfl ?_
  refine ex_getf fX12_99 dX12_drawn_1 hm.1 (congrArg (fun z => some (Value.int z)) h54) ?_
  refine ex_iconstN (-1) dX12_drawn_4 (by decide) ?_
  refine ex_icmp_eq 22 dX12_drawn_5 (by decide) (fun q5 => ?_) (fun q5 => ?_)
  · skip
    exact absurd q5 (nI_nm1 (by omega))
  · skip
    refine ex_iload_n dX12_drawn_8 rfl ?_
    refine ex_iconstN (nI 0) dX12_drawn_9 (by decide) ?_
    refine ex_iconstN (nI 1) dX12_drawn_10 (by decide) ?_
    refine ex_aload_n dX12_drawn_11 rfl rfl ?_
    refine ex_getf fX12_99 dX12_drawn_12 hm.1 (congrArg (fun z => some (Value.int z)) h54) ?_
    refine ex_iaddN dX12_drawn_15 ?_
    refine ex_callS0 (dc := 0) (as := [.int _, .int _, .int _]) dX12_drawn_16 MX12_lies kX12_102 tX12_lies rfl rfl (Nat.le_of_ble_eq_true rfl) (Nat.le_of_ble_eq_true rfl) (by decide) (e_lies _ _ _ _) (fun r h2 q => ?_)
    obtain ⟨rfl, rfl⟩ := q
    show Ex _ 0 0 _ _ _ (Value.int _ :: _) _ _
    rw [bN_t (lies_t (by omega) (by omega) (by omega))]
    refine ex_if_neN 26 dX12_drawn_19 (by decide) (by first | omega | exact bN_lt) (fun q19 => ?_) (fun q19 => ?_)
    · skip
      refine ex_iload_n dX12_drawn_26 rfl ?_
      refine ex_if_neN 37 dX12_drawn_27 (by decide) (by first | omega | exact bN_lt) (fun q27 => ?_) (fun q27 => ?_)
      · skip
        exact absurd rfl q27
      · skip
        refine ex_aload_n dX12_drawn_30 rfl rfl ?_
        refine ex_getf fX12_473 dX12_drawn_31 hm.1 rfl ?_
        refine ex_goto 57 dX12_drawn_34 (by decide) ?_
        refine ex_iret rfl dX12_drawn_57 ?_
        exact ⟨rfl, rfl⟩
    · skip
      exact absurd q19 (by decide)
set_option maxHeartbeats 4000000 in
set_option maxRecDepth 100000 in
theorem e_drawn1 {b : Nat} {h : am_H} {σ : am_S} {m : Nat} (h54 : σ.1 54 = nI m) (hm13 : m ≤ 13) (hm : Mo b h σ) : Ex 1 0 0 mX12_drawn 0 (am_en [.ref b, .int (nI 1)] 2) [] h (fun r h2 => r = some (.int (σ.1 56)) ∧ h2 = h) := by
  have hs : Same b h h := Same.rf
  refine ex_aload_n dX12_drawn_0 rfl rfl ?_
  refine ex_getf fX12_99 dX12_drawn_1 hm.1 (congrArg (fun z => some (Value.int z)) h54) ?_
  refine ex_iconstN (-1) dX12_drawn_4 (by decide) ?_
  refine ex_icmp_eq 22 dX12_drawn_5 (by decide) (fun q5 => ?_) (fun q5 => ?_)
  · skip
    exact absurd q5 (nI_nm1 (by omega))
  · skip
    refine ex_iload_n dX12_drawn_8 rfl ?_
    refine ex_iconstN (nI 0) dX12_drawn_9 (by decide) ?_
    refine ex_iconstN (nI 1) dX12_drawn_10 (by decide) ?_
    refine ex_aload_n dX12_drawn_11 rfl rfl ?_
    refine ex_getf fX12_99 dX12_drawn_12 hm.1 (congrArg (fun z => some (Value.int z)) h54) ?_
    refine ex_iaddN dX12_drawn_15 ?_
    refine ex_callS0 (dc := 0) (as := [.int _, .int _, .int _]) dX12_drawn_16 MX12_lies kX12_102 tX12_lies rfl rfl (Nat.le_of_ble_eq_true rfl) (Nat.le_of_ble_eq_true rfl) (by decide) (e_lies _ _ _ _) (fun r h2 q => ?_)
    obtain ⟨rfl, rfl⟩ := q
    show Ex _ 0 0 _ _ _ (Value.int _ :: _) _ _
    rw [bN_t (lies_t (by omega) (by omega) (by omega))]
    refine ex_if_neN 26 dX12_drawn_19 (by decide) (by first | omega | exact bN_lt) (fun q19 => ?_) (fun q19 => ?_)
    · skip
      refine ex_iload_n dX12_drawn_26 rfl ?_
      refine ex_if_neN 37 dX12_drawn_27 (by decide) (by first | omega | exact bN_lt) (fun q27 => ?_) (fun q27 => ?_)
      · skip
        refine ex_iload_n dX12_drawn_37 rfl ?_
        refine ex_iconstN (nI 1) dX12_drawn_38 (by decide) ?_
        refine ex_icmp_neN 49 dX12_drawn_39 (by decide) (by first | omega | exact bN_lt) (by first | omega | exact bN_lt) (fun q39 => ?_) (fun q39 => ?_)
        · skip
          exact absurd rfl q39
        · skip
          refine ex_aload_n dX12_drawn_42 rfl rfl ?_
          refine ex_getf fX12_476 dX12_drawn_43 hm.1 rfl ?_
          refine ex_goto 57 dX12_drawn_46 (by decide) ?_
          refine ex_iret rfl dX12_drawn_57 ?_
          exact ⟨rfl, rfl⟩
      · skip
        exact absurd q27 (by decide)
    · skip
      exact absurd q19 (by decide)
set_option maxHeartbeats 4000000 in
set_option maxRecDepth 100000 in
theorem e_drawn2 {b : Nat} {h : am_H} {σ : am_S} {m : Nat} (h54 : σ.1 54 = nI m) (hm13 : m ≤ 13) {i : Nat} (hi : i < m) (hm : Mo b h σ) : Ex 1 0 0 mX12_drawn 0 (am_en [.ref b, .int (nI (i + 2))] 2) [] h (fun r h2 => r = some (.int (σ.2.1 22 i)) ∧ h2 = h) := by
  have hs : Same b h h := Same.rf
  refine ex_aload_n dX12_drawn_0 rfl rfl ?_
  refine ex_getf fX12_99 dX12_drawn_1 hm.1 (congrArg (fun z => some (Value.int z)) h54) ?_
  refine ex_iconstN (-1) dX12_drawn_4 (by decide) ?_
  refine ex_icmp_eq 22 dX12_drawn_5 (by decide) (fun q5 => ?_) (fun q5 => ?_)
  · skip
    exact absurd q5 (nI_nm1 (by omega))
  · skip
    refine ex_iload_n dX12_drawn_8 rfl ?_
    refine ex_iconstN (nI 0) dX12_drawn_9 (by decide) ?_
    refine ex_iconstN (nI 1) dX12_drawn_10 (by decide) ?_
    refine ex_aload_n dX12_drawn_11 rfl rfl ?_
    refine ex_getf fX12_99 dX12_drawn_12 hm.1 (congrArg (fun z => some (Value.int z)) h54) ?_
    refine ex_iaddN dX12_drawn_15 ?_
    refine ex_callS0 (dc := 0) (as := [.int _, .int _, .int _]) dX12_drawn_16 MX12_lies kX12_102 tX12_lies rfl rfl (Nat.le_of_ble_eq_true rfl) (Nat.le_of_ble_eq_true rfl) (by decide) (e_lies _ _ _ _) (fun r h2 q => ?_)
    obtain ⟨rfl, rfl⟩ := q
    show Ex _ 0 0 _ _ _ (Value.int _ :: _) _ _
    rw [bN_t (lies_t (by omega) (by omega) (by omega))]
    refine ex_if_neN 26 dX12_drawn_19 (by decide) (by first | omega | exact bN_lt) (fun q19 => ?_) (fun q19 => ?_)
    · skip
      refine ex_iload_n dX12_drawn_26 rfl ?_
      refine ex_if_neN 37 dX12_drawn_27 (by decide) (by first | omega | exact bN_lt) (fun q27 => ?_) (fun q27 => ?_)
      · skip
        refine ex_iload_n dX12_drawn_37 rfl ?_
        refine ex_iconstN (nI 1) dX12_drawn_38 (by decide) ?_
        refine ex_icmp_neN 49 dX12_drawn_39 (by decide) (by first | omega | exact bN_lt) (by first | omega | exact bN_lt) (fun q39 => ?_) (fun q39 => ?_)
        · skip
          refine ex_aload_n dX12_drawn_49 rfl rfl ?_
          refine ex_getf fX12_96 dX12_drawn_50 hm.1 rfl ?_
          refine ex_iload_n dX12_drawn_53 rfl ?_
          refine ex_iconstN (nI 2) dX12_drawn_54 (by decide) ?_
          refine ex_isubN dX12_drawn_55 (by first | omega | exact bN_lt) ?_
          refine m_ald hm dX12_drawn_56 (by decide) (by decide) rfl (by show _ < 13; first | omega | exact bN_lt) ?_
          refine ex_iret rfl dX12_drawn_57 ?_
          exact ⟨rfl, rfl⟩
        · skip
          exact absurd q39 (by omega)
      · skip
        exact absurd q27 (by omega)
    · skip
      exact absurd q19 (by decide)
set_option maxHeartbeats 4000000 in
set_option maxRecDepth 100000 in
theorem e_drawn_no {b : Nat} {h : am_H} {σ : am_S} {m : Nat} (h54 : σ.1 54 = nI m) (hm13 : m ≤ 13) {x : Int32} (hx : ¬ inN x (m + 2)) (hm : Mo b h σ) : Ex 1 0 0 mX12_drawn 0 (am_en [.ref b, .int x] 2) [] h (fun r h2 => r = some (.int (-1)) ∧ h2 = h) := by
  have hs : Same b h h := Same.rf
  refine ex_aload_n dX12_drawn_0 rfl rfl ?_
  refine ex_getf fX12_99 dX12_drawn_1 hm.1 (congrArg (fun z => some (Value.int z)) h54) ?_
  refine ex_iconstN (-1) dX12_drawn_4 (by decide) ?_
  refine ex_icmp_eq 22 dX12_drawn_5 (by decide) (fun q5 => ?_) (fun q5 => ?_)
  · skip
    exact absurd q5 (nI_nm1 (by omega))
  · skip
    refine ex_iload_n dX12_drawn_8 rfl ?_
    refine ex_iconstN (nI 0) dX12_drawn_9 (by decide) ?_
    refine ex_iconstN (nI 1) dX12_drawn_10 (by decide) ?_
    refine ex_aload_n dX12_drawn_11 rfl rfl ?_
    refine ex_getf fX12_99 dX12_drawn_12 hm.1 (congrArg (fun z => some (Value.int z)) h54) ?_
    refine ex_iaddN dX12_drawn_15 ?_
    refine ex_callS0 (dc := 0) (as := [.int _, .int _, .int _]) dX12_drawn_16 MX12_lies kX12_102 tX12_lies rfl rfl (Nat.le_of_ble_eq_true rfl) (Nat.le_of_ble_eq_true rfl) (by decide) (e_lies _ _ _ _) (fun r h2 q => ?_)
    obtain ⟨rfl, rfl⟩ := q
    show Ex _ 0 0 _ _ _ (Value.int _ :: _) _ _
    rw [bN_f (lies_f hx (by omega) (by omega) rfl)]
    refine ex_if_neN 26 dX12_drawn_19 (by decide) (by first | omega | exact bN_lt) (fun q19 => ?_) (fun q19 => ?_)
    · skip
      exact absurd rfl q19
    · skip
      refine ex_iconstN (-1) dX12_drawn_22 (by decide) ?_
      refine ex_goto 57 dX12_drawn_23 (by decide) ?_
      refine ex_iret rfl dX12_drawn_57 ?_
      exact ⟨rfl, rfl⟩
def dr (s : Nat) : Nat := (1103 * s + 12345) % 1000003
theorem dr_lt (s : Nat) : dr s < 1000003 := Nat.mod_lt _ (by decide)
theorem dr_eq {s : Nat} (h : s ≤ 1000003) : ((1103 * (nI s).toInt64 + 12345) - (1103 * (nI s).toInt64 + 12345) / 1000003 * 1000003).toInt32 = nI (dr s) := by
  rw [nI_l (by omega), show (1103 : Int64) = lN 1103 from rfl, show (12345 : Int64) = lN 12345 from rfl, show (1000003 : Int64) = lN 1000003 from rfl, lN_mul, lN_add, pk_lRem (by omega) (by decide) (by decide), lN_i]
  rfl
set_option maxHeartbeats 4000000 in
set_option maxRecDepth 100000 in
theorem e_draws {b : Nat} {h : am_H} {σ : am_S} {s k : Nat} (hs0 : σ.1 57 = nI s) (hsm : s ≤ 1000003) (hk : 1 ≤ k) (hk2 : k ≤ 13) (hm : Mo b h σ) : Ex 0 0 0 mX12_draws 0 (am_en [.ref b, .int (nI k)] 2) [] h (fun r h2 => r = some (.int (nI (dr s % k))) ∧ Mo b h2 (upd σ.1 57 (nI (dr s)), σ.2) ∧ Same b h h2) := by
  have hs : Same b h h := Same.rf
  refine ex_aload_n dX12_draws_0 rfl rfl ?_
  refine ex_ldc2 dX12_draws_1 qX12_461 ?_
  refine ex_aload_n dX12_draws_4 rfl rfl ?_
  refine ex_getf fX12_463 dX12_draws_5 hm.1 (congrArg (fun z => some (Value.int z)) hs0) ?_
  refine ex_i2l dX12_draws_8 ?_
  refine ex_lmul dX12_draws_9 ?_
  refine ex_ldc2 dX12_draws_10 qX12_466 ?_
  refine ex_ladd dX12_draws_13 ?_
  refine ex_ldc2 dX12_draws_14 qX12_468 ?_
  refine ex_lrem dX12_draws_17 (by first | omega | decide | (have := dr_lt s; omega)) ?_
  refine ex_l2i dX12_draws_18 ?_
  rw [dr_eq hsm]
  refine m_put hm hs pX12_463 dX12_draws_19 (by decide) (ms57 _ _ _) (fun h1 hm hs => ?_)
  refine ex_aload_n dX12_draws_22 rfl rfl ?_
  refine ex_getf fX12_463 dX12_draws_23 hm.1 (congrArg (fun z => some (Value.int z)) (show nI (dr s) = nI (dr s) from rfl)) ?_
  refine ex_iload_n dX12_draws_26 rfl ?_
  refine ex_iremN dX12_draws_27 (by first | omega | decide | (have := dr_lt s; omega)) (by first | omega | decide | (have := dr_lt s; omega)) (by first | omega | decide | (have := dr_lt s; omega)) ?_
  refine ex_iret rfl dX12_draws_28 ?_
  exact ⟨rfl, hm, hs⟩
