/-! THE REFERENCE: numbers and answers, heaps' places -/
abbrev inN (x : Int32) (n : Nat) : Prop := 0 ≤ x.toInt ∧ x.toInt < (n : Int)
theorem inN_of {x : Int32} {n : Nat} (h : inN x n) (hn : n < 2 ^ 31) : ∃ j : Nat, j < n ∧ x = nI j := vp_in_of (vp_in_iff.mpr h) hn
theorem vp_lies {x : Int32} {n : Nat} (hn6 : n ≤ 6) : (nI 0 ≤ x ∧ x ≤ nI n - nI 1) ↔ inN x n := by
  have h1 : (nI n - nI 1).toInt = (n : Int) - 1 := pk_sub_toInt (by omega) (by omega)
  rw [Int32.le_iff_toInt_le, Int32.le_iff_toInt_le, h1, nI_toInt (by omega)]
  constructor
  · rintro ⟨a, c⟩; constructor <;> omega
  · rintro ⟨a, c⟩; constructor <;> omega
set_option maxHeartbeats 4000000 in
set_option maxRecDepth 100000 in
theorem e_refuses {b : Nat} {h : am_H} {σ : am_S} {x : Int32} {c : Nat} (hx : -x = nI c) (hc : c < 7) (hm : Mo b h σ) : Ex 0 0 0 mX12_refuses 0 (am_en [.ref b, .int x] 2) [] h (fun r h2 => r = some (.int x) ∧ Mo b h2 (upd σ.1 0 x, u2 σ.2.1 0 c (σ.2.1 0 c + nI 1), σ.2.2) ∧ Same b h h2) := by
  have hs : Same b h h := Same.rf
  refine ex_aload_n dX12_refuses_0 rfl rfl ?_
  refine ex_iload_n dX12_refuses_1 rfl ?_
  refine m_put hm hs pX12_3 dX12_refuses_2 (by decide) (ms0 _ _ _) (fun h1 hm hs => ?_)
  refine ex_aload_n dX12_refuses_5 rfl rfl ?_
  refine ex_getf fX12_7 dX12_refuses_6 hm.1 rfl ?_
  refine ex_iload_n dX12_refuses_9 rfl ?_
  refine ex_ineg dX12_refuses_10 ?_
  rw [hx]
  refine ex_dup2 dX12_refuses_11 rfl rfl ?_
  refine m_ald hm dX12_refuses_12 (by decide) (by decide) rfl (by show _ < 7; omega) ?_
  refine ex_iconstN (nI 1) dX12_refuses_13 (by decide) ?_
  refine ex_iadd dX12_refuses_14 ?_
  refine m_ast hm hs dX12_refuses_15 (by decide) (by decide) rfl (by show _ < 7; omega) (fun h1 hm hs => ?_)
  refine ex_iload_n dX12_refuses_16 rfl ?_
  refine ex_iret rfl dX12_refuses_17 ?_
  exact ⟨rfl, hm, hs⟩
set_option maxHeartbeats 4000000 in
set_option maxRecDepth 100000 in
theorem e_good {b : Nat} {h : am_H} {σ : am_S} (x : Int32) (hm : Mo b h σ) : Ex 0 0 0 mX12_good 0 (am_en [.ref b, .int x] 2) [] h (fun r h2 => r = some (.int x) ∧ Mo b h2 (upd σ.1 0 (nI 0), σ.2) ∧ Same b h h2) := by
  have hs : Same b h h := Same.rf
  refine ex_aload_n dX12_good_0 rfl rfl ?_
  refine ex_iconstN (nI 0) dX12_good_1 (by decide) ?_
  refine m_put hm hs pX12_3 dX12_good_2 (by decide) (ms0 _ _ _) (fun h1 hm hs => ?_)
  refine ex_iload_n dX12_good_5 rfl ?_
  refine ex_iret rfl dX12_good_6 ?_
  exact ⟨rfl, hm, hs⟩
set_option maxHeartbeats 4000000 in
set_option maxRecDepth 100000 in
theorem e_settled {b : Nat} {h : am_H} {σ : am_S} (x : Int32) (hm : Mo b h σ) : Ex 1 0 0 mX12_settled 0 (am_en [.ref b, .int x] 2) [] h (fun r h2 => r = some (.int x) ∧ Mo b h2 (upd (upd σ.1 39 (nI 0)) 0 (nI 0), σ.2) ∧ Same b h h2) := by
  have hs : Same b h h := Same.rf
  refine ex_aload_n dX12_settled_0 rfl rfl ?_
  refine ex_iconstN (nI 0) dX12_settled_1 (by decide) ?_
  refine m_put hm hs pX12_11 dX12_settled_2 (by decide) (ms39 _ _ _) (fun h1 hm hs => ?_)
  refine ex_aload_n dX12_settled_5 rfl rfl ?_
  refine ex_iload_n dX12_settled_6 rfl ?_
  refine ex_callV0 (dc := 0) (as := [.int _]) dX12_settled_7 MX12_good kX12_14 iX12_good sX12_good rfl rfl hm.1 rfl rfl (Nat.le_of_ble_eq_true rfl) (Nat.le_of_ble_eq_true rfl) (by decide) (e_good _ hm) (fun r h2 q => ?_)
  obtain ⟨rfl, hm, hs2⟩ := q
  have hs := hs.tr hs2
  show Ex _ 0 0 _ _ _ (Value.int _ :: _) _ _
  refine ex_iret rfl dX12_settled_10 ?_
  exact ⟨rfl, hm, hs⟩
theorem pl_nI (j : Nat) : nI 0 + nI 16 * nI j = nI (16 * j) := by rw [pk_mul, nI_add, Nat.zero_add]
set_option maxHeartbeats 4000000 in
set_option maxRecDepth 100000 in
theorem e_isHeap {b : Nat} {h : am_H} {σ : am_S} {n : Nat} (x : Int32) (hn : σ.2.1 1 96 = nI n) (hn6 : n ≤ 6) (hm : Mo b h σ) : Ex 1 0 0 mX12_isHeap 0 (am_en [.ref b, .int x] 2) [] h (fun r h2 => r = some (.int (nI (bN (inN x n)))) ∧ h2 = h) := by
  have hs : Same b h h := Same.rf
  refine ex_iload_n dX12_isHeap_0 rfl ?_
  refine ex_iconstN (nI 0) dX12_isHeap_1 (by decide) ?_
  refine ex_aload_n dX12_isHeap_2 rfl rfl ?_
  refine ex_getf fX12_24 dX12_isHeap_3 hm.1 rfl ?_
  refine ex_bipushN (nI 96) dX12_isHeap_6 (by decide) ?_
  refine m_aldv hm dX12_isHeap_8 (by decide) (by decide) rfl (by show _ < 5725; omega) (hn) ?_
  refine ex_iconstN (nI 1) dX12_isHeap_9 (by decide) ?_
  refine ex_isub dX12_isHeap_10 ?_
  refine ex_callS0 (dc := 0) (as := [.int _, .int _, .int _]) dX12_isHeap_11 MX12_lies kX12_102 tX12_lies rfl rfl (Nat.le_of_ble_eq_true rfl) (Nat.le_of_ble_eq_true rfl) (by decide) (e_lies _ _ _ _) (fun r h2 q => ?_)
  obtain ⟨rfl, rfl⟩ := q
  show Ex _ 0 0 _ _ _ (Value.int _ :: _) _ _
  refine ex_zret rfl (by first | exact bN_z | rfl | decide | assumption) dX12_isHeap_14 ?_
  refine ⟨?_, rfl⟩
  rw [bN_c (vp_lies hn6)]
set_option maxHeartbeats 4000000 in
set_option maxRecDepth 100000 in
theorem e_manyIn {b : Nat} {h : am_H} {σ : am_S} (j : Nat) (hj : j < 6) (hm : Mo b h σ) : Ex 1 0 0 mX12_manyIn 0 (am_en [.ref b, .int (nI j)] 2) [] h (fun r h2 => r = some (.int (σ.2.1 1 (16 * j))) ∧ h2 = h) := by
  have hs : Same b h h := Same.rf
  refine ex_aload_n dX12_manyIn_0 rfl rfl ?_
  refine ex_getf fX12_24 dX12_manyIn_1 hm.1 rfl ?_
  refine ex_iload_n dX12_manyIn_4 rfl ?_
  refine ex_callS0 (dc := 0) (as := [.int _]) dX12_manyIn_5 MX12_placeOf kX12_112 tX12_placeOf rfl rfl (Nat.le_of_ble_eq_true rfl) (Nat.le_of_ble_eq_true rfl) (by decide) (e_placeOf _ _) (fun r h2 q => ?_)
  obtain ⟨rfl, rfl⟩ := q
  show Ex _ 0 0 _ _ _ (Value.int _ :: _) _ _
  rw [pl_nI]
  refine ex_iconstN (nI 0) dX12_manyIn_8 (by decide) ?_
  refine ex_iaddN dX12_manyIn_9 ?_
  refine m_ald hm dX12_manyIn_10 (by decide) (by decide) rfl (by show _ < 5725; omega) ?_
  refine ex_iret rfl dX12_manyIn_11 ?_
  exact ⟨rfl, rfl⟩
set_option maxHeartbeats 4000000 in
set_option maxRecDepth 100000 in
theorem e_cardOf {b : Nat} {h : am_H} {σ : am_S} (j i : Nat) (hj : j < 6) (hi : i < 13) (hm : Mo b h σ) : Ex 1 0 0 mX12_cardOf 0 (am_en [.ref b, .int (nI j), .int (nI i)] 3) [] h (fun r h2 => r = some (.int (σ.2.1 1 (16 * j + 3 + i))) ∧ h2 = h) := by
  have hs : Same b h h := Same.rf
  refine ex_aload_n dX12_cardOf_0 rfl rfl ?_
  refine ex_getf fX12_24 dX12_cardOf_1 hm.1 rfl ?_
  refine ex_iload_n dX12_cardOf_4 rfl ?_
  refine ex_callS0 (dc := 0) (as := [.int _]) dX12_cardOf_5 MX12_placeOf kX12_112 tX12_placeOf rfl rfl (Nat.le_of_ble_eq_true rfl) (Nat.le_of_ble_eq_true rfl) (by decide) (e_placeOf _ _) (fun r h2 q => ?_)
  obtain ⟨rfl, rfl⟩ := q
  show Ex _ 0 0 _ _ _ (Value.int _ :: _) _ _
  rw [pl_nI]
  refine ex_iconstN (nI 3) dX12_cardOf_8 (by decide) ?_
  refine ex_iaddN dX12_cardOf_9 ?_
  refine ex_iload_n dX12_cardOf_10 rfl ?_
  refine ex_iaddN dX12_cardOf_11 ?_
  refine m_ald hm dX12_cardOf_12 (by decide) (by decide) rfl (by show _ < 5725; omega) ?_
  refine ex_iret rfl dX12_cardOf_13 ?_
  exact ⟨rfl, rfl⟩
set_option maxHeartbeats 4000000 in
set_option maxRecDepth 100000 in
theorem e_fine {b : Nat} {h : am_H} {σ : am_S} (hm : Mo b h σ) : Ex 0 0 0 mX12_fine 0 (am_en [.ref b] 1) [] h (fun r h2 => r = some (.int (nI (bN (σ.1 20 = -1)))) ∧ h2 = h) := by
  have hs : Same b h h := Same.rf
  refine ex_aload_n dX12_fine_0 rfl rfl ?_
  refine ex_getf fX12_168 dX12_fine_1 hm.1 rfl ?_
  refine ex_iconstN (-1) dX12_fine_4 (by decide) ?_
  refine ex_icmp_ne 12 dX12_fine_5 (by decide) (fun q5 => ?_) (fun q5 => ?_)
  · skip
    refine ex_iconstN (nI 0) dX12_fine_12 (by decide) ?_
    refine ex_zret rfl (by first | exact bN_z | rfl | decide | assumption) dX12_fine_13 ?_
    refine ⟨?_, rfl⟩
    first | rw [bN_t (by assumption)] | rw [bN_f (by assumption)]
  · skip
    refine ex_iconstN (nI 1) dX12_fine_8 (by decide) ?_
    refine ex_goto 13 dX12_fine_9 (by decide) ?_
    refine ex_zret rfl (by first | exact bN_z | rfl | decide | assumption) dX12_fine_13 ?_
    refine ⟨?_, rfl⟩
    first | rw [bN_t (by assumption)] | rw [bN_f (by assumption)]
set_option maxHeartbeats 4000000 in
set_option maxRecDepth 100000 in
theorem e_status {b : Nat} {h : am_H} {σ : am_S} (hm : Mo b h σ) : Ex 0 0 0 mX12_status 0 (am_en [.ref b] 1) [] h (fun r h2 => r = some (.int (σ.1 0)) ∧ h2 = h) := by
  have hs : Same b h h := Same.rf
  refine ex_aload_n dX12_status_0 rfl rfl ?_
  refine ex_getf fX12_3 dX12_status_1 hm.1 rfl ?_
  refine ex_iret rfl dX12_status_4 ?_
  exact ⟨rfl, rfl⟩
set_option maxHeartbeats 4000000 in
set_option maxRecDepth 100000 in
theorem e_fault {b : Nat} {h : am_H} {σ : am_S} (hm : Mo b h σ) : Ex 0 0 0 mX12_fault 0 (am_en [.ref b] 1) [] h (fun r h2 => r = some (.int (σ.1 13)) ∧ h2 = h) := by
  have hs : Same b h h := Same.rf
  refine ex_aload_n dX12_fault_0 rfl rfl ?_
  refine ex_getf fX12_47 dX12_fault_1 hm.1 rfl ?_
  refine ex_iret rfl dX12_fault_4 ?_
  exact ⟨rfl, rfl⟩
set_option maxHeartbeats 4000000 in
set_option maxRecDepth 100000 in
theorem e_stopped {b : Nat} {h : am_H} {σ : am_S} (hm : Mo b h σ) : Ex 0 0 0 mX12_stopped 0 (am_en [.ref b] 1) [] h (fun r h2 => r = some (.int (σ.1 46)) ∧ h2 = h) := by
  have hs : Same b h h := Same.rf
  refine ex_aload_n dX12_stopped_0 rfl rfl ?_
  refine ex_getf fX12_89 dX12_stopped_1 hm.1 rfl ?_
  refine ex_iret rfl dX12_stopped_4 ?_
  exact ⟨rfl, rfl⟩
