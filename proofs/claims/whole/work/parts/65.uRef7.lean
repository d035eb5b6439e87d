/-! the reference: its methods as functions (by wip/whole/dec.py) -/
set_option maxHeartbeats 1000000 in
set_option maxRecDepth 100000 in
noncomputable def Ref_near (v0 : Int64) (h : am_H) : Option Int32 := if (0 : Int32) ≤ (lg_cmp v0 (-1000 : Int64)) then if (lg_cmp v0 (1000 : Int64)) ≤ (0 : Int32) then some (Int64.toInt32 v0) else some (1000 : Int32) else some (-1000 : Int32)
set_option maxHeartbeats 1000000 in
set_option maxRecDepth 100000 in
theorem Ref_near_s {v0 : Int64} {h : am_H} {r : Int32} (hb : Ref_near v0 h = some r) : Sx 0 mX12_near 0 (am_en [.long v0] 2) [] h (some (.int r)) h := by
  unfold Ref_near at hb
  show Sx 0 mX12_near 0 [.long v0, .retAddr 0] [] h (some (.int r)) h
  refine Sx.o (fun _ _ _ k => ex_lload_n dX12_near_0 rfl k) ?_
  refine Sx.o (fun _ _ _ k => ex_ldc2 dX12_near_1 qX12_118 k) ?_
  refine Sx.o (fun _ _ _ k => ex_lcmp dX12_near_4 k) ?_
  refine Sx.b (fun _ _ _ k1 k2 => ex_if_ge 14 dX12_near_5 (by decide) k1 k2) (fun q => ?_) (fun q => ?_)
  · have hb1 := ip q hb
    refine Sx.o (fun _ _ _ k => ex_lload_n dX12_near_14 rfl k) ?_
    refine Sx.o (fun _ _ _ k => ex_ldc2 dX12_near_15 qX12_120 k) ?_
    refine Sx.o (fun _ _ _ k => ex_lcmp dX12_near_18 k) ?_
    refine Sx.b (fun _ _ _ k1 k2 => ex_if_le 28 dX12_near_19 (by decide) k1 k2) (fun q => ?_) (fun q => ?_)
    · have hb3 := ip q hb1
      refine Sx.o (fun _ _ _ k => ex_lload_n dX12_near_28 rfl k) ?_
      refine Sx.o (fun _ _ _ k => ex_l2i dX12_near_29 k) ?_
      obtain rfl := Option.some.inj hb3
      exact Sx.r (fun _ _ _ k => ex_iret rfl dX12_near_30 k)
    · have hb4 := iq q hb1
      refine Sx.o (fun _ _ _ k => op_sipush (1000 : Int32) dX12_near_22 (by decide) k) ?_
      refine Sx.o (fun _ _ _ k => ex_goto 30 dX12_near_25 (by decide) k) ?_
      obtain rfl := Option.some.inj hb4
      exact Sx.r (fun _ _ _ k => ex_iret rfl dX12_near_30 k)
  · have hb2 := iq q hb
    refine Sx.o (fun _ _ _ k => op_sipush (-1000 : Int32) dX12_near_8 (by decide) k) ?_
    refine Sx.o (fun _ _ _ k => ex_goto 30 dX12_near_11 (by decide) k) ?_
    obtain rfl := Option.some.inj hb2
    exact Sx.r (fun _ _ _ k => ex_iret rfl dX12_near_30 k)
set_option maxHeartbeats 1000000 in
set_option maxRecDepth 100000 in
noncomputable def Ref_small (v0 : Int64) (h : am_H) : Option Int32 := if (lg_cmp v0 (0 : Int64)) < (0 : Int32) then some (-1 : Int32) else if (lg_cmp v0 (1000000 : Int64)) ≤ (0 : Int32) then some (Int64.toInt32 v0) else some (-1 : Int32)
set_option maxHeartbeats 1000000 in
set_option maxRecDepth 100000 in
theorem Ref_small_s {v0 : Int64} {h : am_H} {r : Int32} (hb : Ref_small v0 h = some r) : Sx 0 mX12_small 0 (am_en [.long v0] 2) [] h (some (.int r)) h := by
  unfold Ref_small at hb
  show Sx 0 mX12_small 0 [.long v0, .retAddr 0] [] h (some (.int r)) h
  refine Sx.o (fun _ _ _ k => ex_lload_n dX12_small_0 rfl k) ?_
  refine Sx.o (fun _ _ _ k => op_lconst (0 : Int64) dX12_small_1 (by decide) k) ?_
  refine Sx.o (fun _ _ _ k => ex_lcmp dX12_small_2 k) ?_
  refine Sx.b (fun _ _ _ k1 k2 => ex_if_lt 14 dX12_small_3 (by decide) k1 k2) (fun q => ?_) (fun q => ?_)
  · have hb1 := ip q hb
    refine Sx.o (fun _ _ _ k => op_iconst (-1 : Int32) dX12_small_14 (by decide) k) ?_
    refine Sx.o (fun _ _ _ k => ex_goto 20 dX12_small_15 (by decide) k) ?_
    obtain rfl := Option.some.inj hb1
    exact Sx.r (fun _ _ _ k => ex_iret rfl dX12_small_20 k)
  · have hb2 := iq q hb
    refine Sx.o (fun _ _ _ k => ex_lload_n dX12_small_6 rfl k) ?_
    refine Sx.o (fun _ _ _ k => ex_ldc2 dX12_small_7 qX12_449 k) ?_
    refine Sx.o (fun _ _ _ k => ex_lcmp dX12_small_10 k) ?_
    refine Sx.b (fun _ _ _ k1 k2 => ex_if_le 18 dX12_small_11 (by decide) k1 k2) (fun q => ?_) (fun q => ?_)
    · have hb3 := ip q hb2
      refine Sx.o (fun _ _ _ k => ex_lload_n dX12_small_18 rfl k) ?_
      refine Sx.o (fun _ _ _ k => ex_l2i dX12_small_19 k) ?_
      obtain rfl := Option.some.inj hb3
      exact Sx.r (fun _ _ _ k => ex_iret rfl dX12_small_20 k)
    · have hb4 := iq q hb2
      refine Sx.o (fun _ _ _ k => op_iconst (-1 : Int32) dX12_small_14 (by decide) k) ?_
      refine Sx.o (fun _ _ _ k => ex_goto 20 dX12_small_15 (by decide) k) ?_
      obtain rfl := Option.some.inj hb4
      exact Sx.r (fun _ _ _ k => ex_iret rfl dX12_small_20 k)
set_option maxHeartbeats 1000000 in
set_option maxRecDepth 100000 in
noncomputable def Ref_stepsKept (v0 : Nat) (v1 : Int32) (h : am_H) : Option (Int32 × am_H) := if isO h 12 v0 = true then (Ref_isHeap v0 v1 h).bind fun x1 => if x1 = (0 : Int32) then some ((-2 : Int32), h) else (Ref_takes v0 v1 h).bind fun h5 => (Ref_canStep v0 h5).bind fun r8 => if r8.1 = (0 : Int32) then some ((-3 : Int32), r8.2) else (Ref_keeps v0 (0 : Int32) r8.2).bind fun h13 => (Ref_steps v0 h13).bind fun h16 => (Ref_puts v0 v1 h16).bind fun h19 => (Ref_placeOf v1 h19).bind fun x22 => (gR h19 12 v0 2).bind fun x24 => (gR h19 12 v0 2).bind fun x26 => (aI h19 0 x26 (x22 + (1 : Int32))).bind fun x28 => (Ref_lesser (9999 : Int32) (x28 + (1 : Int32)) h19).bind fun x30 => (sI h19 x24 (x22 + (1 : Int32)) x30).bind fun h32 => (gR h32 12 v0 2).bind fun x35 => (aI h32 0 x35 (x22 + (1 : Int32))).bind fun x37 => some (x37, h32) else none
set_option maxHeartbeats 1000000 in
set_option maxRecDepth 100000 in
theorem Ref_stepsKept_s {v0 : Nat} {v1 : Int32} {h : am_H} {r : (Int32 × am_H)} (hb : Ref_stepsKept v0 v1 h = some r) : Sx 89 mX12_stepsKept 0 (am_en [.ref v0, .int v1] 3) [] h (some (.int r.1)) r.2 := by
  unfold Ref_stepsKept at hb
  have hb := (iz hb).2
  show Sx 89 mX12_stepsKept 0 [.ref v0, .int v1, .retAddr 0] [] h (some (.int r.1)) r.2
  refine Sx.o (fun _ _ _ k => ex_aload_n dX12_stepsKept_0 rfl rfl k) ?_
  refine Sx.o (fun _ _ _ k => ex_iload_n dX12_stepsKept_1 rfl k) ?_
  obtain ⟨x1, e_x1, hb2⟩ := ob2 hb
  refine sx_callV (dc := 1) (as := [.int v1]) (stq := [.int x1]) (by omega) dX12_stepsKept_2 MX12_isHeap kX12_122 iX12_isHeap sX12_isHeap rfl rfl (Ref_isHeap_o e_x1) rfl rfl (Nat.le_of_ble_eq_true rfl) (Nat.le_of_ble_eq_true rfl) (Ref_isHeap_s e_x1) rfl ?_
  refine Sx.bn (fun _ _ _ k1 k2 => ex_if_ne 11 dX12_stepsKept_5 (by decide) k1 k2) (fun q => ?_) (fun q => ?_)
  · have hb3 := iq q hb2
    refine Sx.o (fun _ _ _ k => ex_aload_n dX12_stepsKept_11 rfl rfl k) ?_
    refine Sx.o (fun _ _ _ k => ex_iload_n dX12_stepsKept_12 rfl k) ?_
    obtain ⟨h5, e_h5, hb6⟩ := ob2 hb3
    refine sx_callV (dc := 2) (as := [.int v1]) (stq := []) (by omega) dX12_stepsKept_13 MX12_takes kX12_126 iX12_takes sX12_takes rfl rfl (Ref_takes_o e_h5) rfl rfl (Nat.le_of_ble_eq_true rfl) (Nat.le_of_ble_eq_true rfl) (Ref_takes_s e_h5) rfl ?_
    refine Sx.o (fun _ _ _ k => ex_aload_n dX12_stepsKept_16 rfl rfl k) ?_
    obtain ⟨r8, e_r8, hb9⟩ := ob2 hb6
    refine sx_callV (dc := 88) (as := []) (stq := [.int r8.1]) (by omega) dX12_stepsKept_17 MX12_canStep kX12_350 iX12_canStep sX12_canStep rfl rfl (Ref_canStep_o e_r8) rfl rfl (Nat.le_of_ble_eq_true rfl) (Nat.le_of_ble_eq_true rfl) (Ref_canStep_s e_r8) rfl ?_
    refine Sx.bn (fun _ _ _ k1 k2 => ex_if_ne 26 dX12_stepsKept_20 (by decide) k1 k2) (fun q => ?_) (fun q => ?_)
    · have hb11 := iq q hb9
      refine Sx.o (fun _ _ _ k => ex_aload_n dX12_stepsKept_26 rfl rfl k) ?_
      refine Sx.o (fun _ _ _ k => op_iconst (0 : Int32) dX12_stepsKept_27 (by decide) k) ?_
      obtain ⟨h13, e_h13, hb14⟩ := ob2 hb11
      refine sx_callV (dc := 0) (as := [.int (0 : Int32)]) (stq := []) (by omega) dX12_stepsKept_28 MX12_keeps kX12_356 iX12_keeps sX12_keeps rfl rfl (Ref_keeps_o e_h13) rfl rfl (Nat.le_of_ble_eq_true rfl) (Nat.le_of_ble_eq_true rfl) (Ref_keeps_s e_h13) rfl ?_
      refine Sx.o (fun _ _ _ k => ex_aload_n dX12_stepsKept_31 rfl rfl k) ?_
      obtain ⟨h16, e_h16, hb17⟩ := ob2 hb14
      refine sx_callV (dc := 87) (as := []) (stq := []) (by omega) dX12_stepsKept_32 MX12_steps kX12_343 iX12_steps sX12_steps rfl rfl (Ref_steps_o e_h16) rfl rfl (Nat.le_of_ble_eq_true rfl) (Nat.le_of_ble_eq_true rfl) (Ref_steps_s e_h16) rfl ?_
      refine Sx.o (fun _ _ _ k => ex_aload_n dX12_stepsKept_35 rfl rfl k) ?_
      refine Sx.o (fun _ _ _ k => ex_iload_n dX12_stepsKept_36 rfl k) ?_
      obtain ⟨h19, e_h19, hb20⟩ := ob2 hb17
      refine sx_callV (dc := 1) (as := [.int v1]) (stq := []) (by omega) dX12_stepsKept_37 MX12_puts kX12_359 iX12_puts sX12_puts rfl rfl (Ref_puts_o e_h19) rfl rfl (Nat.le_of_ble_eq_true rfl) (Nat.le_of_ble_eq_true rfl) (Ref_puts_s e_h19) rfl ?_
      refine Sx.o (fun _ _ _ k => ex_iload_n dX12_stepsKept_40 rfl k) ?_
      obtain ⟨x22, e_x22, hb23⟩ := ob2 hb20
      refine sx_callS (dc := 0) (as := [.int v1]) (stq := [.int x22]) (by omega) dX12_stepsKept_41 MX12_placeOf kX12_112 tX12_placeOf rfl rfl (Nat.le_of_ble_eq_true rfl) (Nat.le_of_ble_eq_true rfl) (Ref_placeOf_s e_x22) rfl ?_
      refine Sx.o (fun _ _ _ k => op_iconst (1 : Int32) dX12_stepsKept_44 (by decide) k) ?_
      refine Sx.o (fun _ _ _ k => ex_iadd dX12_stepsKept_45 k) ?_
      refine Sx.o (L' := [.ref v0, .int v1, .int (x22 + (1 : Int32))]) (fun _ _ _ k => ex_istore_n dX12_stepsKept_46 (by decide) k) ?_
      refine Sx.o (fun _ _ _ k => ex_aload_n dX12_stepsKept_47 rfl rfl k) ?_
      obtain ⟨x24, e_x24, hb25⟩ := ob2 hb23
      refine Sx.o (fun _ _ _ k => op_getR fX12_24 dX12_stepsKept_48 e_x24 k) ?_
      refine Sx.o (fun _ _ _ k => ex_iload_n dX12_stepsKept_51 rfl k) ?_
      refine Sx.o (fun _ _ _ k => op_sipush (9999 : Int32) dX12_stepsKept_52 (by decide) k) ?_
      refine Sx.o (fun _ _ _ k => ex_aload_n dX12_stepsKept_55 rfl rfl k) ?_
      obtain ⟨x26, e_x26, hb27⟩ := ob2 hb25
      refine Sx.o (fun _ _ _ k => op_getR fX12_24 dX12_stepsKept_56 e_x26 k) ?_
      refine Sx.o (fun _ _ _ k => ex_iload_n dX12_stepsKept_59 rfl k) ?_
      obtain ⟨x28, e_x28, hb29⟩ := ob2 hb27
      refine Sx.o (fun _ _ _ k => op_iald dX12_stepsKept_60 e_x28 k) ?_
      refine Sx.o (fun _ _ _ k => op_iconst (1 : Int32) dX12_stepsKept_61 (by decide) k) ?_
      refine Sx.o (fun _ _ _ k => ex_iadd dX12_stepsKept_62 k) ?_
      obtain ⟨x30, e_x30, hb31⟩ := ob2 hb29
      refine sx_callS (dc := 0) (as := [.int (9999 : Int32), .int (x28 + (1 : Int32))]) (stq := [.int x30, .int (x22 + (1 : Int32)), .ref x24]) (by omega) dX12_stepsKept_63 MX12_lesser kX12_362 tX12_lesser rfl rfl (Nat.le_of_ble_eq_true rfl) (Nat.le_of_ble_eq_true rfl) (Ref_lesser_s e_x30) rfl ?_
      obtain ⟨h32, e_h32, hb33⟩ := ob2 hb31
      refine Sx.p (sI_q e_h32) (fun _ _ _ k => op_iast dX12_stepsKept_66 e_h32 k) ?_
      refine Sx.o (fun _ _ _ k => ex_aload_n dX12_stepsKept_67 rfl rfl k) ?_
      obtain ⟨x35, e_x35, hb36⟩ := ob2 hb33
      refine Sx.o (fun _ _ _ k => op_getR fX12_24 dX12_stepsKept_68 e_x35 k) ?_
      refine Sx.o (fun _ _ _ k => ex_iload_n dX12_stepsKept_71 rfl k) ?_
      obtain ⟨x37, e_x37, hb38⟩ := ob2 hb36
      refine Sx.o (fun _ _ _ k => op_iald dX12_stepsKept_72 e_x37 k) ?_
      obtain rfl := Option.some.inj hb38
      exact Sx.r (fun _ _ _ k => ex_iret rfl dX12_stepsKept_73 k)
    · have hb12 := ip q hb9
      refine Sx.o (fun _ _ _ k => op_bipush (-3 : Int32) dX12_stepsKept_23 (by decide) k) ?_
      obtain rfl := Option.some.inj hb12
      exact Sx.r (fun _ _ _ k => ex_iret rfl dX12_stepsKept_25 k)
  · have hb4 := ip q hb2
    refine Sx.o (fun _ _ _ k => op_bipush (-2 : Int32) dX12_stepsKept_8 (by decide) k) ?_
    obtain rfl := Option.some.inj hb4
    exact Sx.r (fun _ _ _ k => ex_iret rfl dX12_stepsKept_10 k)
set_option maxHeartbeats 1000000 in
set_option maxRecDepth 100000 in
theorem Ref_stepsKept_q {v0 : Nat} {v1 : Int32} {h : am_H} {r : (Int32 × am_H)} (hb : Ref_stepsKept v0 v1 h = some r) : Eqs h r.2 := by
  unfold Ref_stepsKept at hb
  have hb := (iz hb).2
  have w0 := Eqs.rf h
  obtain ⟨x1, e_x1, hb2⟩ := ob2 hb
  by_cases q : x1 = (0 : Int32)
  · have hb4 := ip q hb2
    obtain rfl := Option.some.inj hb4
    exact w0
  · have hb3 := iq q hb2
    obtain ⟨h5, e_h5, hb6⟩ := ob2 hb3
    have w7 := w0.tr (Ref_takes_q e_h5)
    obtain ⟨r8, e_r8, hb9⟩ := ob2 hb6
    have w10 := w7.tr (Ref_canStep_q e_r8)
    by_cases q : r8.1 = (0 : Int32)
    · have hb12 := ip q hb9
      obtain rfl := Option.some.inj hb12
      exact w10
    · have hb11 := iq q hb9
      obtain ⟨h13, e_h13, hb14⟩ := ob2 hb11
      have w15 := w10.tr (Ref_keeps_q e_h13)
      obtain ⟨h16, e_h16, hb17⟩ := ob2 hb14
      have w18 := w15.tr (Ref_steps_q e_h16)
      obtain ⟨h19, e_h19, hb20⟩ := ob2 hb17
      have w21 := w18.tr (Ref_puts_q e_h19)
      obtain ⟨x22, e_x22, hb23⟩ := ob2 hb20
      obtain ⟨x24, e_x24, hb25⟩ := ob2 hb23
      obtain ⟨x26, e_x26, hb27⟩ := ob2 hb25
      obtain ⟨x28, e_x28, hb29⟩ := ob2 hb27
      obtain ⟨x30, e_x30, hb31⟩ := ob2 hb29
      obtain ⟨h32, e_h32, hb33⟩ := ob2 hb31
      have w34 := w21.tr (sI_q e_h32)
      obtain ⟨x35, e_x35, hb36⟩ := ob2 hb33
      obtain ⟨x37, e_x37, hb38⟩ := ob2 hb36
      obtain rfl := Option.some.inj hb38
      exact w34
theorem Ref_stepsKept_o {v0 : Nat} {v1 : Int32} {h : am_H} {r : (Int32 × am_H)} (hb : Ref_stepsKept v0 v1 h = some r) : isO h 12 v0 = true := by
  unfold Ref_stepsKept at hb
  exact (iz hb).1
set_option maxHeartbeats 1000000 in
set_option maxRecDepth 100000 in
noncomputable def Ref_swapsKept (v0 : Nat) (v1 : Int32) (v2 : Int32) (v3 : Int32) (h : am_H) : Option (Int32 × am_H) := if isO h 12 v0 = true then (Ref_isHeap v0 v1 h).bind fun x1 => if x1 = (0 : Int32) then some ((-2 : Int32), h) else (Ref_manyIn v0 v1 h).bind fun x5 => (Ref_lies v2 (0 : Int32) (x5 - (1 : Int32)) h).bind fun x7 => if x7 = (0 : Int32) then some ((-1 : Int32), h) else (Ref_manyIn v0 v1 h).bind fun x11 => (Ref_lies v3 (0 : Int32) (x11 - (1 : Int32)) h).bind fun x13 => if x13 = (0 : Int32) then some ((-1 : Int32), h) else if v2 = v3 then some ((-1 : Int32), h) else (Ref_keeps v0 (1 : Int32) h).bind fun h19 => (Ref_placeOf v1 h19).bind fun x22 => (gR h19 12 v0 2).bind fun x24 => (aI h19 0 x24 ((x22 + (3 : Int32)) + v2)).bind fun x26 => (gR h19 12 v0 2).bind fun x28 => (gR h19 12 v0 2).bind fun x30 => (aI h19 0 x30 ((x22 + (3 : Int32)) + v3)).bind fun x32 => (sI h19 x28 ((x22 + (3 : Int32)) + v2) x32).bind fun h34 => (gR h34 12 v0 2).bind fun x37 => (sI h34 x37 ((x22 + (3 : Int32)) + v3) x26).bind fun h39 => (gR h39 12 v0 2).bind fun x42 => (aI h39 0 x42 (x22 + (3 : Int32))).bind fun x44 => some (x44, h39) else none
set_option maxHeartbeats 1000000 in
set_option maxRecDepth 100000 in
theorem Ref_swapsKept_s {v0 : Nat} {v1 : Int32} {v2 : Int32} {v3 : Int32} {h : am_H} {r : (Int32 × am_H)} (hb : Ref_swapsKept v0 v1 v2 v3 h = some r) : Sx 2 mX12_swapsKept 0 (am_en [.ref v0, .int v1, .int v2, .int v3] 6) [] h (some (.int r.1)) r.2 := by
  unfold Ref_swapsKept at hb
  have hb := (iz hb).2
  show Sx 2 mX12_swapsKept 0 [.ref v0, .int v1, .int v2, .int v3, .retAddr 0, .retAddr 0] [] h (some (.int r.1)) r.2
  refine Sx.o (fun _ _ _ k => ex_aload_n dX12_swapsKept_0 rfl rfl k) ?_
  refine Sx.o (fun _ _ _ k => ex_iload_n dX12_swapsKept_1 rfl k) ?_
  obtain ⟨x1, e_x1, hb2⟩ := ob2 hb
  refine sx_callV (dc := 1) (as := [.int v1]) (stq := [.int x1]) (by omega) dX12_swapsKept_2 MX12_isHeap kX12_122 iX12_isHeap sX12_isHeap rfl rfl (Ref_isHeap_o e_x1) rfl rfl (Nat.le_of_ble_eq_true rfl) (Nat.le_of_ble_eq_true rfl) (Ref_isHeap_s e_x1) rfl ?_
  refine Sx.bn (fun _ _ _ k1 k2 => ex_if_ne 11 dX12_swapsKept_5 (by decide) k1 k2) (fun q => ?_) (fun q => ?_)
  · have hb3 := iq q hb2
    refine Sx.o (fun _ _ _ k => ex_iload_n dX12_swapsKept_11 rfl k) ?_
    refine Sx.o (fun _ _ _ k => op_iconst (0 : Int32) dX12_swapsKept_12 (by decide) k) ?_
    refine Sx.o (fun _ _ _ k => ex_aload_n dX12_swapsKept_13 rfl rfl k) ?_
    refine Sx.o (fun _ _ _ k => ex_iload_n dX12_swapsKept_14 rfl k) ?_
    obtain ⟨x5, e_x5, hb6⟩ := ob2 hb3
    refine sx_callV (dc := 1) (as := [.int v1]) (stq := [.int x5, .int (0 : Int32), .int v2]) (by omega) dX12_swapsKept_15 MX12_manyIn kX12_316 iX12_manyIn sX12_manyIn rfl rfl (Ref_manyIn_o e_x5) rfl rfl (Nat.le_of_ble_eq_true rfl) (Nat.le_of_ble_eq_true rfl) (Ref_manyIn_s e_x5) rfl ?_
    refine Sx.o (fun _ _ _ k => op_iconst (1 : Int32) dX12_swapsKept_18 (by decide) k) ?_
    refine Sx.o (fun _ _ _ k => ex_isub dX12_swapsKept_19 k) ?_
    obtain ⟨x7, e_x7, hb8⟩ := ob2 hb6
    refine sx_callS (dc := 0) (as := [.int v2, .int (0 : Int32), .int (x5 - (1 : Int32))]) (stq := [.int x7]) (by omega) dX12_swapsKept_20 MX12_lies kX12_102 tX12_lies rfl rfl (Nat.le_of_ble_eq_true rfl) (Nat.le_of_ble_eq_true rfl) (Ref_lies_s e_x7) rfl ?_
    refine Sx.b (fun _ _ _ k1 k2 => ex_if_eq 46 dX12_swapsKept_23 (by decide) k1 k2) (fun q => ?_) (fun q => ?_)
    · have hb9 := ip q hb8
      refine Sx.o (fun _ _ _ k => op_iconst (-1 : Int32) dX12_swapsKept_46 (by decide) k) ?_
      obtain rfl := Option.some.inj hb9
      exact Sx.r (fun _ _ _ k => ex_iret rfl dX12_swapsKept_47 k)
    · have hb10 := iq q hb8
      refine Sx.o (fun _ _ _ k => ex_iload_n dX12_swapsKept_26 rfl k) ?_
      refine Sx.o (fun _ _ _ k => op_iconst (0 : Int32) dX12_swapsKept_27 (by decide) k) ?_
      refine Sx.o (fun _ _ _ k => ex_aload_n dX12_swapsKept_28 rfl rfl k) ?_
      refine Sx.o (fun _ _ _ k => ex_iload_n dX12_swapsKept_29 rfl k) ?_
      obtain ⟨x11, e_x11, hb12⟩ := ob2 hb10
      refine sx_callV (dc := 1) (as := [.int v1]) (stq := [.int x11, .int (0 : Int32), .int v3]) (by omega) dX12_swapsKept_30 MX12_manyIn kX12_316 iX12_manyIn sX12_manyIn rfl rfl (Ref_manyIn_o e_x11) rfl rfl (Nat.le_of_ble_eq_true rfl) (Nat.le_of_ble_eq_true rfl) (Ref_manyIn_s e_x11) rfl ?_
      refine Sx.o (fun _ _ _ k => op_iconst (1 : Int32) dX12_swapsKept_33 (by decide) k) ?_
      refine Sx.o (fun _ _ _ k => ex_isub dX12_swapsKept_34 k) ?_
      obtain ⟨x13, e_x13, hb14⟩ := ob2 hb12
      refine sx_callS (dc := 0) (as := [.int v3, .int (0 : Int32), .int (x11 - (1 : Int32))]) (stq := [.int x13]) (by omega) dX12_swapsKept_35 MX12_lies kX12_102 tX12_lies rfl rfl (Nat.le_of_ble_eq_true rfl) (Nat.le_of_ble_eq_true rfl) (Ref_lies_s e_x13) rfl ?_
      refine Sx.b (fun _ _ _ k1 k2 => ex_if_eq 46 dX12_swapsKept_38 (by decide) k1 k2) (fun q => ?_) (fun q => ?_)
      · have hb15 := ip q hb14
        refine Sx.o (fun _ _ _ k => op_iconst (-1 : Int32) dX12_swapsKept_46 (by decide) k) ?_
        obtain rfl := Option.some.inj hb15
        exact Sx.r (fun _ _ _ k => ex_iret rfl dX12_swapsKept_47 k)
      · have hb16 := iq q hb14
        refine Sx.o (fun _ _ _ k => ex_iload_n dX12_swapsKept_41 rfl k) ?_
        refine Sx.o (fun _ _ _ k => ex_iload_n dX12_swapsKept_42 rfl k) ?_
        refine Sx.bn (fun _ _ _ k1 k2 => ex_icmp_ne 48 dX12_swapsKept_43 (by decide) k1 k2) (fun q => ?_) (fun q => ?_)
        · have hb17 := iq q hb16
          refine Sx.o (fun _ _ _ k => ex_aload_n dX12_swapsKept_48 rfl rfl k) ?_
          refine Sx.o (fun _ _ _ k => op_iconst (1 : Int32) dX12_swapsKept_49 (by decide) k) ?_
          obtain ⟨h19, e_h19, hb20⟩ := ob2 hb17
          refine sx_callV (dc := 0) (as := [.int (1 : Int32)]) (stq := []) (by omega) dX12_swapsKept_50 MX12_keeps kX12_356 iX12_keeps sX12_keeps rfl rfl (Ref_keeps_o e_h19) rfl rfl (Nat.le_of_ble_eq_true rfl) (Nat.le_of_ble_eq_true rfl) (Ref_keeps_s e_h19) rfl ?_
          refine Sx.o (fun _ _ _ k => ex_iload_n dX12_swapsKept_53 rfl k) ?_
          obtain ⟨x22, e_x22, hb23⟩ := ob2 hb20
          refine sx_callS (dc := 0) (as := [.int v1]) (stq := [.int x22]) (by omega) dX12_swapsKept_54 MX12_placeOf kX12_112 tX12_placeOf rfl rfl (Nat.le_of_ble_eq_true rfl) (Nat.le_of_ble_eq_true rfl) (Ref_placeOf_s e_x22) rfl ?_
          refine Sx.o (fun _ _ _ k => op_iconst (3 : Int32) dX12_swapsKept_57 (by decide) k) ?_
          refine Sx.o (fun _ _ _ k => ex_iadd dX12_swapsKept_58 k) ?_
          refine Sx.o (L' := [.ref v0, .int v1, .int v2, .int v3, .int (x22 + (3 : Int32)), .retAddr 0]) (fun _ _ _ k => ex_istore dX12_swapsKept_59 (by decide) k) ?_
          refine Sx.o (fun _ _ _ k => ex_aload_n dX12_swapsKept_61 rfl rfl k) ?_
          obtain ⟨x24, e_x24, hb25⟩ := ob2 hb23
          refine Sx.o (fun _ _ _ k => op_getR fX12_24 dX12_swapsKept_62 e_x24 k) ?_
          refine Sx.o (fun _ _ _ k => ex_iload dX12_swapsKept_65 rfl k) ?_
          refine Sx.o (fun _ _ _ k => ex_iload_n dX12_swapsKept_67 rfl k) ?_
          refine Sx.o (fun _ _ _ k => ex_iadd dX12_swapsKept_68 k) ?_
          obtain ⟨x26, e_x26, hb27⟩ := ob2 hb25
          refine Sx.o (fun _ _ _ k => op_iald dX12_swapsKept_69 e_x26 k) ?_
          refine Sx.o (L' := [.ref v0, .int v1, .int v2, .int v3, .int (x22 + (3 : Int32)), .int x26]) (fun _ _ _ k => ex_istore dX12_swapsKept_70 (by decide) k) ?_
          refine Sx.o (fun _ _ _ k => ex_aload_n dX12_swapsKept_72 rfl rfl k) ?_
          obtain ⟨x28, e_x28, hb29⟩ := ob2 hb27
          refine Sx.o (fun _ _ _ k => op_getR fX12_24 dX12_swapsKept_73 e_x28 k) ?_
          refine Sx.o (fun _ _ _ k => ex_iload dX12_swapsKept_76 rfl k) ?_
          refine Sx.o (fun _ _ _ k => ex_iload_n dX12_swapsKept_78 rfl k) ?_
          refine Sx.o (fun _ _ _ k => ex_iadd dX12_swapsKept_79 k) ?_
          refine Sx.o (fun _ _ _ k => ex_aload_n dX12_swapsKept_80 rfl rfl k) ?_
          obtain ⟨x30, e_x30, hb31⟩ := ob2 hb29
          refine Sx.o (fun _ _ _ k => op_getR fX12_24 dX12_swapsKept_81 e_x30 k) ?_
          refine Sx.o (fun _ _ _ k => ex_iload dX12_swapsKept_84 rfl k) ?_
          refine Sx.o (fun _ _ _ k => ex_iload_n dX12_swapsKept_86 rfl k) ?_
          refine Sx.o (fun _ _ _ k => ex_iadd dX12_swapsKept_87 k) ?_
          obtain ⟨x32, e_x32, hb33⟩ := ob2 hb31
          refine Sx.o (fun _ _ _ k => op_iald dX12_swapsKept_88 e_x32 k) ?_
          obtain ⟨h34, e_h34, hb35⟩ := ob2 hb33
          refine Sx.p (sI_q e_h34) (fun _ _ _ k => op_iast dX12_swapsKept_89 e_h34 k) ?_
          refine Sx.o (fun _ _ _ k => ex_aload_n dX12_swapsKept_90 rfl rfl k) ?_
          obtain ⟨x37, e_x37, hb38⟩ := ob2 hb35
          refine Sx.o (fun _ _ _ k => op_getR fX12_24 dX12_swapsKept_91 e_x37 k) ?_
          refine Sx.o (fun _ _ _ k => ex_iload dX12_swapsKept_94 rfl k) ?_
          refine Sx.o (fun _ _ _ k => ex_iload_n dX12_swapsKept_96 rfl k) ?_
          refine Sx.o (fun _ _ _ k => ex_iadd dX12_swapsKept_97 k) ?_
          refine Sx.o (fun _ _ _ k => ex_iload dX12_swapsKept_98 rfl k) ?_
          obtain ⟨h39, e_h39, hb40⟩ := ob2 hb38
          refine Sx.p (sI_q e_h39) (fun _ _ _ k => op_iast dX12_swapsKept_100 e_h39 k) ?_
          refine Sx.o (fun _ _ _ k => ex_aload_n dX12_swapsKept_101 rfl rfl k) ?_
          obtain ⟨x42, e_x42, hb43⟩ := ob2 hb40
          refine Sx.o (fun _ _ _ k => op_getR fX12_24 dX12_swapsKept_102 e_x42 k) ?_
          refine Sx.o (fun _ _ _ k => ex_iload dX12_swapsKept_105 rfl k) ?_
          obtain ⟨x44, e_x44, hb45⟩ := ob2 hb43
          refine Sx.o (fun _ _ _ k => op_iald dX12_swapsKept_107 e_x44 k) ?_
          obtain rfl := Option.some.inj hb45
          exact Sx.r (fun _ _ _ k => ex_iret rfl dX12_swapsKept_108 k)
        · have hb18 := ip q hb16
          refine Sx.o (fun _ _ _ k => op_iconst (-1 : Int32) dX12_swapsKept_46 (by decide) k) ?_
          obtain rfl := Option.some.inj hb18
          exact Sx.r (fun _ _ _ k => ex_iret rfl dX12_swapsKept_47 k)
  · have hb4 := ip q hb2
    refine Sx.o (fun _ _ _ k => op_bipush (-2 : Int32) dX12_swapsKept_8 (by decide) k) ?_
    obtain rfl := Option.some.inj hb4
    exact Sx.r (fun _ _ _ k => ex_iret rfl dX12_swapsKept_10 k)
set_option maxHeartbeats 1000000 in
set_option maxRecDepth 100000 in
theorem Ref_swapsKept_q {v0 : Nat} {v1 : Int32} {v2 : Int32} {v3 : Int32} {h : am_H} {r : (Int32 × am_H)} (hb : Ref_swapsKept v0 v1 v2 v3 h = some r) : Eqs h r.2 := by
  unfold Ref_swapsKept at hb
  have hb := (iz hb).2
  have w0 := Eqs.rf h
  obtain ⟨x1, e_x1, hb2⟩ := ob2 hb
  by_cases q : x1 = (0 : Int32)
  · have hb4 := ip q hb2
    obtain rfl := Option.some.inj hb4
    exact w0
  · have hb3 := iq q hb2
    obtain ⟨x5, e_x5, hb6⟩ := ob2 hb3
    obtain ⟨x7, e_x7, hb8⟩ := ob2 hb6
    by_cases q : x7 = (0 : Int32)
    · have hb9 := ip q hb8
      obtain rfl := Option.some.inj hb9
      exact w0
    · have hb10 := iq q hb8
      obtain ⟨x11, e_x11, hb12⟩ := ob2 hb10
      obtain ⟨x13, e_x13, hb14⟩ := ob2 hb12
      by_cases q : x13 = (0 : Int32)
      · have hb15 := ip q hb14
        obtain rfl := Option.some.inj hb15
        exact w0
      · have hb16 := iq q hb14
        by_cases q : v2 = v3
        · have hb18 := ip q hb16
          obtain rfl := Option.some.inj hb18
          exact w0
        · have hb17 := iq q hb16
          obtain ⟨h19, e_h19, hb20⟩ := ob2 hb17
          have w21 := w0.tr (Ref_keeps_q e_h19)
          obtain ⟨x22, e_x22, hb23⟩ := ob2 hb20
          obtain ⟨x24, e_x24, hb25⟩ := ob2 hb23
          obtain ⟨x26, e_x26, hb27⟩ := ob2 hb25
          obtain ⟨x28, e_x28, hb29⟩ := ob2 hb27
          obtain ⟨x30, e_x30, hb31⟩ := ob2 hb29
          obtain ⟨x32, e_x32, hb33⟩ := ob2 hb31
          obtain ⟨h34, e_h34, hb35⟩ := ob2 hb33
          have w36 := w21.tr (sI_q e_h34)
          obtain ⟨x37, e_x37, hb38⟩ := ob2 hb35
          obtain ⟨h39, e_h39, hb40⟩ := ob2 hb38
          have w41 := w36.tr (sI_q e_h39)
          obtain ⟨x42, e_x42, hb43⟩ := ob2 hb40
          obtain ⟨x44, e_x44, hb45⟩ := ob2 hb43
          obtain rfl := Option.some.inj hb45
          exact w41
theorem Ref_swapsKept_o {v0 : Nat} {v1 : Int32} {v2 : Int32} {v3 : Int32} {h : am_H} {r : (Int32 × am_H)} (hb : Ref_swapsKept v0 v1 v2 v3 h = some r) : isO h 12 v0 = true := by
  unfold Ref_swapsKept at hb
  exact (iz hb).1
set_option maxHeartbeats 1000000 in
set_option maxRecDepth 100000 in
noncomputable def Ref_obeys_86 (v3 : Int32) (s0 : Int32) (s1 : Int32) (s2 : Nat) (h : am_H) : Option (Int32 × am_H) := (sI h s2 s1 s0).bind fun h1 => some (v3, h1)
set_option maxHeartbeats 1000000 in
set_option maxRecDepth 100000 in
theorem Ref_obeys_86_s {v3 : Int32} {s0 : Int32} {s1 : Int32} {s2 : Nat} {h : am_H} {r : (Int32 × am_H)} (hb : Ref_obeys_86 v3 s0 s1 s2 h = some r) : Sx 90 mX12_obeys 86 [.retAddr 0, .retAddr 0, .retAddr 0, .int v3] [.int s0, .int s1, .ref s2] h (some (.int r.1)) r.2 := by
  unfold Ref_obeys_86 at hb
  obtain ⟨h1, e_h1, hb2⟩ := ob2 hb
  refine Sx.p (sI_q e_h1) (fun _ _ _ k => op_iast dX12_obeys_86 e_h1 k) ?_
  refine Sx.o (fun _ _ _ k => ex_iload_n dX12_obeys_87 rfl k) ?_
  obtain rfl := Option.some.inj hb2
  exact Sx.r (fun _ _ _ k => ex_iret rfl dX12_obeys_88 k)
set_option maxHeartbeats 1000000 in
set_option maxRecDepth 100000 in
theorem Ref_obeys_86_q {v3 : Int32} {s0 : Int32} {s1 : Int32} {s2 : Nat} {h : am_H} {r : (Int32 × am_H)} (hb : Ref_obeys_86 v3 s0 s1 s2 h = some r) : Eqs h r.2 := by
  unfold Ref_obeys_86 at hb
  have w0 := Eqs.rf h
  obtain ⟨h1, e_h1, hb2⟩ := ob2 hb
  have w3 := w0.tr (sI_q e_h1)
  obtain rfl := Option.some.inj hb2
  exact w3
set_option maxHeartbeats 1000000 in
set_option maxRecDepth 100000 in
noncomputable def Ref_obeys (v0 : Nat) (h : am_H) : Option (Int32 × am_H) := if isO h 12 v0 = true then (gR h 12 v0 52).bind fun x4 => (aJ h x4 (0 : Int32)).bind fun x6 => (Ref_small x6 h).bind fun x8 => (gR h 12 v0 52).bind fun x10 => (aJ h x10 (1 : Int32)).bind fun x12 => (Ref_small x12 h).bind fun x14 => (gI h 12 v0 49).bind fun x16 => if x16 = (21 : Int32) then (gR h 12 v0 52).bind fun x38 => (aJ h x38 (2 : Int32)).bind fun x40 => (Ref_small x40 h).bind fun x42 => (Ref_swapsKept v0 x42 x8 x14 h).bind fun r44 => some (r44.1, r44.2) else (gI h 12 v0 49).bind fun x20 => if x20 = (24 : Int32) then (Ref_cutsKept v0 x14 x8 h).bind fun r35 => some (r35.1, r35.2) else (Ref_stepsKept v0 x8 h).bind fun r24 => (gR r24.2 12 v0 28).bind fun x27 => if (0 : Int32) ≤ r24.1 then Ref_obeys_86 r24.1 r24.1 (2 : Int32) x27 r24.2 else (gR r24.2 12 v0 28).bind fun x31 => (aI r24.2 0 x31 (2 : Int32)).bind fun x33 => Ref_obeys_86 r24.1 x33 (2 : Int32) x27 r24.2 else none
set_option maxHeartbeats 1000000 in
set_option maxRecDepth 100000 in
theorem Ref_obeys_s {v0 : Nat} {h : am_H} {r : (Int32 × am_H)} (hb : Ref_obeys v0 h = some r) : Sx 90 mX12_obeys 0 (am_en [.ref v0] 4) [] h (some (.int r.1)) r.2 := by
  unfold Ref_obeys at hb
  have hb := (iz hb).2
  show Sx 90 mX12_obeys 0 [.ref v0, .retAddr 0, .retAddr 0, .retAddr 0] [] h (some (.int r.1)) r.2
  refine Sx.o (fun _ _ _ k => ex_aload_n dX12_obeys_0 rfl rfl k) ?_
  obtain ⟨x4, e_x4, hb5⟩ := ob2 hb
  refine Sx.o (fun _ _ _ k => op_getR fX12_92 dX12_obeys_1 e_x4 k) ?_
  refine Sx.o (fun _ _ _ k => op_iconst (0 : Int32) dX12_obeys_4 (by decide) k) ?_
  obtain ⟨x6, e_x6, hb7⟩ := ob2 hb5
  refine Sx.o (fun _ _ _ k => op_lald dX12_obeys_5 e_x6 k) ?_
  obtain ⟨x8, e_x8, hb9⟩ := ob2 hb7
  refine sx_callS (dc := 0) (as := [.long x6]) (stq := [.int x8]) (by omega) dX12_obeys_6 MX12_small kX12_451 tX12_small rfl rfl (Nat.le_of_ble_eq_true rfl) (Nat.le_of_ble_eq_true rfl) (Ref_small_s e_x8) rfl ?_
  refine Sx.o (L' := [.ref v0, .int x8, .retAddr 0, .retAddr 0]) (fun _ _ _ k => ex_istore_n dX12_obeys_9 (by decide) k) ?_
  refine Sx.o (fun _ _ _ k => ex_aload_n dX12_obeys_10 rfl rfl k) ?_
  obtain ⟨x10, e_x10, hb11⟩ := ob2 hb9
  refine Sx.o (fun _ _ _ k => op_getR fX12_92 dX12_obeys_11 e_x10 k) ?_
  refine Sx.o (fun _ _ _ k => op_iconst (1 : Int32) dX12_obeys_14 (by decide) k) ?_
  obtain ⟨x12, e_x12, hb13⟩ := ob2 hb11
  refine Sx.o (fun _ _ _ k => op_lald dX12_obeys_15 e_x12 k) ?_
  obtain ⟨x14, e_x14, hb15⟩ := ob2 hb13
  refine sx_callS (dc := 0) (as := [.long x12]) (stq := [.int x14]) (by omega) dX12_obeys_16 MX12_small kX12_451 tX12_small rfl rfl (Nat.le_of_ble_eq_true rfl) (Nat.le_of_ble_eq_true rfl) (Ref_small_s e_x14) rfl ?_
  refine Sx.o (L' := [.ref v0, .int x8, .int x14, .retAddr 0]) (fun _ _ _ k => ex_istore_n dX12_obeys_19 (by decide) k) ?_
  refine Sx.o (fun _ _ _ k => ex_aload_n dX12_obeys_20 rfl rfl k) ?_
  obtain ⟨x16, e_x16, hb17⟩ := ob2 hb15
  refine Sx.o (fun _ _ _ k => op_getI fX12_437 dX12_obeys_21 e_x16 k) ?_
  refine Sx.o (fun _ _ _ k => op_bipush (21 : Int32) dX12_obeys_24 (by decide) k) ?_
  refine Sx.bn (fun _ _ _ k1 k2 => ex_icmp_ne 45 dX12_obeys_26 (by decide) k1 k2) (fun q => ?_) (fun q => ?_)
  · have hb18 := iq q hb17
    refine Sx.o (fun _ _ _ k => ex_aload_n dX12_obeys_45 rfl rfl k) ?_
    obtain ⟨x20, e_x20, hb21⟩ := ob2 hb18
    refine Sx.o (fun _ _ _ k => op_getI fX12_437 dX12_obeys_46 e_x20 k) ?_
    refine Sx.o (fun _ _ _ k => op_bipush (24 : Int32) dX12_obeys_49 (by decide) k) ?_
    refine Sx.bn (fun _ _ _ k1 k2 => ex_icmp_ne 61 dX12_obeys_51 (by decide) k1 k2) (fun q => ?_) (fun q => ?_)
    · have hb22 := iq q hb21
      refine Sx.o (fun _ _ _ k => ex_aload_n dX12_obeys_61 rfl rfl k) ?_
      refine Sx.o (fun _ _ _ k => ex_iload_n dX12_obeys_62 rfl k) ?_
      obtain ⟨r24, e_r24, hb25⟩ := ob2 hb22
      refine sx_callV (dc := 89) (as := [.int x8]) (stq := [.int r24.1]) (by omega) dX12_obeys_63 MX12_stepsKept kX12_365 iX12_stepsKept sX12_stepsKept rfl rfl (Ref_stepsKept_o e_r24) rfl rfl (Nat.le_of_ble_eq_true rfl) (Nat.le_of_ble_eq_true rfl) (Ref_stepsKept_s e_r24) rfl ?_
      refine Sx.o (L' := [.ref v0, .int x8, .int x14, .int r24.1]) (fun _ _ _ k => ex_istore_n dX12_obeys_66 (by decide) k) ?_
      refine Sx.o (fun _ _ _ k => ex_aload_n dX12_obeys_67 rfl rfl k) ?_
      obtain ⟨x27, e_x27, hb28⟩ := ob2 hb25
      refine Sx.o (fun _ _ _ k => op_getR fX12_62 dX12_obeys_68 e_x27 k) ?_
      refine Sx.o (fun _ _ _ k => op_iconst (2 : Int32) dX12_obeys_71 (by decide) k) ?_
      refine Sx.o (fun _ _ _ k => ex_iload_n dX12_obeys_72 rfl k) ?_
      refine Sx.b (fun _ _ _ k1 k2 => ex_if_ge 85 dX12_obeys_73 (by decide) k1 k2) (fun q => ?_) (fun q => ?_)
      · have hb29 := ip q hb28
        refine Sx.o (fun _ _ _ k => ex_iload_n dX12_obeys_85 rfl k) ?_
        refine Sx.fg [false, false, false, true] ?_
        exact Ref_obeys_86_s hb29
      · have hb30 := iq q hb28
        refine Sx.o (fun _ _ _ k => ex_aload_n dX12_obeys_76 rfl rfl k) ?_
        obtain ⟨x31, e_x31, hb32⟩ := ob2 hb30
        refine Sx.o (fun _ _ _ k => op_getR fX12_62 dX12_obeys_77 e_x31 k) ?_
        refine Sx.o (fun _ _ _ k => op_iconst (2 : Int32) dX12_obeys_80 (by decide) k) ?_
        obtain ⟨x33, e_x33, hb34⟩ := ob2 hb32
        refine Sx.o (fun _ _ _ k => op_iald dX12_obeys_81 e_x33 k) ?_
        refine Sx.o (fun _ _ _ k => ex_goto 86 dX12_obeys_82 (by decide) k) ?_
        refine Sx.fg [false, false, false, true] ?_
        exact Ref_obeys_86_s hb34
    · have hb23 := ip q hb21
      refine Sx.o (fun _ _ _ k => ex_aload_n dX12_obeys_54 rfl rfl k) ?_
      refine Sx.o (fun _ _ _ k => ex_iload_n dX12_obeys_55 rfl k) ?_
      refine Sx.o (fun _ _ _ k => ex_iload_n dX12_obeys_56 rfl k) ?_
      obtain ⟨r35, e_r35, hb36⟩ := ob2 hb23
      refine sx_callV (dc := 3) (as := [.int x14, .int x8]) (stq := [.int r35.1]) (by omega) dX12_obeys_57 MX12_cutsKept kX12_375 iX12_cutsKept sX12_cutsKept rfl rfl (Ref_cutsKept_o e_r35) rfl rfl (Nat.le_of_ble_eq_true rfl) (Nat.le_of_ble_eq_true rfl) (Ref_cutsKept_s e_r35) rfl ?_
      obtain rfl := Option.some.inj hb36
      exact Sx.r (fun _ _ _ k => ex_iret rfl dX12_obeys_60 k)
  · have hb19 := ip q hb17
    refine Sx.o (fun _ _ _ k => ex_aload_n dX12_obeys_29 rfl rfl k) ?_
    refine Sx.o (fun _ _ _ k => ex_aload_n dX12_obeys_30 rfl rfl k) ?_
    obtain ⟨x38, e_x38, hb39⟩ := ob2 hb19
    refine Sx.o (fun _ _ _ k => op_getR fX12_92 dX12_obeys_31 e_x38 k) ?_
    refine Sx.o (fun _ _ _ k => op_iconst (2 : Int32) dX12_obeys_34 (by decide) k) ?_
    obtain ⟨x40, e_x40, hb41⟩ := ob2 hb39
    refine Sx.o (fun _ _ _ k => op_lald dX12_obeys_35 e_x40 k) ?_
    obtain ⟨x42, e_x42, hb43⟩ := ob2 hb41
    refine sx_callS (dc := 0) (as := [.long x40]) (stq := [.int x42, .ref v0]) (by omega) dX12_obeys_36 MX12_small kX12_451 tX12_small rfl rfl (Nat.le_of_ble_eq_true rfl) (Nat.le_of_ble_eq_true rfl) (Ref_small_s e_x42) rfl ?_
    refine Sx.o (fun _ _ _ k => ex_iload_n dX12_obeys_39 rfl k) ?_
    refine Sx.o (fun _ _ _ k => ex_iload_n dX12_obeys_40 rfl k) ?_
    obtain ⟨r44, e_r44, hb45⟩ := ob2 hb43
    refine sx_callV (dc := 2) (as := [.int x42, .int x8, .int x14]) (stq := [.int r44.1]) (by omega) dX12_obeys_41 MX12_swapsKept kX12_371 iX12_swapsKept sX12_swapsKept rfl rfl (Ref_swapsKept_o e_r44) rfl rfl (Nat.le_of_ble_eq_true rfl) (Nat.le_of_ble_eq_true rfl) (Ref_swapsKept_s e_r44) rfl ?_
    obtain rfl := Option.some.inj hb45
    exact Sx.r (fun _ _ _ k => ex_iret rfl dX12_obeys_44 k)
set_option maxHeartbeats 1000000 in
set_option maxRecDepth 100000 in
theorem Ref_obeys_q {v0 : Nat} {h : am_H} {r : (Int32 × am_H)} (hb : Ref_obeys v0 h = some r) : Eqs h r.2 := by
  unfold Ref_obeys at hb
  have hb := (iz hb).2
  have w0 := Eqs.rf h
  obtain ⟨x4, e_x4, hb5⟩ := ob2 hb
  obtain ⟨x6, e_x6, hb7⟩ := ob2 hb5
  obtain ⟨x8, e_x8, hb9⟩ := ob2 hb7
  obtain ⟨x10, e_x10, hb11⟩ := ob2 hb9
  obtain ⟨x12, e_x12, hb13⟩ := ob2 hb11
  obtain ⟨x14, e_x14, hb15⟩ := ob2 hb13
  obtain ⟨x16, e_x16, hb17⟩ := ob2 hb15
  by_cases q : x16 = (21 : Int32)
  · have hb19 := ip q hb17
    obtain ⟨x38, e_x38, hb39⟩ := ob2 hb19
    obtain ⟨x40, e_x40, hb41⟩ := ob2 hb39
    obtain ⟨x42, e_x42, hb43⟩ := ob2 hb41
    obtain ⟨r44, e_r44, hb45⟩ := ob2 hb43
    have w46 := w0.tr (Ref_swapsKept_q e_r44)
    obtain rfl := Option.some.inj hb45
    exact w46
  · have hb18 := iq q hb17
    obtain ⟨x20, e_x20, hb21⟩ := ob2 hb18
    by_cases q : x20 = (24 : Int32)
    · have hb23 := ip q hb21
      obtain ⟨r35, e_r35, hb36⟩ := ob2 hb23
      have w37 := w0.tr (Ref_cutsKept_q e_r35)
      obtain rfl := Option.some.inj hb36
      exact w37
    · have hb22 := iq q hb21
      obtain ⟨r24, e_r24, hb25⟩ := ob2 hb22
      have w26 := w0.tr (Ref_stepsKept_q e_r24)
      obtain ⟨x27, e_x27, hb28⟩ := ob2 hb25
      by_cases q : (0 : Int32) ≤ r24.1
      · have hb29 := ip q hb28
        exact w26.tr (Ref_obeys_86_q hb29)
      · have hb30 := iq q hb28
        obtain ⟨x31, e_x31, hb32⟩ := ob2 hb30
        obtain ⟨x33, e_x33, hb34⟩ := ob2 hb32
        exact w26.tr (Ref_obeys_86_q hb34)
theorem Ref_obeys_o {v0 : Nat} {h : am_H} {r : (Int32 × am_H)} (hb : Ref_obeys v0 h = some r) : isO h 12 v0 = true := by
  unfold Ref_obeys at hb
  exact (iz hb).1
set_option maxHeartbeats 1000000 in
set_option maxRecDepth 100000 in
noncomputable def Ref_odds (v0 : Nat) (v1 : Int32) (v2 : Int32) (v3 : Int32) (v4 : Int32) (h : am_H) : Option (Int32 × am_H) := if isO h 12 v0 = true then (Ref_isHeap v0 v1 h).bind fun x1 => if x1 = (0 : Int32) then some ((-1 : Int32), h) else (Ref_manyIn v0 v1 h).bind fun x5 => if (7 : Int32) < x5 then some ((-1 : Int32), h) else (Ref_manyIn v0 v1 h).bind fun x9 => (Ref_lies v2 (0 : Int32) x9 h).bind fun x11 => if x11 = (0 : Int32) then some ((-1 : Int32), h) else (Ref_lies v3 (0 : Int32) (300 : Int32) h).bind fun x15 => if x15 = (0 : Int32) then some ((-1 : Int32), h) else (Ref_lies v4 (0 : Int32) (1 : Int32) h).bind fun x19 => if x19 = (0 : Int32) then some ((-1 : Int32), h) else (Ref_countsOrders v0 v1 v2 v3 h).bind fun h23 => (gI h23 12 v0 44).bind fun x26 => (gI h23 12 v0 43).bind fun x28 => (Ref_common x26 x28 h23).bind fun x30 => if v4 = (0 : Int32) then (gI h23 12 v0 44).bind fun x38 => (dvI x38 x30).bind fun x40 => some (x40, h23) else (gI h23 12 v0 43).bind fun x34 => (dvI x34 x30).bind fun x36 => some (x36, h23) else none
set_option maxHeartbeats 1000000 in
set_option maxRecDepth 100000 in
theorem Ref_odds_s {v0 : Nat} {v1 : Int32} {v2 : Int32} {v3 : Int32} {v4 : Int32} {h : am_H} {r : (Int32 × am_H)} (hb : Ref_odds v0 v1 v2 v3 v4 h = some r) : Sx 90 mX12_odds 0 (am_en [.ref v0, .int v1, .int v2, .int v3, .int v4] 6) [] h (some (.int r.1)) r.2 := by
  unfold Ref_odds at hb
  have hb := (iz hb).2
  show Sx 90 mX12_odds 0 [.ref v0, .int v1, .int v2, .int v3, .int v4, .retAddr 0] [] h (some (.int r.1)) r.2
  refine Sx.o (fun _ _ _ k => ex_aload_n dX12_odds_0 rfl rfl k) ?_
  refine Sx.o (fun _ _ _ k => ex_iload_n dX12_odds_1 rfl k) ?_
  obtain ⟨x1, e_x1, hb2⟩ := ob2 hb
  refine sx_callV (dc := 1) (as := [.int v1]) (stq := [.int x1]) (by omega) dX12_odds_2 MX12_isHeap kX12_122 iX12_isHeap sX12_isHeap rfl rfl (Ref_isHeap_o e_x1) rfl rfl (Nat.le_of_ble_eq_true rfl) (Nat.le_of_ble_eq_true rfl) (Ref_isHeap_s e_x1) rfl ?_
  refine Sx.b (fun _ _ _ k1 k2 => ex_if_eq 52 dX12_odds_5 (by decide) k1 k2) (fun q => ?_) (fun q => ?_)
  · have hb3 := ip q hb2
    refine Sx.o (fun _ _ _ k => op_iconst (-1 : Int32) dX12_odds_52 (by decide) k) ?_
    obtain rfl := Option.some.inj hb3
    exact Sx.r (fun _ _ _ k => ex_iret rfl dX12_odds_53 k)
  · have hb4 := iq q hb2
    refine Sx.o (fun _ _ _ k => ex_aload_n dX12_odds_8 rfl rfl k) ?_
    refine Sx.o (fun _ _ _ k => ex_iload_n dX12_odds_9 rfl k) ?_
    obtain ⟨x5, e_x5, hb6⟩ := ob2 hb4
    refine sx_callV (dc := 1) (as := [.int v1]) (stq := [.int x5]) (by omega) dX12_odds_10 MX12_manyIn kX12_316 iX12_manyIn sX12_manyIn rfl rfl (Ref_manyIn_o e_x5) rfl rfl (Nat.le_of_ble_eq_true rfl) (Nat.le_of_ble_eq_true rfl) (Ref_manyIn_s e_x5) rfl ?_
    refine Sx.o (fun _ _ _ k => op_bipush (7 : Int32) dX12_odds_13 (by decide) k) ?_
    refine Sx.b (fun _ _ _ k1 k2 => ex_icmp_gt 52 dX12_odds_15 (by decide) k1 k2) (fun q => ?_) (fun q => ?_)
    · have hb7 := ip q hb6
      refine Sx.o (fun _ _ _ k => op_iconst (-1 : Int32) dX12_odds_52 (by decide) k) ?_
      obtain rfl := Option.some.inj hb7
      exact Sx.r (fun _ _ _ k => ex_iret rfl dX12_odds_53 k)
    · have hb8 := iq q hb6
      refine Sx.o (fun _ _ _ k => ex_iload_n dX12_odds_18 rfl k) ?_
      refine Sx.o (fun _ _ _ k => op_iconst (0 : Int32) dX12_odds_19 (by decide) k) ?_
      refine Sx.o (fun _ _ _ k => ex_aload_n dX12_odds_20 rfl rfl k) ?_
      refine Sx.o (fun _ _ _ k => ex_iload_n dX12_odds_21 rfl k) ?_
      obtain ⟨x9, e_x9, hb10⟩ := ob2 hb8
      refine sx_callV (dc := 1) (as := [.int v1]) (stq := [.int x9, .int (0 : Int32), .int v2]) (by omega) dX12_odds_22 MX12_manyIn kX12_316 iX12_manyIn sX12_manyIn rfl rfl (Ref_manyIn_o e_x9) rfl rfl (Nat.le_of_ble_eq_true rfl) (Nat.le_of_ble_eq_true rfl) (Ref_manyIn_s e_x9) rfl ?_
      obtain ⟨x11, e_x11, hb12⟩ := ob2 hb10
      refine sx_callS (dc := 0) (as := [.int v2, .int (0 : Int32), .int x9]) (stq := [.int x11]) (by omega) dX12_odds_25 MX12_lies kX12_102 tX12_lies rfl rfl (Nat.le_of_ble_eq_true rfl) (Nat.le_of_ble_eq_true rfl) (Ref_lies_s e_x11) rfl ?_
      refine Sx.b (fun _ _ _ k1 k2 => ex_if_eq 52 dX12_odds_28 (by decide) k1 k2) (fun q => ?_) (fun q => ?_)
      · have hb13 := ip q hb12
        refine Sx.o (fun _ _ _ k => op_iconst (-1 : Int32) dX12_odds_52 (by decide) k) ?_
        obtain rfl := Option.some.inj hb13
        exact Sx.r (fun _ _ _ k => ex_iret rfl dX12_odds_53 k)
      · have hb14 := iq q hb12
        refine Sx.o (fun _ _ _ k => ex_iload_n dX12_odds_31 rfl k) ?_
        refine Sx.o (fun _ _ _ k => op_iconst (0 : Int32) dX12_odds_32 (by decide) k) ?_
        refine Sx.o (fun _ _ _ k => op_sipush (300 : Int32) dX12_odds_33 (by decide) k) ?_
        obtain ⟨x15, e_x15, hb16⟩ := ob2 hb14
        refine sx_callS (dc := 0) (as := [.int v3, .int (0 : Int32), .int (300 : Int32)]) (stq := [.int x15]) (by omega) dX12_odds_36 MX12_lies kX12_102 tX12_lies rfl rfl (Nat.le_of_ble_eq_true rfl) (Nat.le_of_ble_eq_true rfl) (Ref_lies_s e_x15) rfl ?_
        refine Sx.b (fun _ _ _ k1 k2 => ex_if_eq 52 dX12_odds_39 (by decide) k1 k2) (fun q => ?_) (fun q => ?_)
        · have hb17 := ip q hb16
          refine Sx.o (fun _ _ _ k => op_iconst (-1 : Int32) dX12_odds_52 (by decide) k) ?_
          obtain rfl := Option.some.inj hb17
          exact Sx.r (fun _ _ _ k => ex_iret rfl dX12_odds_53 k)
        · have hb18 := iq q hb16
          refine Sx.o (fun _ _ _ k => ex_iload dX12_odds_42 rfl k) ?_
          refine Sx.o (fun _ _ _ k => op_iconst (0 : Int32) dX12_odds_44 (by decide) k) ?_
          refine Sx.o (fun _ _ _ k => op_iconst (1 : Int32) dX12_odds_45 (by decide) k) ?_
          obtain ⟨x19, e_x19, hb20⟩ := ob2 hb18
          refine sx_callS (dc := 0) (as := [.int v4, .int (0 : Int32), .int (1 : Int32)]) (stq := [.int x19]) (by omega) dX12_odds_46 MX12_lies kX12_102 tX12_lies rfl rfl (Nat.le_of_ble_eq_true rfl) (Nat.le_of_ble_eq_true rfl) (Ref_lies_s e_x19) rfl ?_
          refine Sx.bn (fun _ _ _ k1 k2 => ex_if_ne 54 dX12_odds_49 (by decide) k1 k2) (fun q => ?_) (fun q => ?_)
          · have hb21 := iq q hb20
            refine Sx.o (fun _ _ _ k => ex_aload_n dX12_odds_54 rfl rfl k) ?_
            refine Sx.o (fun _ _ _ k => ex_iload_n dX12_odds_55 rfl k) ?_
            refine Sx.o (fun _ _ _ k => ex_iload_n dX12_odds_56 rfl k) ?_
            refine Sx.o (fun _ _ _ k => ex_iload_n dX12_odds_57 rfl k) ?_
            obtain ⟨h23, e_h23, hb24⟩ := ob2 hb21
            refine sx_callV (dc := 89) (as := [.int v1, .int v2, .int v3]) (stq := []) (by omega) dX12_odds_58 MX12_countsOrders kX12_421 iX12_countsOrders sX12_countsOrders rfl rfl (Ref_countsOrders_o e_h23) rfl rfl (Nat.le_of_ble_eq_true rfl) (Nat.le_of_ble_eq_true rfl) (Ref_countsOrders_s e_h23) rfl ?_
            refine Sx.o (fun _ _ _ k => ex_aload_n dX12_odds_61 rfl rfl k) ?_
            obtain ⟨x26, e_x26, hb27⟩ := ob2 hb24
            refine Sx.o (fun _ _ _ k => op_getI fX12_418 dX12_odds_62 e_x26 k) ?_
            refine Sx.o (fun _ _ _ k => ex_aload_n dX12_odds_65 rfl rfl k) ?_
            obtain ⟨x28, e_x28, hb29⟩ := ob2 hb27
            refine Sx.o (fun _ _ _ k => op_getI fX12_415 dX12_odds_66 e_x28 k) ?_
            obtain ⟨x30, e_x30, hb31⟩ := ob2 hb29
            refine sx_callS (dc := 0) (as := [.int x26, .int x28]) (stq := [.int x30]) (by omega) dX12_odds_69 MX12_common kX12_425 tX12_common rfl rfl (Nat.le_of_ble_eq_true rfl) (Nat.le_of_ble_eq_true rfl) (Ref_common_s e_x30) rfl ?_
            refine Sx.o (L' := [.ref v0, .int v1, .int v2, .int v3, .int v4, .int x30]) (fun _ _ _ k => ex_istore dX12_odds_72 (by decide) k) ?_
            refine Sx.o (fun _ _ _ k => ex_iload dX12_odds_74 rfl k) ?_
            refine Sx.bn (fun _ _ _ k1 k2 => ex_if_ne 86 dX12_odds_76 (by decide) k1 k2) (fun q => ?_) (fun q => ?_)
            · have hb32 := iq q hb31
              refine Sx.o (fun _ _ _ k => ex_aload_n dX12_odds_86 rfl rfl k) ?_
              obtain ⟨x34, e_x34, hb35⟩ := ob2 hb32
              refine Sx.o (fun _ _ _ k => op_getI fX12_415 dX12_odds_87 e_x34 k) ?_
              refine Sx.o (fun _ _ _ k => ex_iload dX12_odds_90 rfl k) ?_
              obtain ⟨x36, e_x36, hb37⟩ := ob2 hb35
              refine Sx.o (fun _ _ _ k => op_idiv dX12_odds_92 e_x36 k) ?_
              obtain rfl := Option.some.inj hb37
              exact Sx.r (fun _ _ _ k => ex_iret rfl dX12_odds_93 k)
            · have hb33 := ip q hb31
              refine Sx.o (fun _ _ _ k => ex_aload_n dX12_odds_79 rfl rfl k) ?_
              obtain ⟨x38, e_x38, hb39⟩ := ob2 hb33
              refine Sx.o (fun _ _ _ k => op_getI fX12_418 dX12_odds_80 e_x38 k) ?_
              refine Sx.o (fun _ _ _ k => ex_goto 90 dX12_odds_83 (by decide) k) ?_
              refine Sx.o (fun _ _ _ k => ex_iload dX12_odds_90 rfl k) ?_
              obtain ⟨x40, e_x40, hb41⟩ := ob2 hb39
              refine Sx.o (fun _ _ _ k => op_idiv dX12_odds_92 e_x40 k) ?_
              obtain rfl := Option.some.inj hb41
              exact Sx.r (fun _ _ _ k => ex_iret rfl dX12_odds_93 k)
          · have hb22 := ip q hb20
            refine Sx.o (fun _ _ _ k => op_iconst (-1 : Int32) dX12_odds_52 (by decide) k) ?_
            obtain rfl := Option.some.inj hb22
            exact Sx.r (fun _ _ _ k => ex_iret rfl dX12_odds_53 k)
set_option maxHeartbeats 1000000 in
set_option maxRecDepth 100000 in
theorem Ref_odds_q {v0 : Nat} {v1 : Int32} {v2 : Int32} {v3 : Int32} {v4 : Int32} {h : am_H} {r : (Int32 × am_H)} (hb : Ref_odds v0 v1 v2 v3 v4 h = some r) : Eqs h r.2 := by
  unfold Ref_odds at hb
  have hb := (iz hb).2
  have w0 := Eqs.rf h
  obtain ⟨x1, e_x1, hb2⟩ := ob2 hb
  by_cases q : x1 = (0 : Int32)
  · have hb3 := ip q hb2
    obtain rfl := Option.some.inj hb3
    exact w0
  · have hb4 := iq q hb2
    obtain ⟨x5, e_x5, hb6⟩ := ob2 hb4
    by_cases q : (7 : Int32) < x5
    · have hb7 := ip q hb6
      obtain rfl := Option.some.inj hb7
      exact w0
    · have hb8 := iq q hb6
      obtain ⟨x9, e_x9, hb10⟩ := ob2 hb8
      obtain ⟨x11, e_x11, hb12⟩ := ob2 hb10
      by_cases q : x11 = (0 : Int32)
      · have hb13 := ip q hb12
        obtain rfl := Option.some.inj hb13
        exact w0
      · have hb14 := iq q hb12
        obtain ⟨x15, e_x15, hb16⟩ := ob2 hb14
        by_cases q : x15 = (0 : Int32)
        · have hb17 := ip q hb16
          obtain rfl := Option.some.inj hb17
          exact w0
        · have hb18 := iq q hb16
          obtain ⟨x19, e_x19, hb20⟩ := ob2 hb18
          by_cases q : x19 = (0 : Int32)
          · have hb22 := ip q hb20
            obtain rfl := Option.some.inj hb22
            exact w0
          · have hb21 := iq q hb20
            obtain ⟨h23, e_h23, hb24⟩ := ob2 hb21
            have w25 := w0.tr (Ref_countsOrders_q e_h23)
            obtain ⟨x26, e_x26, hb27⟩ := ob2 hb24
            obtain ⟨x28, e_x28, hb29⟩ := ob2 hb27
            obtain ⟨x30, e_x30, hb31⟩ := ob2 hb29
            by_cases q : v4 = (0 : Int32)
            · have hb33 := ip q hb31
              obtain ⟨x38, e_x38, hb39⟩ := ob2 hb33
              obtain ⟨x40, e_x40, hb41⟩ := ob2 hb39
              obtain rfl := Option.some.inj hb41
              exact w25
            · have hb32 := iq q hb31
              obtain ⟨x34, e_x34, hb35⟩ := ob2 hb32
              obtain ⟨x36, e_x36, hb37⟩ := ob2 hb35
              obtain rfl := Option.some.inj hb37
              exact w25
theorem Ref_odds_o {v0 : Nat} {v1 : Int32} {v2 : Int32} {v3 : Int32} {v4 : Int32} {h : am_H} {r : (Int32 × am_H)} (hb : Ref_odds v0 v1 v2 v3 v4 h = some r) : isO h 12 v0 = true := by
  unfold Ref_odds at hb
  exact (iz hb).1
set_option maxHeartbeats 1000000 in
set_option maxRecDepth 100000 in
noncomputable def Ref_of (v0 : Nat) (v1 : Int32) (v2 : Int32) (h : am_H) : Option (Int32 × am_H) := if isO h 12 v0 = true then (Ref_isHeap v0 v1 h).bind fun x1 => if x1 = (0 : Int32) then some ((-1001 : Int32), h) else (Ref_takes v0 v1 h).bind fun h5 => if v2 = (0 : Int32) then (gI h5 12 v0 31).bind fun x9 => some (x9, h5) else if v2 = (1 : Int32) then (gR h5 12 v0 2).bind fun x13 => (Ref_placeOf v1 h5).bind fun x15 => (aI h5 0 x13 (x15 + (1 : Int32))).bind fun x17 => some (x17, h5) else if v2 = (2 : Int32) then (gI h5 12 v0 32).bind fun x21 => some (x21, h5) else if v2 = (3 : Int32) then (Ref_hasEnded v0 h5).bind fun r25 => if r25.1 = (0 : Int32) then some ((0 : Int32), r25.2) else some ((1 : Int32), r25.2) else if v2 = (4 : Int32) then (Ref_isStuck v0 h5).bind fun r32 => if r32.1 = (0 : Int32) then some ((0 : Int32), r32.2) else some ((1 : Int32), r32.2) else if v2 = (5 : Int32) then (Ref_turnsBy v0 h5).bind fun r39 => (Ref_near r39.1 r39.2).bind fun x42 => some (x42, r39.2) else if v2 = (6 : Int32) then (Ref_sinksBy v0 h5).bind fun r46 => (Ref_near r46.1 r46.2).bind fun x49 => some (x49, r46.2) else (gI h5 12 v0 31).bind fun x52 => (Ref_lies v2 (7 : Int32) ((6 : Int32) + x52) h5).bind fun x54 => if x54 = (0 : Int32) then some ((-1001 : Int32), h5) else (gR h5 12 v0 29).bind fun x58 => (aI h5 0 x58 (v2 - (7 : Int32))).bind fun x60 => some (x60, h5) else none
set_option maxHeartbeats 1000000 in
set_option maxRecDepth 100000 in
theorem Ref_of_s {v0 : Nat} {v1 : Int32} {v2 : Int32} {h : am_H} {r : (Int32 × am_H)} (hb : Ref_of v0 v1 v2 h = some r) : Sx 88 mX12_of 0 (am_en [.ref v0, .int v1, .int v2] 3) [] h (some (.int r.1)) r.2 := by
  unfold Ref_of at hb
  have hb := (iz hb).2
  show Sx 88 mX12_of 0 [.ref v0, .int v1, .int v2] [] h (some (.int r.1)) r.2
  refine Sx.o (fun _ _ _ k => ex_aload_n dX12_of_0 rfl rfl k) ?_
  refine Sx.o (fun _ _ _ k => ex_iload_n dX12_of_1 rfl k) ?_
  obtain ⟨x1, e_x1, hb2⟩ := ob2 hb
  refine sx_callV (dc := 1) (as := [.int v1]) (stq := [.int x1]) (by omega) dX12_of_2 MX12_isHeap kX12_122 iX12_isHeap sX12_isHeap rfl rfl (Ref_isHeap_o e_x1) rfl rfl (Nat.le_of_ble_eq_true rfl) (Nat.le_of_ble_eq_true rfl) (Ref_isHeap_s e_x1) rfl ?_
  refine Sx.bn (fun _ _ _ k1 k2 => ex_if_ne 12 dX12_of_5 (by decide) k1 k2) (fun q => ?_) (fun q => ?_)
  · have hb3 := iq q hb2
    refine Sx.o (fun _ _ _ k => ex_aload_n dX12_of_12 rfl rfl k) ?_
    refine Sx.o (fun _ _ _ k => ex_iload_n dX12_of_13 rfl k) ?_
    obtain ⟨h5, e_h5, hb6⟩ := ob2 hb3
    refine sx_callV (dc := 2) (as := [.int v1]) (stq := []) (by omega) dX12_of_14 MX12_takes kX12_126 iX12_takes sX12_takes rfl rfl (Ref_takes_o e_h5) rfl rfl (Nat.le_of_ble_eq_true rfl) (Nat.le_of_ble_eq_true rfl) (Ref_takes_s e_h5) rfl ?_
    refine Sx.o (fun _ _ _ k => ex_iload_n dX12_of_17 rfl k) ?_
    by_cases q0 : v2 = (0 : Int32)
    · have hb8 := ip q0 hb6
      refine Sx.o (fun _ _ _ k => ex_tableIn 60 dX12_of_18 (by rw [q0]; decide) (by rw [q0]; decide) (show _ = some (42 : Int) by rw [q0]; decide) (by decide) k) ?_
      refine Sx.o (fun _ _ _ k => ex_aload_n dX12_of_60 rfl rfl k) ?_
      obtain ⟨x9, e_x9, hb10⟩ := ob2 hb8
      refine Sx.o (fun _ _ _ k => op_getI fX12_130 dX12_of_61 e_x9 k) ?_
      obtain rfl := Option.some.inj hb10
      exact Sx.r (fun _ _ _ k => ex_iret rfl dX12_of_64 k)
    · have hb11 := iq q0 hb6
      by_cases q1 : v2 = (1 : Int32)
      · have hb12 := ip q1 hb11
        refine Sx.o (fun _ _ _ k => ex_tableIn 65 dX12_of_18 (by rw [q1]; decide) (by rw [q1]; decide) (show _ = some (47 : Int) by rw [q1]; decide) (by decide) k) ?_
        refine Sx.o (fun _ _ _ k => ex_aload_n dX12_of_65 rfl rfl k) ?_
        obtain ⟨x13, e_x13, hb14⟩ := ob2 hb12
        refine Sx.o (fun _ _ _ k => op_getR fX12_24 dX12_of_66 e_x13 k) ?_
        refine Sx.o (fun _ _ _ k => ex_iload_n dX12_of_69 rfl k) ?_
        obtain ⟨x15, e_x15, hb16⟩ := ob2 hb14
        refine sx_callS (dc := 0) (as := [.int v1]) (stq := [.int x15, .ref x13]) (by omega) dX12_of_70 MX12_placeOf kX12_112 tX12_placeOf rfl rfl (Nat.le_of_ble_eq_true rfl) (Nat.le_of_ble_eq_true rfl) (Ref_placeOf_s e_x15) rfl ?_
        refine Sx.o (fun _ _ _ k => op_iconst (1 : Int32) dX12_of_73 (by decide) k) ?_
        refine Sx.o (fun _ _ _ k => ex_iadd dX12_of_74 k) ?_
        obtain ⟨x17, e_x17, hb18⟩ := ob2 hb16
        refine Sx.o (fun _ _ _ k => op_iald dX12_of_75 e_x17 k) ?_
        obtain rfl := Option.some.inj hb18
        exact Sx.r (fun _ _ _ k => ex_iret rfl dX12_of_76 k)
      · have hb19 := iq q1 hb11
        by_cases q2 : v2 = (2 : Int32)
        · have hb20 := ip q2 hb19
          refine Sx.o (fun _ _ _ k => ex_tableIn 77 dX12_of_18 (by rw [q2]; decide) (by rw [q2]; decide) (show _ = some (59 : Int) by rw [q2]; decide) (by decide) k) ?_
          refine Sx.o (fun _ _ _ k => ex_aload_n dX12_of_77 rfl rfl k) ?_
          obtain ⟨x21, e_x21, hb22⟩ := ob2 hb20
          refine Sx.o (fun _ _ _ k => op_getI fX12_133 dX12_of_78 e_x21 k) ?_
          obtain rfl := Option.some.inj hb22
          exact Sx.r (fun _ _ _ k => ex_iret rfl dX12_of_81 k)
        · have hb23 := iq q2 hb19
          by_cases q3 : v2 = (3 : Int32)
          · have hb24 := ip q3 hb23
            refine Sx.o (fun _ _ _ k => ex_tableIn 82 dX12_of_18 (by rw [q3]; decide) (by rw [q3]; decide) (show _ = some (64 : Int) by rw [q3]; decide) (by decide) k) ?_
            refine Sx.o (fun _ _ _ k => ex_aload_n dX12_of_82 rfl rfl k) ?_
            obtain ⟨r25, e_r25, hb26⟩ := ob2 hb24
            refine sx_callV (dc := 86) (as := []) (stq := [.int r25.1]) (by omega) dX12_of_83 MX12_hasEnded kX12_136 iX12_hasEnded sX12_hasEnded rfl rfl (Ref_hasEnded_o e_r25) rfl rfl (Nat.le_of_ble_eq_true rfl) (Nat.le_of_ble_eq_true rfl) (Ref_hasEnded_s e_r25) rfl ?_
            refine Sx.b (fun _ _ _ k1 k2 => ex_if_eq 93 dX12_of_86 (by decide) k1 k2) (fun q => ?_) (fun q => ?_)
            · have hb28 := ip q hb26
              refine Sx.o (fun _ _ _ k => op_iconst (0 : Int32) dX12_of_93 (by decide) k) ?_
              obtain rfl := Option.some.inj hb28
              exact Sx.r (fun _ _ _ k => ex_iret rfl dX12_of_94 k)
            · have hb29 := iq q hb26
              refine Sx.o (fun _ _ _ k => op_iconst (1 : Int32) dX12_of_89 (by decide) k) ?_
              refine Sx.o (fun _ _ _ k => ex_goto 94 dX12_of_90 (by decide) k) ?_
              obtain rfl := Option.some.inj hb29
              exact Sx.r (fun _ _ _ k => ex_iret rfl dX12_of_94 k)
          · have hb30 := iq q3 hb23
            by_cases q4 : v2 = (4 : Int32)
            · have hb31 := ip q4 hb30
              refine Sx.o (fun _ _ _ k => ex_tableIn 95 dX12_of_18 (by rw [q4]; decide) (by rw [q4]; decide) (show _ = some (77 : Int) by rw [q4]; decide) (by decide) k) ?_
              refine Sx.o (fun _ _ _ k => ex_aload_n dX12_of_95 rfl rfl k) ?_
              obtain ⟨r32, e_r32, hb33⟩ := ob2 hb31
              refine sx_callV (dc := 87) (as := []) (stq := [.int r32.1]) (by omega) dX12_of_96 MX12_isStuck kX12_140 iX12_isStuck sX12_isStuck rfl rfl (Ref_isStuck_o e_r32) rfl rfl (Nat.le_of_ble_eq_true rfl) (Nat.le_of_ble_eq_true rfl) (Ref_isStuck_s e_r32) rfl ?_
              refine Sx.b (fun _ _ _ k1 k2 => ex_if_eq 106 dX12_of_99 (by decide) k1 k2) (fun q => ?_) (fun q => ?_)
              · have hb35 := ip q hb33
                refine Sx.o (fun _ _ _ k => op_iconst (0 : Int32) dX12_of_106 (by decide) k) ?_
                obtain rfl := Option.some.inj hb35
                exact Sx.r (fun _ _ _ k => ex_iret rfl dX12_of_107 k)
              · have hb36 := iq q hb33
                refine Sx.o (fun _ _ _ k => op_iconst (1 : Int32) dX12_of_102 (by decide) k) ?_
                refine Sx.o (fun _ _ _ k => ex_goto 107 dX12_of_103 (by decide) k) ?_
                obtain rfl := Option.some.inj hb36
                exact Sx.r (fun _ _ _ k => ex_iret rfl dX12_of_107 k)
            · have hb37 := iq q4 hb30
              by_cases q5 : v2 = (5 : Int32)
              · have hb38 := ip q5 hb37
                refine Sx.o (fun _ _ _ k => ex_tableIn 108 dX12_of_18 (by rw [q5]; decide) (by rw [q5]; decide) (show _ = some (90 : Int) by rw [q5]; decide) (by decide) k) ?_
                refine Sx.o (fun _ _ _ k => ex_aload_n dX12_of_108 rfl rfl k) ?_
                obtain ⟨r39, e_r39, hb40⟩ := ob2 hb38
                refine sx_callV (dc := 86) (as := []) (stq := [.long r39.1]) (by omega) dX12_of_109 MX12_turnsBy kX12_143 iX12_turnsBy sX12_turnsBy rfl rfl (Ref_turnsBy_o e_r39) rfl rfl (Nat.le_of_ble_eq_true rfl) (Nat.le_of_ble_eq_true rfl) (Ref_turnsBy_s e_r39) rfl ?_
                obtain ⟨x42, e_x42, hb43⟩ := ob2 hb40
                refine sx_callS (dc := 0) (as := [.long r39.1]) (stq := [.int x42]) (by omega) dX12_of_112 MX12_near kX12_147 tX12_near rfl rfl (Nat.le_of_ble_eq_true rfl) (Nat.le_of_ble_eq_true rfl) (Ref_near_s e_x42) rfl ?_
                obtain rfl := Option.some.inj hb43
                exact Sx.r (fun _ _ _ k => ex_iret rfl dX12_of_115 k)
              · have hb44 := iq q5 hb37
                by_cases q6 : v2 = (6 : Int32)
                · have hb45 := ip q6 hb44
                  refine Sx.o (fun _ _ _ k => ex_tableIn 116 dX12_of_18 (by rw [q6]; decide) (by rw [q6]; decide) (show _ = some (98 : Int) by rw [q6]; decide) (by decide) k) ?_
                  refine Sx.o (fun _ _ _ k => ex_aload_n dX12_of_116 rfl rfl k) ?_
                  obtain ⟨r46, e_r46, hb47⟩ := ob2 hb45
                  refine sx_callV (dc := 86) (as := []) (stq := [.long r46.1]) (by omega) dX12_of_117 MX12_sinksBy kX12_151 iX12_sinksBy sX12_sinksBy rfl rfl (Ref_sinksBy_o e_r46) rfl rfl (Nat.le_of_ble_eq_true rfl) (Nat.le_of_ble_eq_true rfl) (Ref_sinksBy_s e_r46) rfl ?_
                  obtain ⟨x49, e_x49, hb50⟩ := ob2 hb47
                  refine sx_callS (dc := 0) (as := [.long r46.1]) (stq := [.int x49]) (by omega) dX12_of_120 MX12_near kX12_147 tX12_near rfl rfl (Nat.le_of_ble_eq_true rfl) (Nat.le_of_ble_eq_true rfl) (Ref_near_s e_x49) rfl ?_
                  obtain rfl := Option.some.inj hb50
                  exact Sx.r (fun _ _ _ k => ex_iret rfl dX12_of_123 k)
                · have hb51 := iq q6 hb44
                  have t0 : ¬ (Int32.toInt v2) = 0 := fun z => q0 (Int32.toInt_inj.mp (z.trans (by decide)))
                  have t1 : ¬ (Int32.toInt v2) = 1 := fun z => q1 (Int32.toInt_inj.mp (z.trans (by decide)))
                  have t2 : ¬ (Int32.toInt v2) = 2 := fun z => q2 (Int32.toInt_inj.mp (z.trans (by decide)))
                  have t3 : ¬ (Int32.toInt v2) = 3 := fun z => q3 (Int32.toInt_inj.mp (z.trans (by decide)))
                  have t4 : ¬ (Int32.toInt v2) = 4 := fun z => q4 (Int32.toInt_inj.mp (z.trans (by decide)))
                  have t5 : ¬ (Int32.toInt v2) = 5 := fun z => q5 (Int32.toInt_inj.mp (z.trans (by decide)))
                  have t6 : ¬ (Int32.toInt v2) = 6 := fun z => q6 (Int32.toInt_inj.mp (z.trans (by decide)))
                  refine Sx.o (fun _ _ _ k => ex_tableOut 124 dX12_of_18 (by omega) (by decide) k) ?_
                  refine Sx.o (fun _ _ _ k => ex_iload_n dX12_of_124 rfl k) ?_
                  refine Sx.o (fun _ _ _ k => op_bipush (7 : Int32) dX12_of_125 (by decide) k) ?_
                  refine Sx.o (fun _ _ _ k => op_bipush (6 : Int32) dX12_of_127 (by decide) k) ?_
                  refine Sx.o (fun _ _ _ k => ex_aload_n dX12_of_129 rfl rfl k) ?_
                  obtain ⟨x52, e_x52, hb53⟩ := ob2 hb51
                  refine Sx.o (fun _ _ _ k => op_getI fX12_130 dX12_of_130 e_x52 k) ?_
                  refine Sx.o (fun _ _ _ k => ex_iadd dX12_of_133 k) ?_
                  obtain ⟨x54, e_x54, hb55⟩ := ob2 hb53
                  refine sx_callS (dc := 0) (as := [.int v2, .int (7 : Int32), .int ((6 : Int32) + x52)]) (stq := [.int x54]) (by omega) dX12_of_134 MX12_lies kX12_102 tX12_lies rfl rfl (Nat.le_of_ble_eq_true rfl) (Nat.le_of_ble_eq_true rfl) (Ref_lies_s e_x54) rfl ?_
                  refine Sx.b (fun _ _ _ k1 k2 => ex_if_eq 152 dX12_of_137 (by decide) k1 k2) (fun q => ?_) (fun q => ?_)
                  · have hb56 := ip q hb55
                    refine Sx.o (fun _ _ _ k => op_sipush (-1001 : Int32) dX12_of_152 (by decide) k) ?_
                    obtain rfl := Option.some.inj hb56
                    exact Sx.r (fun _ _ _ k => ex_iret rfl dX12_of_155 k)
                  · have hb57 := iq q hb55
                    refine Sx.o (fun _ _ _ k => ex_aload_n dX12_of_140 rfl rfl k) ?_
                    obtain ⟨x58, e_x58, hb59⟩ := ob2 hb57
                    refine Sx.o (fun _ _ _ k => op_getR fX12_65 dX12_of_141 e_x58 k) ?_
                    refine Sx.o (fun _ _ _ k => ex_iload_n dX12_of_144 rfl k) ?_
                    refine Sx.o (fun _ _ _ k => op_bipush (7 : Int32) dX12_of_145 (by decide) k) ?_
                    refine Sx.o (fun _ _ _ k => ex_isub dX12_of_147 k) ?_
                    obtain ⟨x60, e_x60, hb61⟩ := ob2 hb59
                    refine Sx.o (fun _ _ _ k => op_iald dX12_of_148 e_x60 k) ?_
                    refine Sx.o (fun _ _ _ k => ex_goto 155 dX12_of_149 (by decide) k) ?_
                    obtain rfl := Option.some.inj hb61
                    exact Sx.r (fun _ _ _ k => ex_iret rfl dX12_of_155 k)
  · have hb4 := ip q hb2
    refine Sx.o (fun _ _ _ k => op_sipush (-1001 : Int32) dX12_of_8 (by decide) k) ?_
    obtain rfl := Option.some.inj hb4
    exact Sx.r (fun _ _ _ k => ex_iret rfl dX12_of_11 k)
set_option maxHeartbeats 1000000 in
set_option maxRecDepth 100000 in
theorem Ref_of_q {v0 : Nat} {v1 : Int32} {v2 : Int32} {h : am_H} {r : (Int32 × am_H)} (hb : Ref_of v0 v1 v2 h = some r) : Eqs h r.2 := by
  unfold Ref_of at hb
  have hb := (iz hb).2
  have w0 := Eqs.rf h
  obtain ⟨x1, e_x1, hb2⟩ := ob2 hb
  by_cases q : x1 = (0 : Int32)
  · have hb4 := ip q hb2
    obtain rfl := Option.some.inj hb4
    exact w0
  · have hb3 := iq q hb2
    obtain ⟨h5, e_h5, hb6⟩ := ob2 hb3
    have w7 := w0.tr (Ref_takes_q e_h5)
    by_cases q0 : v2 = (0 : Int32)
    · have hb8 := ip q0 hb6
      obtain ⟨x9, e_x9, hb10⟩ := ob2 hb8
      obtain rfl := Option.some.inj hb10
      exact w7
    · have hb11 := iq q0 hb6
      by_cases q1 : v2 = (1 : Int32)
      · have hb12 := ip q1 hb11
        obtain ⟨x13, e_x13, hb14⟩ := ob2 hb12
        obtain ⟨x15, e_x15, hb16⟩ := ob2 hb14
        obtain ⟨x17, e_x17, hb18⟩ := ob2 hb16
        obtain rfl := Option.some.inj hb18
        exact w7
      · have hb19 := iq q1 hb11
        by_cases q2 : v2 = (2 : Int32)
        · have hb20 := ip q2 hb19
          obtain ⟨x21, e_x21, hb22⟩ := ob2 hb20
          obtain rfl := Option.some.inj hb22
          exact w7
        · have hb23 := iq q2 hb19
          by_cases q3 : v2 = (3 : Int32)
          · have hb24 := ip q3 hb23
            obtain ⟨r25, e_r25, hb26⟩ := ob2 hb24
            have w27 := w7.tr (Ref_hasEnded_q e_r25)
            by_cases q : r25.1 = (0 : Int32)
            · have hb28 := ip q hb26
              obtain rfl := Option.some.inj hb28
              exact w27
            · have hb29 := iq q hb26
              obtain rfl := Option.some.inj hb29
              exact w27
          · have hb30 := iq q3 hb23
            by_cases q4 : v2 = (4 : Int32)
            · have hb31 := ip q4 hb30
              obtain ⟨r32, e_r32, hb33⟩ := ob2 hb31
              have w34 := w7.tr (Ref_isStuck_q e_r32)
              by_cases q : r32.1 = (0 : Int32)
              · have hb35 := ip q hb33
                obtain rfl := Option.some.inj hb35
                exact w34
              · have hb36 := iq q hb33
                obtain rfl := Option.some.inj hb36
                exact w34
            · have hb37 := iq q4 hb30
              by_cases q5 : v2 = (5 : Int32)
              · have hb38 := ip q5 hb37
                obtain ⟨r39, e_r39, hb40⟩ := ob2 hb38
                have w41 := w7.tr (Ref_turnsBy_q e_r39)
                obtain ⟨x42, e_x42, hb43⟩ := ob2 hb40
                obtain rfl := Option.some.inj hb43
                exact w41
              · have hb44 := iq q5 hb37
                by_cases q6 : v2 = (6 : Int32)
                · have hb45 := ip q6 hb44
                  obtain ⟨r46, e_r46, hb47⟩ := ob2 hb45
                  have w48 := w7.tr (Ref_sinksBy_q e_r46)
                  obtain ⟨x49, e_x49, hb50⟩ := ob2 hb47
                  obtain rfl := Option.some.inj hb50
                  exact w48
                · have hb51 := iq q6 hb44
                  obtain ⟨x52, e_x52, hb53⟩ := ob2 hb51
                  obtain ⟨x54, e_x54, hb55⟩ := ob2 hb53
                  by_cases q : x54 = (0 : Int32)
                  · have hb56 := ip q hb55
                    obtain rfl := Option.some.inj hb56
                    exact w7
                  · have hb57 := iq q hb55
                    obtain ⟨x58, e_x58, hb59⟩ := ob2 hb57
                    obtain ⟨x60, e_x60, hb61⟩ := ob2 hb59
                    obtain rfl := Option.some.inj hb61
                    exact w7
theorem Ref_of_o {v0 : Nat} {v1 : Int32} {v2 : Int32} {h : am_H} {r : (Int32 × am_H)} (hb : Ref_of v0 v1 v2 h = some r) : isO h 12 v0 = true := by
  unfold Ref_of at hb
  exact (iz hb).1
set_option maxHeartbeats 1000000 in
set_option maxRecDepth 100000 in
noncomputable def Ref_orderly_40_b (g : (Nat × Int32 × Int32 × Int32 × Int32 × Int32 × Int32 × Int32 × Int32 × Nat × am_H) → Option (Int32 × am_H)) (v0 : Nat) (v2 : Int32) (v3 : Int32) (v4 : Int32) (v5 : Int32) (v6 : Int32) (v7 : Int32) (h : am_H) : Option (Int32 × am_H) := if v7 = (0 : Int32) then if v2 = (0 : Int32) then some (v3, h) else if v2 = (1 : Int32) then some (v4, h) else if v2 = (2 : Int32) then some (v5, h) else some (v6, h) else (Ref_takesRow v0 (-1 : Int32) h).bind fun h9 => (Ref_endsBehind v0 h9).bind fun r12 => if r12.1 = (-1 : Int32) then g (63, v2, v3, v4, v5, v6, (0 : Int32), 0, 0, v0, r12.2) else g (63, v2, v3, v4, v5, v6, (1 : Int32), 0, 0, v0, r12.2)
set_option maxHeartbeats 1000000 in
set_option maxRecDepth 100000 in
theorem Ref_orderly_40_m {g g2 : (Nat × Int32 × Int32 × Int32 × Int32 × Int32 × Int32 × Int32 × Int32 × Nat × am_H) → Option (Int32 × am_H)} (hg : ∀ s, Le (g s) (g2 s)) (v0 : Nat) (v2 : Int32) (v3 : Int32) (v4 : Int32) (v5 : Int32) (v6 : Int32) (v7 : Int32) (h : am_H) : Le (Ref_orderly_40_b g v0 v2 v3 v4 v5 v6 v7 h) (Ref_orderly_40_b g2 v0 v2 v3 v4 v5 v6 v7 h) := by unfold Ref_orderly_40_b; exact le_i (le_r _) (le_b (le_r _) fun h9 => le_b (le_r _) fun r12 => le_i (hg _) (hg _))
set_option maxHeartbeats 1000000 in
set_option maxRecDepth 100000 in
noncomputable def Ref_orderly_63_b (g : (Nat × Int32 × Int32 × Int32 × Int32 × Int32 × Int32 × Int32 × Int32 × Nat × am_H) → Option (Int32 × am_H)) (v0 : Nat) (v2 : Int32) (v3 : Int32) (v4 : Int32) (v5 : Int32) (v6 : Int32) (s0 : Int32) (h : am_H) : Option (Int32 × am_H) := if s0 = (0 : Int32) then (Ref_isStuck v0 h).bind fun r19 => if r19.1 = (0 : Int32) then g (81, v2, v3, v4, v5, v6, s0, 0, 0, v0, r19.2) else g (82, v2, v3, v4, v5, v6, s0, (1 : Int32), 0, v0, r19.2) else g (81, v2, v3, v4, v5, v6, s0, 0, 0, v0, h)
set_option maxHeartbeats 1000000 in
set_option maxRecDepth 100000 in
theorem Ref_orderly_63_m {g g2 : (Nat × Int32 × Int32 × Int32 × Int32 × Int32 × Int32 × Int32 × Int32 × Nat × am_H) → Option (Int32 × am_H)} (hg : ∀ s, Le (g s) (g2 s)) (v0 : Nat) (v2 : Int32) (v3 : Int32) (v4 : Int32) (v5 : Int32) (v6 : Int32) (s0 : Int32) (h : am_H) : Le (Ref_orderly_63_b g v0 v2 v3 v4 v5 v6 s0 h) (Ref_orderly_63_b g2 v0 v2 v3 v4 v5 v6 s0 h) := by unfold Ref_orderly_63_b; exact le_i (le_b (le_r _) fun r19 => le_i (hg _) (hg _)) (hg _)
set_option maxHeartbeats 1000000 in
set_option maxRecDepth 100000 in
noncomputable def Ref_orderly_81_b (g : (Nat × Int32 × Int32 × Int32 × Int32 × Int32 × Int32 × Int32 × Int32 × Nat × am_H) → Option (Int32 × am_H)) (v0 : Nat) (v2 : Int32) (v3 : Int32) (v4 : Int32) (v5 : Int32) (v6 : Int32) (v8 : Int32) (h : am_H) : Option (Int32 × am_H) := g (82, v2, v3, v4, v5, v6, v8, (0 : Int32), 0, v0, h)
set_option maxHeartbeats 1000000 in
set_option maxRecDepth 100000 in
theorem Ref_orderly_81_m {g g2 : (Nat × Int32 × Int32 × Int32 × Int32 × Int32 × Int32 × Int32 × Int32 × Nat × am_H) → Option (Int32 × am_H)} (hg : ∀ s, Le (g s) (g2 s)) (v0 : Nat) (v2 : Int32) (v3 : Int32) (v4 : Int32) (v5 : Int32) (v6 : Int32) (v8 : Int32) (h : am_H) : Le (Ref_orderly_81_b g v0 v2 v3 v4 v5 v6 v8 h) (Ref_orderly_81_b g2 v0 v2 v3 v4 v5 v6 v8 h) := by unfold Ref_orderly_81_b; exact hg _
set_option maxHeartbeats 1000000 in
set_option maxRecDepth 100000 in
noncomputable def Ref_orderly_82_b (g : (Nat × Int32 × Int32 × Int32 × Int32 × Int32 × Int32 × Int32 × Int32 × Nat × am_H) → Option (Int32 × am_H)) (v0 : Nat) (v2 : Int32) (v3 : Int32) (v4 : Int32) (v5 : Int32) (v6 : Int32) (v8 : Int32) (s0 : Int32) (h : am_H) : Option (Int32 × am_H) := if v8 = (0 : Int32) then g (95, v2, v4, v5, v6, v8, s0, (0 : Int32), v3, v0, h) else g (95, v2, v4, v5, v6, v8, s0, (1 : Int32), v3, v0, h)
set_option maxHeartbeats 1000000 in
set_option maxRecDepth 100000 in
theorem Ref_orderly_82_m {g g2 : (Nat × Int32 × Int32 × Int32 × Int32 × Int32 × Int32 × Int32 × Int32 × Nat × am_H) → Option (Int32 × am_H)} (hg : ∀ s, Le (g s) (g2 s)) (v0 : Nat) (v2 : Int32) (v3 : Int32) (v4 : Int32) (v5 : Int32) (v6 : Int32) (v8 : Int32) (s0 : Int32) (h : am_H) : Le (Ref_orderly_82_b g v0 v2 v3 v4 v5 v6 v8 s0 h) (Ref_orderly_82_b g2 v0 v2 v3 v4 v5 v6 v8 s0 h) := by unfold Ref_orderly_82_b; exact le_i (hg _) (hg _)
set_option maxHeartbeats 1000000 in
set_option maxRecDepth 100000 in
noncomputable def Ref_orderly_95_b (g : (Nat × Int32 × Int32 × Int32 × Int32 × Int32 × Int32 × Int32 × Int32 × Nat × am_H) → Option (Int32 × am_H)) (v0 : Nat) (v2 : Int32) (v4 : Int32) (v5 : Int32) (v6 : Int32) (v8 : Int32) (v9 : Int32) (s0 : Int32) (s1 : Int32) (h : am_H) : Option (Int32 × am_H) := if v9 = (0 : Int32) then g (109, v2, (s1 + s0), v5, v6, v8, v9, (0 : Int32), v4, v0, h) else g (109, v2, (s1 + s0), v5, v6, v8, v9, (1 : Int32), v4, v0, h)
set_option maxHeartbeats 1000000 in
set_option maxRecDepth 100000 in
theorem Ref_orderly_95_m {g g2 : (Nat × Int32 × Int32 × Int32 × Int32 × Int32 × Int32 × Int32 × Int32 × Nat × am_H) → Option (Int32 × am_H)} (hg : ∀ s, Le (g s) (g2 s)) (v0 : Nat) (v2 : Int32) (v4 : Int32) (v5 : Int32) (v6 : Int32) (v8 : Int32) (v9 : Int32) (s0 : Int32) (s1 : Int32) (h : am_H) : Le (Ref_orderly_95_b g v0 v2 v4 v5 v6 v8 v9 s0 s1 h) (Ref_orderly_95_b g2 v0 v2 v4 v5 v6 v8 v9 s0 s1 h) := by unfold Ref_orderly_95_b; exact le_i (hg _) (hg _)
set_option maxHeartbeats 1000000 in
set_option maxRecDepth 100000 in
noncomputable def Ref_orderly_109_b (g : (Nat × Int32 × Int32 × Int32 × Int32 × Int32 × Int32 × Int32 × Int32 × Nat × am_H) → Option (Int32 × am_H)) (v0 : Nat) (v2 : Int32) (v3 : Int32) (v5 : Int32) (v6 : Int32) (v8 : Int32) (v9 : Int32) (s0 : Int32) (s1 : Int32) (h : am_H) : Option (Int32 × am_H) := if v8 = (0 : Int32) then if v9 = (0 : Int32) then g (129, v2, v3, (s1 + s0), v6, v8, (1 : Int32), v5, 0, v0, h) else g (124, v2, v3, (s1 + s0), v6, v8, v5, 0, 0, v0, h) else g (124, v2, v3, (s1 + s0), v6, v8, v5, 0, 0, v0, h)
set_option maxHeartbeats 1000000 in
set_option maxRecDepth 100000 in
theorem Ref_orderly_109_m {g g2 : (Nat × Int32 × Int32 × Int32 × Int32 × Int32 × Int32 × Int32 × Int32 × Nat × am_H) → Option (Int32 × am_H)} (hg : ∀ s, Le (g s) (g2 s)) (v0 : Nat) (v2 : Int32) (v3 : Int32) (v5 : Int32) (v6 : Int32) (v8 : Int32) (v9 : Int32) (s0 : Int32) (s1 : Int32) (h : am_H) : Le (Ref_orderly_109_b g v0 v2 v3 v5 v6 v8 v9 s0 s1 h) (Ref_orderly_109_b g2 v0 v2 v3 v5 v6 v8 v9 s0 s1 h) := by unfold Ref_orderly_109_b; exact le_i (le_i (hg _) (hg _)) (hg _)
set_option maxHeartbeats 1000000 in
set_option maxRecDepth 100000 in
noncomputable def Ref_orderly_124_b (g : (Nat × Int32 × Int32 × Int32 × Int32 × Int32 × Int32 × Int32 × Int32 × Nat × am_H) → Option (Int32 × am_H)) (v0 : Nat) (v2 : Int32) (v3 : Int32) (v4 : Int32) (v6 : Int32) (v8 : Int32) (s0 : Int32) (h : am_H) : Option (Int32 × am_H) := g (129, v2, v3, v4, v6, v8, (0 : Int32), s0, 0, v0, h)
set_option maxHeartbeats 1000000 in
set_option maxRecDepth 100000 in
theorem Ref_orderly_124_m {g g2 : (Nat × Int32 × Int32 × Int32 × Int32 × Int32 × Int32 × Int32 × Int32 × Nat × am_H) → Option (Int32 × am_H)} (hg : ∀ s, Le (g s) (g2 s)) (v0 : Nat) (v2 : Int32) (v3 : Int32) (v4 : Int32) (v6 : Int32) (v8 : Int32) (s0 : Int32) (h : am_H) : Le (Ref_orderly_124_b g v0 v2 v3 v4 v6 v8 s0 h) (Ref_orderly_124_b g2 v0 v2 v3 v4 v6 v8 s0 h) := by unfold Ref_orderly_124_b; exact hg _
set_option maxHeartbeats 1000000 in
set_option maxRecDepth 100000 in
noncomputable def Ref_orderly_129_b (g : (Nat × Int32 × Int32 × Int32 × Int32 × Int32 × Int32 × Int32 × Int32 × Nat × am_H) → Option (Int32 × am_H)) (v0 : Nat) (v2 : Int32) (v3 : Int32) (v4 : Int32) (v6 : Int32) (v8 : Int32) (s0 : Int32) (s1 : Int32) (h : am_H) : Option (Int32 × am_H) := if v8 = (0 : Int32) then g (150, v2, v3, v4, (s1 + s0), v6, 0, 0, 0, v0, h) else (Ref_rises v0 h).bind fun x34 => if x34 = (0 : Int32) then g (150, v2, v3, v4, (s1 + s0), v6, 0, 0, 0, v0, h) else g (151, v2, v3, v4, (s1 + s0), (1 : Int32), v6, 0, 0, v0, h)
set_option maxHeartbeats 1000000 in
set_option maxRecDepth 100000 in
theorem Ref_orderly_129_m {g g2 : (Nat × Int32 × Int32 × Int32 × Int32 × Int32 × Int32 × Int32 × Int32 × Nat × am_H) → Option (Int32 × am_H)} (hg : ∀ s, Le (g s) (g2 s)) (v0 : Nat) (v2 : Int32) (v3 : Int32) (v4 : Int32) (v6 : Int32) (v8 : Int32) (s0 : Int32) (s1 : Int32) (h : am_H) : Le (Ref_orderly_129_b g v0 v2 v3 v4 v6 v8 s0 s1 h) (Ref_orderly_129_b g2 v0 v2 v3 v4 v6 v8 s0 s1 h) := by unfold Ref_orderly_129_b; exact le_i (hg _) (le_b (le_r _) fun x34 => le_i (hg _) (hg _))
set_option maxHeartbeats 1000000 in
set_option maxRecDepth 100000 in
noncomputable def Ref_orderly_150_b (g : (Nat × Int32 × Int32 × Int32 × Int32 × Int32 × Int32 × Int32 × Int32 × Nat × am_H) → Option (Int32 × am_H)) (v0 : Nat) (v2 : Int32) (v3 : Int32) (v4 : Int32) (v5 : Int32) (s0 : Int32) (h : am_H) : Option (Int32 × am_H) := g (151, v2, v3, v4, v5, (0 : Int32), s0, 0, 0, v0, h)
set_option maxHeartbeats 1000000 in
set_option maxRecDepth 100000 in
theorem Ref_orderly_150_m {g g2 : (Nat × Int32 × Int32 × Int32 × Int32 × Int32 × Int32 × Int32 × Int32 × Nat × am_H) → Option (Int32 × am_H)} (hg : ∀ s, Le (g s) (g2 s)) (v0 : Nat) (v2 : Int32) (v3 : Int32) (v4 : Int32) (v5 : Int32) (s0 : Int32) (h : am_H) : Le (Ref_orderly_150_b g v0 v2 v3 v4 v5 s0 h) (Ref_orderly_150_b g2 v0 v2 v3 v4 v5 s0 h) := by unfold Ref_orderly_150_b; exact hg _
set_option maxHeartbeats 1000000 in
set_option maxRecDepth 100000 in
noncomputable def Ref_orderly_151_b (g : (Nat × Int32 × Int32 × Int32 × Int32 × Int32 × Int32 × Int32 × Int32 × Nat × am_H) → Option (Int32 × am_H)) (v0 : Nat) (v2 : Int32) (v3 : Int32) (v4 : Int32) (v5 : Int32) (s0 : Int32) (s1 : Int32) (h : am_H) : Option (Int32 × am_H) := (Ref_nextRow v0 h).bind fun r38 => g (40, v2, v3, v4, v5, (s1 + s0), r38.1, 0, 0, v0, r38.2)
set_option maxHeartbeats 1000000 in
set_option maxRecDepth 100000 in
theorem Ref_orderly_151_m {g g2 : (Nat × Int32 × Int32 × Int32 × Int32 × Int32 × Int32 × Int32 × Int32 × Nat × am_H) → Option (Int32 × am_H)} (hg : ∀ s, Le (g s) (g2 s)) (v0 : Nat) (v2 : Int32) (v3 : Int32) (v4 : Int32) (v5 : Int32) (s0 : Int32) (s1 : Int32) (h : am_H) : Le (Ref_orderly_151_b g v0 v2 v3 v4 v5 s0 s1 h) (Ref_orderly_151_b g2 v0 v2 v3 v4 v5 s0 s1 h) := by unfold Ref_orderly_151_b; exact le_b (le_r _) fun r38 => hg _
noncomputable def Ref_orderly_40_F (g : (Nat × Int32 × Int32 × Int32 × Int32 × Int32 × Int32 × Int32 × Int32 × Nat × am_H) → Option (Int32 × am_H)) (s : (Nat × Int32 × Int32 × Int32 × Int32 × Int32 × Int32 × Int32 × Int32 × Nat × am_H)) : Option (Int32 × am_H) := if s.1 = 40 then Ref_orderly_40_b g s.2.2.2.2.2.2.2.2.2.1 s.2.1 s.2.2.1 s.2.2.2.1 s.2.2.2.2.1 s.2.2.2.2.2.1 s.2.2.2.2.2.2.1 s.2.2.2.2.2.2.2.2.2.2 else if s.1 = 63 then Ref_orderly_63_b g s.2.2.2.2.2.2.2.2.2.1 s.2.1 s.2.2.1 s.2.2.2.1 s.2.2.2.2.1 s.2.2.2.2.2.1 s.2.2.2.2.2.2.1 s.2.2.2.2.2.2.2.2.2.2 else if s.1 = 81 then Ref_orderly_81_b g s.2.2.2.2.2.2.2.2.2.1 s.2.1 s.2.2.1 s.2.2.2.1 s.2.2.2.2.1 s.2.2.2.2.2.1 s.2.2.2.2.2.2.1 s.2.2.2.2.2.2.2.2.2.2 else if s.1 = 82 then Ref_orderly_82_b g s.2.2.2.2.2.2.2.2.2.1 s.2.1 s.2.2.1 s.2.2.2.1 s.2.2.2.2.1 s.2.2.2.2.2.1 s.2.2.2.2.2.2.1 s.2.2.2.2.2.2.2.1 s.2.2.2.2.2.2.2.2.2.2 else if s.1 = 95 then Ref_orderly_95_b g s.2.2.2.2.2.2.2.2.2.1 s.2.1 s.2.2.1 s.2.2.2.1 s.2.2.2.2.1 s.2.2.2.2.2.1 s.2.2.2.2.2.2.1 s.2.2.2.2.2.2.2.1 s.2.2.2.2.2.2.2.2.1 s.2.2.2.2.2.2.2.2.2.2 else if s.1 = 109 then Ref_orderly_109_b g s.2.2.2.2.2.2.2.2.2.1 s.2.1 s.2.2.1 s.2.2.2.1 s.2.2.2.2.1 s.2.2.2.2.2.1 s.2.2.2.2.2.2.1 s.2.2.2.2.2.2.2.1 s.2.2.2.2.2.2.2.2.1 s.2.2.2.2.2.2.2.2.2.2 else if s.1 = 124 then Ref_orderly_124_b g s.2.2.2.2.2.2.2.2.2.1 s.2.1 s.2.2.1 s.2.2.2.1 s.2.2.2.2.1 s.2.2.2.2.2.1 s.2.2.2.2.2.2.1 s.2.2.2.2.2.2.2.2.2.2 else if s.1 = 129 then Ref_orderly_129_b g s.2.2.2.2.2.2.2.2.2.1 s.2.1 s.2.2.1 s.2.2.2.1 s.2.2.2.2.1 s.2.2.2.2.2.1 s.2.2.2.2.2.2.1 s.2.2.2.2.2.2.2.1 s.2.2.2.2.2.2.2.2.2.2 else if s.1 = 150 then Ref_orderly_150_b g s.2.2.2.2.2.2.2.2.2.1 s.2.1 s.2.2.1 s.2.2.2.1 s.2.2.2.2.1 s.2.2.2.2.2.1 s.2.2.2.2.2.2.2.2.2.2 else if s.1 = 151 then Ref_orderly_151_b g s.2.2.2.2.2.2.2.2.2.1 s.2.1 s.2.2.1 s.2.2.2.1 s.2.2.2.2.1 s.2.2.2.2.2.1 s.2.2.2.2.2.2.1 s.2.2.2.2.2.2.2.2.2.2 else none
theorem Ref_orderly_40_M : Mn Ref_orderly_40_F := fun g g2 hg s => by unfold Ref_orderly_40_F; exact le_i (Ref_orderly_40_m hg s.2.2.2.2.2.2.2.2.2.1 s.2.1 s.2.2.1 s.2.2.2.1 s.2.2.2.2.1 s.2.2.2.2.2.1 s.2.2.2.2.2.2.1 s.2.2.2.2.2.2.2.2.2.2) (le_i (Ref_orderly_63_m hg s.2.2.2.2.2.2.2.2.2.1 s.2.1 s.2.2.1 s.2.2.2.1 s.2.2.2.2.1 s.2.2.2.2.2.1 s.2.2.2.2.2.2.1 s.2.2.2.2.2.2.2.2.2.2) (le_i (Ref_orderly_81_m hg s.2.2.2.2.2.2.2.2.2.1 s.2.1 s.2.2.1 s.2.2.2.1 s.2.2.2.2.1 s.2.2.2.2.2.1 s.2.2.2.2.2.2.1 s.2.2.2.2.2.2.2.2.2.2) (le_i (Ref_orderly_82_m hg s.2.2.2.2.2.2.2.2.2.1 s.2.1 s.2.2.1 s.2.2.2.1 s.2.2.2.2.1 s.2.2.2.2.2.1 s.2.2.2.2.2.2.1 s.2.2.2.2.2.2.2.1 s.2.2.2.2.2.2.2.2.2.2) (le_i (Ref_orderly_95_m hg s.2.2.2.2.2.2.2.2.2.1 s.2.1 s.2.2.1 s.2.2.2.1 s.2.2.2.2.1 s.2.2.2.2.2.1 s.2.2.2.2.2.2.1 s.2.2.2.2.2.2.2.1 s.2.2.2.2.2.2.2.2.1 s.2.2.2.2.2.2.2.2.2.2) (le_i (Ref_orderly_109_m hg s.2.2.2.2.2.2.2.2.2.1 s.2.1 s.2.2.1 s.2.2.2.1 s.2.2.2.2.1 s.2.2.2.2.2.1 s.2.2.2.2.2.2.1 s.2.2.2.2.2.2.2.1 s.2.2.2.2.2.2.2.2.1 s.2.2.2.2.2.2.2.2.2.2) (le_i (Ref_orderly_124_m hg s.2.2.2.2.2.2.2.2.2.1 s.2.1 s.2.2.1 s.2.2.2.1 s.2.2.2.2.1 s.2.2.2.2.2.1 s.2.2.2.2.2.2.1 s.2.2.2.2.2.2.2.2.2.2) (le_i (Ref_orderly_129_m hg s.2.2.2.2.2.2.2.2.2.1 s.2.1 s.2.2.1 s.2.2.2.1 s.2.2.2.2.1 s.2.2.2.2.2.1 s.2.2.2.2.2.2.1 s.2.2.2.2.2.2.2.1 s.2.2.2.2.2.2.2.2.2.2) (le_i (Ref_orderly_150_m hg s.2.2.2.2.2.2.2.2.2.1 s.2.1 s.2.2.1 s.2.2.2.1 s.2.2.2.2.1 s.2.2.2.2.2.1 s.2.2.2.2.2.2.2.2.2.2) (le_i (Ref_orderly_151_m hg s.2.2.2.2.2.2.2.2.2.1 s.2.1 s.2.2.1 s.2.2.2.1 s.2.2.2.2.1 s.2.2.2.2.2.1 s.2.2.2.2.2.2.1 s.2.2.2.2.2.2.2.2.2.2) (le_r _))))))))))
def Ref_orderly_40_P (s : (Nat × Int32 × Int32 × Int32 × Int32 × Int32 × Int32 × Int32 × Int32 × Nat × am_H)) (r : (Int32 × am_H)) : Prop := (s.1 = 40 → Sx 89 mX12_orderly 40 [.ref s.2.2.2.2.2.2.2.2.2.1, .retAddr 0, .int s.2.1, .int s.2.2.1, .int s.2.2.2.1, .int s.2.2.2.2.1, .int s.2.2.2.2.2.1, .int s.2.2.2.2.2.2.1, .retAddr 0, .retAddr 0] [] s.2.2.2.2.2.2.2.2.2.2 (some (.int r.1)) r.2) ∧ (s.1 = 63 → Sx 89 mX12_orderly 63 [.ref s.2.2.2.2.2.2.2.2.2.1, .retAddr 0, .int s.2.1, .int s.2.2.1, .int s.2.2.2.1, .int s.2.2.2.2.1, .int s.2.2.2.2.2.1, .retAddr 0, .retAddr 0, .retAddr 0] [.int s.2.2.2.2.2.2.1] s.2.2.2.2.2.2.2.2.2.2 (some (.int r.1)) r.2) ∧ (s.1 = 81 → Sx 89 mX12_orderly 81 [.ref s.2.2.2.2.2.2.2.2.2.1, .retAddr 0, .int s.2.1, .int s.2.2.1, .int s.2.2.2.1, .int s.2.2.2.2.1, .int s.2.2.2.2.2.1, .retAddr 0, .int s.2.2.2.2.2.2.1, .retAddr 0] [] s.2.2.2.2.2.2.2.2.2.2 (some (.int r.1)) r.2) ∧ (s.1 = 82 → Sx 89 mX12_orderly 82 [.ref s.2.2.2.2.2.2.2.2.2.1, .retAddr 0, .int s.2.1, .int s.2.2.1, .int s.2.2.2.1, .int s.2.2.2.2.1, .int s.2.2.2.2.2.1, .retAddr 0, .int s.2.2.2.2.2.2.1, .retAddr 0] [.int s.2.2.2.2.2.2.2.1] s.2.2.2.2.2.2.2.2.2.2 (some (.int r.1)) r.2) ∧ (s.1 = 95 → Sx 89 mX12_orderly 95 [.ref s.2.2.2.2.2.2.2.2.2.1, .retAddr 0, .int s.2.1, .retAddr 0, .int s.2.2.1, .int s.2.2.2.1, .int s.2.2.2.2.1, .retAddr 0, .int s.2.2.2.2.2.1, .int s.2.2.2.2.2.2.1] [.int s.2.2.2.2.2.2.2.1, .int s.2.2.2.2.2.2.2.2.1] s.2.2.2.2.2.2.2.2.2.2 (some (.int r.1)) r.2) ∧ (s.1 = 109 → Sx 89 mX12_orderly 109 [.ref s.2.2.2.2.2.2.2.2.2.1, .retAddr 0, .int s.2.1, .int s.2.2.1, .retAddr 0, .int s.2.2.2.1, .int s.2.2.2.2.1, .retAddr 0, .int s.2.2.2.2.2.1, .int s.2.2.2.2.2.2.1] [.int s.2.2.2.2.2.2.2.1, .int s.2.2.2.2.2.2.2.2.1] s.2.2.2.2.2.2.2.2.2.2 (some (.int r.1)) r.2) ∧ (s.1 = 124 → Sx 89 mX12_orderly 124 [.ref s.2.2.2.2.2.2.2.2.2.1, .retAddr 0, .int s.2.1, .int s.2.2.1, .int s.2.2.2.1, .retAddr 0, .int s.2.2.2.2.1, .retAddr 0, .int s.2.2.2.2.2.1, .retAddr 0] [.int s.2.2.2.2.2.2.1] s.2.2.2.2.2.2.2.2.2.2 (some (.int r.1)) r.2) ∧ (s.1 = 129 → Sx 89 mX12_orderly 129 [.ref s.2.2.2.2.2.2.2.2.2.1, .retAddr 0, .int s.2.1, .int s.2.2.1, .int s.2.2.2.1, .retAddr 0, .int s.2.2.2.2.1, .retAddr 0, .int s.2.2.2.2.2.1, .retAddr 0] [.int s.2.2.2.2.2.2.1, .int s.2.2.2.2.2.2.2.1] s.2.2.2.2.2.2.2.2.2.2 (some (.int r.1)) r.2) ∧ (s.1 = 150 → Sx 89 mX12_orderly 150 [.ref s.2.2.2.2.2.2.2.2.2.1, .retAddr 0, .int s.2.1, .int s.2.2.1, .int s.2.2.2.1, .int s.2.2.2.2.1, .retAddr 0, .retAddr 0, .retAddr 0, .retAddr 0] [.int s.2.2.2.2.2.1] s.2.2.2.2.2.2.2.2.2.2 (some (.int r.1)) r.2) ∧ (s.1 = 151 → Sx 89 mX12_orderly 151 [.ref s.2.2.2.2.2.2.2.2.2.1, .retAddr 0, .int s.2.1, .int s.2.2.1, .int s.2.2.2.1, .int s.2.2.2.2.1, .retAddr 0, .retAddr 0, .retAddr 0, .retAddr 0] [.int s.2.2.2.2.2.1, .int s.2.2.2.2.2.2.1] s.2.2.2.2.2.2.2.2.2.2 (some (.int r.1)) r.2) ∧ True
set_option maxHeartbeats 1000000 in
set_option maxRecDepth 100000 in
theorem Ref_orderly_40_t {g : (Nat × Int32 × Int32 × Int32 × Int32 × Int32 × Int32 × Int32 × Int32 × Nat × am_H) → Option (Int32 × am_H)} (hg : ∀ s r, g s = some r → Ref_orderly_40_P s r) {v0 : Nat} {v2 : Int32} {v3 : Int32} {v4 : Int32} {v5 : Int32} {v6 : Int32} {v7 : Int32} {h : am_H} {r : (Int32 × am_H)} (hb : Ref_orderly_40_b g v0 v2 v3 v4 v5 v6 v7 h = some r) : Sx 89 mX12_orderly 40 [.ref v0, .retAddr 0, .int v2, .int v3, .int v4, .int v5, .int v6, .int v7, .retAddr 0, .retAddr 0] [] h (some (.int r.1)) r.2 := by
  unfold Ref_orderly_40_b at hb
  refine Sx.o (fun _ _ _ k => ex_iload dX12_orderly_40 rfl k) ?_
  refine Sx.b (fun _ _ _ k1 k2 => ex_if_eq 163 dX12_orderly_42 (by decide) k1 k2) (fun q => ?_) (fun q => ?_)
  · have hb1 := ip q hb
    refine Sx.o (fun _ _ _ k => ex_iload_n dX12_orderly_163 rfl k) ?_
    refine Sx.bn (fun _ _ _ k1 k2 => ex_if_ne 171 dX12_orderly_164 (by decide) k1 k2) (fun q => ?_) (fun q => ?_)
    · have hb3 := iq q hb1
      refine Sx.o (fun _ _ _ k => ex_iload_n dX12_orderly_171 rfl k) ?_
      refine Sx.o (fun _ _ _ k => op_iconst (1 : Int32) dX12_orderly_172 (by decide) k) ?_
      refine Sx.bn (fun _ _ _ k1 k2 => ex_icmp_ne 181 dX12_orderly_173 (by decide) k1 k2) (fun q => ?_) (fun q => ?_)
      · have hb5 := iq q hb3
        refine Sx.o (fun _ _ _ k => ex_iload_n dX12_orderly_181 rfl k) ?_
        refine Sx.o (fun _ _ _ k => op_iconst (2 : Int32) dX12_orderly_182 (by decide) k) ?_
        refine Sx.bn (fun _ _ _ k1 k2 => ex_icmp_ne 191 dX12_orderly_183 (by decide) k1 k2) (fun q => ?_) (fun q => ?_)
        · have hb7 := iq q hb5
          refine Sx.o (fun _ _ _ k => ex_iload dX12_orderly_191 rfl k) ?_
          obtain rfl := Option.some.inj hb7
          exact Sx.r (fun _ _ _ k => ex_iret rfl dX12_orderly_193 k)
        · have hb8 := ip q hb5
          refine Sx.o (fun _ _ _ k => ex_iload dX12_orderly_186 rfl k) ?_
          refine Sx.o (fun _ _ _ k => ex_goto 193 dX12_orderly_188 (by decide) k) ?_
          obtain rfl := Option.some.inj hb8
          exact Sx.r (fun _ _ _ k => ex_iret rfl dX12_orderly_193 k)
      · have hb6 := ip q hb3
        refine Sx.o (fun _ _ _ k => ex_iload dX12_orderly_176 rfl k) ?_
        refine Sx.o (fun _ _ _ k => ex_goto 193 dX12_orderly_178 (by decide) k) ?_
        obtain rfl := Option.some.inj hb6
        exact Sx.r (fun _ _ _ k => ex_iret rfl dX12_orderly_193 k)
    · have hb4 := ip q hb1
      refine Sx.o (fun _ _ _ k => ex_iload_n dX12_orderly_167 rfl k) ?_
      refine Sx.o (fun _ _ _ k => ex_goto 193 dX12_orderly_168 (by decide) k) ?_
      obtain rfl := Option.some.inj hb4
      exact Sx.r (fun _ _ _ k => ex_iret rfl dX12_orderly_193 k)
  · have hb2 := iq q hb
    refine Sx.o (fun _ _ _ k => ex_aload_n dX12_orderly_45 rfl rfl k) ?_
    refine Sx.o (fun _ _ _ k => op_iconst (-1 : Int32) dX12_orderly_46 (by decide) k) ?_
    obtain ⟨h9, e_h9, hb10⟩ := ob2 hb2
    refine sx_callV (dc := 0) (as := [.int (-1 : Int32)]) (stq := []) (by omega) dX12_orderly_47 MX12_takesRow kX12_384 iX12_takesRow sX12_takesRow rfl rfl (Ref_takesRow_o e_h9) rfl rfl (Nat.le_of_ble_eq_true rfl) (Nat.le_of_ble_eq_true rfl) (Ref_takesRow_s e_h9) rfl ?_
    refine Sx.o (fun _ _ _ k => ex_aload_n dX12_orderly_50 rfl rfl k) ?_
    obtain ⟨r12, e_r12, hb13⟩ := ob2 hb10
    refine sx_callV (dc := 88) (as := []) (stq := [.int r12.1]) (by omega) dX12_orderly_51 MX12_endsBehind kX12_353 iX12_endsBehind sX12_endsBehind rfl rfl (Ref_endsBehind_o e_r12) rfl rfl (Nat.le_of_ble_eq_true rfl) (Nat.le_of_ble_eq_true rfl) (Ref_endsBehind_s e_r12) rfl ?_
    refine Sx.o (fun _ _ _ k => op_iconst (-1 : Int32) dX12_orderly_54 (by decide) k) ?_
    refine Sx.b (fun _ _ _ k1 k2 => ex_icmp_eq 62 dX12_orderly_55 (by decide) k1 k2) (fun q => ?_) (fun q => ?_)
    · have hb15 := ip q hb13
      refine Sx.o (fun _ _ _ k => op_iconst (0 : Int32) dX12_orderly_62 (by decide) k) ?_
      refine Sx.fg [true, true, true, true, true, true, true, false, true, true] ?_
      exact (hg _ _ hb15).2.1 rfl
    · have hb16 := iq q hb13
      refine Sx.o (fun _ _ _ k => op_iconst (1 : Int32) dX12_orderly_58 (by decide) k) ?_
      refine Sx.o (fun _ _ _ k => ex_goto 63 dX12_orderly_59 (by decide) k) ?_
      refine Sx.fg [true, true, true, true, true, true, true, false, true, true] ?_
      exact (hg _ _ hb16).2.1 rfl
set_option maxHeartbeats 1000000 in
set_option maxRecDepth 100000 in
theorem Ref_orderly_63_t {g : (Nat × Int32 × Int32 × Int32 × Int32 × Int32 × Int32 × Int32 × Int32 × Nat × am_H) → Option (Int32 × am_H)} (hg : ∀ s r, g s = some r → Ref_orderly_40_P s r) {v0 : Nat} {v2 : Int32} {v3 : Int32} {v4 : Int32} {v5 : Int32} {v6 : Int32} {s0 : Int32} {h : am_H} {r : (Int32 × am_H)} (hb : Ref_orderly_63_b g v0 v2 v3 v4 v5 v6 s0 h = some r) : Sx 89 mX12_orderly 63 [.ref v0, .retAddr 0, .int v2, .int v3, .int v4, .int v5, .int v6, .retAddr 0, .retAddr 0, .retAddr 0] [.int s0] h (some (.int r.1)) r.2 := by
  unfold Ref_orderly_63_b at hb
  refine Sx.o (L' := [.ref v0, .retAddr 0, .int v2, .int v3, .int v4, .int v5, .int v6, .retAddr 0, .int s0, .retAddr 0]) (fun _ _ _ k => ex_istore dX12_orderly_63 (by decide) k) ?_
  refine Sx.o (fun _ _ _ k => ex_iload dX12_orderly_65 rfl k) ?_
  refine Sx.bn (fun _ _ _ k1 k2 => ex_if_ne 81 dX12_orderly_67 (by decide) k1 k2) (fun q => ?_) (fun q => ?_)
  · have hb17 := iq q hb
    exact (hg _ _ hb17).2.2.1 rfl
  · have hb18 := ip q hb
    refine Sx.o (fun _ _ _ k => ex_aload_n dX12_orderly_70 rfl rfl k) ?_
    obtain ⟨r19, e_r19, hb20⟩ := ob2 hb18
    refine sx_callV (dc := 87) (as := []) (stq := [.int r19.1]) (by omega) dX12_orderly_71 MX12_isStuck kX12_140 iX12_isStuck sX12_isStuck rfl rfl (Ref_isStuck_o e_r19) rfl rfl (Nat.le_of_ble_eq_true rfl) (Nat.le_of_ble_eq_true rfl) (Ref_isStuck_s e_r19) rfl ?_
    refine Sx.b (fun _ _ _ k1 k2 => ex_if_eq 81 dX12_orderly_74 (by decide) k1 k2) (fun q => ?_) (fun q => ?_)
    · have hb22 := ip q hb20
      exact (hg _ _ hb22).2.2.1 rfl
    · have hb23 := iq q hb20
      refine Sx.o (fun _ _ _ k => op_iconst (1 : Int32) dX12_orderly_77 (by decide) k) ?_
      refine Sx.o (fun _ _ _ k => ex_goto 82 dX12_orderly_78 (by decide) k) ?_
      exact (hg _ _ hb23).2.2.2.1 rfl
set_option maxHeartbeats 1000000 in
set_option maxRecDepth 100000 in
theorem Ref_orderly_81_t {g : (Nat × Int32 × Int32 × Int32 × Int32 × Int32 × Int32 × Int32 × Int32 × Nat × am_H) → Option (Int32 × am_H)} (hg : ∀ s r, g s = some r → Ref_orderly_40_P s r) {v0 : Nat} {v2 : Int32} {v3 : Int32} {v4 : Int32} {v5 : Int32} {v6 : Int32} {v8 : Int32} {h : am_H} {r : (Int32 × am_H)} (hb : Ref_orderly_81_b g v0 v2 v3 v4 v5 v6 v8 h = some r) : Sx 89 mX12_orderly 81 [.ref v0, .retAddr 0, .int v2, .int v3, .int v4, .int v5, .int v6, .retAddr 0, .int v8, .retAddr 0] [] h (some (.int r.1)) r.2 := by
  unfold Ref_orderly_81_b at hb
  refine Sx.o (fun _ _ _ k => op_iconst (0 : Int32) dX12_orderly_81 (by decide) k) ?_
  exact (hg _ _ hb).2.2.2.1 rfl
set_option maxHeartbeats 1000000 in
set_option maxRecDepth 100000 in
theorem Ref_orderly_82_t {g : (Nat × Int32 × Int32 × Int32 × Int32 × Int32 × Int32 × Int32 × Int32 × Nat × am_H) → Option (Int32 × am_H)} (hg : ∀ s r, g s = some r → Ref_orderly_40_P s r) {v0 : Nat} {v2 : Int32} {v3 : Int32} {v4 : Int32} {v5 : Int32} {v6 : Int32} {v8 : Int32} {s0 : Int32} {h : am_H} {r : (Int32 × am_H)} (hb : Ref_orderly_82_b g v0 v2 v3 v4 v5 v6 v8 s0 h = some r) : Sx 89 mX12_orderly 82 [.ref v0, .retAddr 0, .int v2, .int v3, .int v4, .int v5, .int v6, .retAddr 0, .int v8, .retAddr 0] [.int s0] h (some (.int r.1)) r.2 := by
  unfold Ref_orderly_82_b at hb
  refine Sx.o (L' := [.ref v0, .retAddr 0, .int v2, .int v3, .int v4, .int v5, .int v6, .retAddr 0, .int v8, .int s0]) (fun _ _ _ k => ex_istore dX12_orderly_82 (by decide) k) ?_
  refine Sx.o (fun _ _ _ k => ex_iload_n dX12_orderly_84 rfl k) ?_
  refine Sx.o (fun _ _ _ k => ex_iload dX12_orderly_85 rfl k) ?_
  refine Sx.b (fun _ _ _ k1 k2 => ex_if_eq 94 dX12_orderly_87 (by decide) k1 k2) (fun q => ?_) (fun q => ?_)
  · have hb24 := ip q hb
    refine Sx.o (fun _ _ _ k => op_iconst (0 : Int32) dX12_orderly_94 (by decide) k) ?_
    refine Sx.fg [true, true, true, false, true, true, true, true, true, true] ?_
    exact (hg _ _ hb24).2.2.2.2.1 rfl
  · have hb25 := iq q hb
    refine Sx.o (fun _ _ _ k => op_iconst (1 : Int32) dX12_orderly_90 (by decide) k) ?_
    refine Sx.o (fun _ _ _ k => ex_goto 95 dX12_orderly_91 (by decide) k) ?_
    refine Sx.fg [true, true, true, false, true, true, true, true, true, true] ?_
    exact (hg _ _ hb25).2.2.2.2.1 rfl
set_option maxHeartbeats 1000000 in
set_option maxRecDepth 100000 in
theorem Ref_orderly_95_t {g : (Nat × Int32 × Int32 × Int32 × Int32 × Int32 × Int32 × Int32 × Int32 × Nat × am_H) → Option (Int32 × am_H)} (hg : ∀ s r, g s = some r → Ref_orderly_40_P s r) {v0 : Nat} {v2 : Int32} {v4 : Int32} {v5 : Int32} {v6 : Int32} {v8 : Int32} {v9 : Int32} {s0 : Int32} {s1 : Int32} {h : am_H} {r : (Int32 × am_H)} (hb : Ref_orderly_95_b g v0 v2 v4 v5 v6 v8 v9 s0 s1 h = some r) : Sx 89 mX12_orderly 95 [.ref v0, .retAddr 0, .int v2, .retAddr 0, .int v4, .int v5, .int v6, .retAddr 0, .int v8, .int v9] [.int s0, .int s1] h (some (.int r.1)) r.2 := by
  unfold Ref_orderly_95_b at hb
  refine Sx.o (fun _ _ _ k => ex_iadd dX12_orderly_95 k) ?_
  refine Sx.o (L' := [.ref v0, .retAddr 0, .int v2, .int (s1 + s0), .int v4, .int v5, .int v6, .retAddr 0, .int v8, .int v9]) (fun _ _ _ k => ex_istore_n dX12_orderly_96 (by decide) k) ?_
  refine Sx.o (fun _ _ _ k => ex_iload dX12_orderly_97 rfl k) ?_
  refine Sx.o (fun _ _ _ k => ex_iload dX12_orderly_99 rfl k) ?_
  refine Sx.b (fun _ _ _ k1 k2 => ex_if_eq 108 dX12_orderly_101 (by decide) k1 k2) (fun q => ?_) (fun q => ?_)
  · have hb26 := ip q hb
    refine Sx.o (fun _ _ _ k => op_iconst (0 : Int32) dX12_orderly_108 (by decide) k) ?_
    refine Sx.fg [true, true, true, true, false, true, true, true, true, true] ?_
    exact (hg _ _ hb26).2.2.2.2.2.1 rfl
  · have hb27 := iq q hb
    refine Sx.o (fun _ _ _ k => op_iconst (1 : Int32) dX12_orderly_104 (by decide) k) ?_
    refine Sx.o (fun _ _ _ k => ex_goto 109 dX12_orderly_105 (by decide) k) ?_
    refine Sx.fg [true, true, true, true, false, true, true, true, true, true] ?_
    exact (hg _ _ hb27).2.2.2.2.2.1 rfl
set_option maxHeartbeats 1000000 in
set_option maxRecDepth 100000 in
theorem Ref_orderly_109_t {g : (Nat × Int32 × Int32 × Int32 × Int32 × Int32 × Int32 × Int32 × Int32 × Nat × am_H) → Option (Int32 × am_H)} (hg : ∀ s r, g s = some r → Ref_orderly_40_P s r) {v0 : Nat} {v2 : Int32} {v3 : Int32} {v5 : Int32} {v6 : Int32} {v8 : Int32} {v9 : Int32} {s0 : Int32} {s1 : Int32} {h : am_H} {r : (Int32 × am_H)} (hb : Ref_orderly_109_b g v0 v2 v3 v5 v6 v8 v9 s0 s1 h = some r) : Sx 89 mX12_orderly 109 [.ref v0, .retAddr 0, .int v2, .int v3, .retAddr 0, .int v5, .int v6, .retAddr 0, .int v8, .int v9] [.int s0, .int s1] h (some (.int r.1)) r.2 := by
  unfold Ref_orderly_109_b at hb
  refine Sx.o (fun _ _ _ k => ex_iadd dX12_orderly_109 k) ?_
  refine Sx.o (L' := [.ref v0, .retAddr 0, .int v2, .int v3, .int (s1 + s0), .int v5, .int v6, .retAddr 0, .int v8, .int v9]) (fun _ _ _ k => ex_istore dX12_orderly_110 (by decide) k) ?_
  refine Sx.o (fun _ _ _ k => ex_iload dX12_orderly_112 rfl k) ?_
  refine Sx.o (fun _ _ _ k => ex_iload dX12_orderly_114 rfl k) ?_
  refine Sx.bn (fun _ _ _ k1 k2 => ex_if_ne 124 dX12_orderly_116 (by decide) k1 k2) (fun q => ?_) (fun q => ?_)
  · have hb28 := iq q hb
    refine Sx.fg [true, true, true, true, true, false, true, true, true, false] ?_
    exact (hg _ _ hb28).2.2.2.2.2.2.1 rfl
  · have hb29 := ip q hb
    refine Sx.o (fun _ _ _ k => ex_iload dX12_orderly_119 rfl k) ?_
    refine Sx.b (fun _ _ _ k1 k2 => ex_if_eq 128 dX12_orderly_121 (by decide) k1 k2) (fun q => ?_) (fun q => ?_)
    · have hb30 := ip q hb29
      refine Sx.o (fun _ _ _ k => op_iconst (1 : Int32) dX12_orderly_128 (by decide) k) ?_
      refine Sx.fg [true, true, true, true, true, false, true, true, true, false] ?_
      exact (hg _ _ hb30).2.2.2.2.2.2.2.1 rfl
    · have hb31 := iq q hb29
      refine Sx.fg [true, true, true, true, true, false, true, true, true, false] ?_
      exact (hg _ _ hb31).2.2.2.2.2.2.1 rfl
set_option maxHeartbeats 1000000 in
set_option maxRecDepth 100000 in
theorem Ref_orderly_124_t {g : (Nat × Int32 × Int32 × Int32 × Int32 × Int32 × Int32 × Int32 × Int32 × Nat × am_H) → Option (Int32 × am_H)} (hg : ∀ s r, g s = some r → Ref_orderly_40_P s r) {v0 : Nat} {v2 : Int32} {v3 : Int32} {v4 : Int32} {v6 : Int32} {v8 : Int32} {s0 : Int32} {h : am_H} {r : (Int32 × am_H)} (hb : Ref_orderly_124_b g v0 v2 v3 v4 v6 v8 s0 h = some r) : Sx 89 mX12_orderly 124 [.ref v0, .retAddr 0, .int v2, .int v3, .int v4, .retAddr 0, .int v6, .retAddr 0, .int v8, .retAddr 0] [.int s0] h (some (.int r.1)) r.2 := by
  unfold Ref_orderly_124_b at hb
  refine Sx.o (fun _ _ _ k => op_iconst (0 : Int32) dX12_orderly_124 (by decide) k) ?_
  refine Sx.o (fun _ _ _ k => ex_goto 129 dX12_orderly_125 (by decide) k) ?_
  exact (hg _ _ hb).2.2.2.2.2.2.2.1 rfl
set_option maxHeartbeats 1000000 in
set_option maxRecDepth 100000 in
theorem Ref_orderly_129_t {g : (Nat × Int32 × Int32 × Int32 × Int32 × Int32 × Int32 × Int32 × Int32 × Nat × am_H) → Option (Int32 × am_H)} (hg : ∀ s r, g s = some r → Ref_orderly_40_P s r) {v0 : Nat} {v2 : Int32} {v3 : Int32} {v4 : Int32} {v6 : Int32} {v8 : Int32} {s0 : Int32} {s1 : Int32} {h : am_H} {r : (Int32 × am_H)} (hb : Ref_orderly_129_b g v0 v2 v3 v4 v6 v8 s0 s1 h = some r) : Sx 89 mX12_orderly 129 [.ref v0, .retAddr 0, .int v2, .int v3, .int v4, .retAddr 0, .int v6, .retAddr 0, .int v8, .retAddr 0] [.int s0, .int s1] h (some (.int r.1)) r.2 := by
  unfold Ref_orderly_129_b at hb
  refine Sx.o (fun _ _ _ k => ex_iadd dX12_orderly_129 k) ?_
  refine Sx.o (L' := [.ref v0, .retAddr 0, .int v2, .int v3, .int v4, .int (s1 + s0), .int v6, .retAddr 0, .int v8, .retAddr 0]) (fun _ _ _ k => ex_istore dX12_orderly_130 (by decide) k) ?_
  refine Sx.o (fun _ _ _ k => ex_iload dX12_orderly_132 rfl k) ?_
  refine Sx.o (fun _ _ _ k => ex_iload dX12_orderly_134 rfl k) ?_
  refine Sx.b (fun _ _ _ k1 k2 => ex_if_eq 150 dX12_orderly_136 (by decide) k1 k2) (fun q => ?_) (fun q => ?_)
  · have hb32 := ip q hb
    refine Sx.fg [true, true, true, true, true, true, false, true, false, true] ?_
    exact (hg _ _ hb32).2.2.2.2.2.2.2.2.1 rfl
  · have hb33 := iq q hb
    refine Sx.o (fun _ _ _ k => ex_aload_n dX12_orderly_139 rfl rfl k) ?_
    obtain ⟨x34, e_x34, hb35⟩ := ob2 hb33
    refine sx_callV (dc := 0) (as := []) (stq := [.int x34, .int v6]) (by omega) dX12_orderly_140 MX12_rises kX12_393 iX12_rises sX12_rises rfl rfl (Ref_rises_o e_x34) rfl rfl (Nat.le_of_ble_eq_true rfl) (Nat.le_of_ble_eq_true rfl) (Ref_rises_s e_x34) rfl ?_
    refine Sx.b (fun _ _ _ k1 k2 => ex_if_eq 150 dX12_orderly_143 (by decide) k1 k2) (fun q => ?_) (fun q => ?_)
    · have hb36 := ip q hb35
      refine Sx.fg [true, true, true, true, true, true, false, true, false, true] ?_
      exact (hg _ _ hb36).2.2.2.2.2.2.2.2.1 rfl
    · have hb37 := iq q hb35
      refine Sx.o (fun _ _ _ k => op_iconst (1 : Int32) dX12_orderly_146 (by decide) k) ?_
      refine Sx.o (fun _ _ _ k => ex_goto 151 dX12_orderly_147 (by decide) k) ?_
      refine Sx.fg [true, true, true, true, true, true, false, true, false, true] ?_
      exact (hg _ _ hb37).2.2.2.2.2.2.2.2.2.1 rfl
set_option maxHeartbeats 1000000 in
set_option maxRecDepth 100000 in
theorem Ref_orderly_150_t {g : (Nat × Int32 × Int32 × Int32 × Int32 × Int32 × Int32 × Int32 × Int32 × Nat × am_H) → Option (Int32 × am_H)} (hg : ∀ s r, g s = some r → Ref_orderly_40_P s r) {v0 : Nat} {v2 : Int32} {v3 : Int32} {v4 : Int32} {v5 : Int32} {s0 : Int32} {h : am_H} {r : (Int32 × am_H)} (hb : Ref_orderly_150_b g v0 v2 v3 v4 v5 s0 h = some r) : Sx 89 mX12_orderly 150 [.ref v0, .retAddr 0, .int v2, .int v3, .int v4, .int v5, .retAddr 0, .retAddr 0, .retAddr 0, .retAddr 0] [.int s0] h (some (.int r.1)) r.2 := by
  unfold Ref_orderly_150_b at hb
  refine Sx.o (fun _ _ _ k => op_iconst (0 : Int32) dX12_orderly_150 (by decide) k) ?_
  exact (hg _ _ hb).2.2.2.2.2.2.2.2.2.1 rfl
set_option maxHeartbeats 1000000 in
set_option maxRecDepth 100000 in
theorem Ref_orderly_151_t {g : (Nat × Int32 × Int32 × Int32 × Int32 × Int32 × Int32 × Int32 × Int32 × Nat × am_H) → Option (Int32 × am_H)} (hg : ∀ s r, g s = some r → Ref_orderly_40_P s r) {v0 : Nat} {v2 : Int32} {v3 : Int32} {v4 : Int32} {v5 : Int32} {s0 : Int32} {s1 : Int32} {h : am_H} {r : (Int32 × am_H)} (hb : Ref_orderly_151_b g v0 v2 v3 v4 v5 s0 s1 h = some r) : Sx 89 mX12_orderly 151 [.ref v0, .retAddr 0, .int v2, .int v3, .int v4, .int v5, .retAddr 0, .retAddr 0, .retAddr 0, .retAddr 0] [.int s0, .int s1] h (some (.int r.1)) r.2 := by
  unfold Ref_orderly_151_b at hb
  refine Sx.o (fun _ _ _ k => ex_iadd dX12_orderly_151 k) ?_
  refine Sx.o (L' := [.ref v0, .retAddr 0, .int v2, .int v3, .int v4, .int v5, .int (s1 + s0), .retAddr 0, .retAddr 0, .retAddr 0]) (fun _ _ _ k => ex_istore dX12_orderly_152 (by decide) k) ?_
  refine Sx.o (fun _ _ _ k => ex_aload_n dX12_orderly_154 rfl rfl k) ?_
  obtain ⟨r38, e_r38, hb39⟩ := ob2 hb
  refine sx_callV (dc := 0) (as := []) (stq := [.int r38.1]) (by omega) dX12_orderly_155 MX12_nextRow kX12_390 iX12_nextRow sX12_nextRow rfl rfl (Ref_nextRow_o e_r38) rfl rfl (Nat.le_of_ble_eq_true rfl) (Nat.le_of_ble_eq_true rfl) (Ref_nextRow_s e_r38) rfl ?_
  refine Sx.o (L' := [.ref v0, .retAddr 0, .int v2, .int v3, .int v4, .int v5, .int (s1 + s0), .int r38.1, .retAddr 0, .retAddr 0]) (fun _ _ _ k => ex_istore dX12_orderly_158 (by decide) k) ?_
  refine Sx.o (fun _ _ _ k => ex_goto 40 dX12_orderly_160 (by decide) k) ?_
  exact (hg _ _ hb39).1 rfl
theorem Ref_orderly_40_T : ∀ s r, fx Ref_orderly_40_F Ref_orderly_40_M s = some r → Ref_orderly_40_P s r := fx_ind Ref_orderly_40_M Ref_orderly_40_P (fun g hg s r hb => by
  unfold Ref_orderly_40_F at hb
  exact ⟨fun q => Ref_orderly_40_t hg (ip q hb), fun q => Ref_orderly_63_t hg (ip q (iq (by rw [q]; decide) hb)), fun q => Ref_orderly_81_t hg (ip q (iq (by rw [q]; decide) (iq (by rw [q]; decide) hb))), fun q => Ref_orderly_82_t hg (ip q (iq (by rw [q]; decide) (iq (by rw [q]; decide) (iq (by rw [q]; decide) hb)))), fun q => Ref_orderly_95_t hg (ip q (iq (by rw [q]; decide) (iq (by rw [q]; decide) (iq (by rw [q]; decide) (iq (by rw [q]; decide) hb))))), fun q => Ref_orderly_109_t hg (ip q (iq (by rw [q]; decide) (iq (by rw [q]; decide) (iq (by rw [q]; decide) (iq (by rw [q]; decide) (iq (by rw [q]; decide) hb)))))), fun q => Ref_orderly_124_t hg (ip q (iq (by rw [q]; decide) (iq (by rw [q]; decide) (iq (by rw [q]; decide) (iq (by rw [q]; decide) (iq (by rw [q]; decide) (iq (by rw [q]; decide) hb))))))), fun q => Ref_orderly_129_t hg (ip q (iq (by rw [q]; decide) (iq (by rw [q]; decide) (iq (by rw [q]; decide) (iq (by rw [q]; decide) (iq (by rw [q]; decide) (iq (by rw [q]; decide) (iq (by rw [q]; decide) hb)))))))), fun q => Ref_orderly_150_t hg (ip q (iq (by rw [q]; decide) (iq (by rw [q]; decide) (iq (by rw [q]; decide) (iq (by rw [q]; decide) (iq (by rw [q]; decide) (iq (by rw [q]; decide) (iq (by rw [q]; decide) (iq (by rw [q]; decide) hb))))))))), fun q => Ref_orderly_151_t hg (ip q (iq (by rw [q]; decide) (iq (by rw [q]; decide) (iq (by rw [q]; decide) (iq (by rw [q]; decide) (iq (by rw [q]; decide) (iq (by rw [q]; decide) (iq (by rw [q]; decide) (iq (by rw [q]; decide) (iq (by rw [q]; decide) hb)))))))))), trivial⟩)
set_option maxHeartbeats 1000000 in
set_option maxRecDepth 100000 in
theorem Ref_orderly_40_r {g : (Nat × Int32 × Int32 × Int32 × Int32 × Int32 × Int32 × Int32 × Int32 × Nat × am_H) → Option (Int32 × am_H)} (hg : ∀ s r, g s = some r → Eqs s.2.2.2.2.2.2.2.2.2.2 r.2) {v0 : Nat} {v2 : Int32} {v3 : Int32} {v4 : Int32} {v5 : Int32} {v6 : Int32} {v7 : Int32} {h : am_H} {r : (Int32 × am_H)} (hb : Ref_orderly_40_b g v0 v2 v3 v4 v5 v6 v7 h = some r) : Eqs h r.2 := by
  unfold Ref_orderly_40_b at hb
  have w0 := Eqs.rf h
  by_cases q : v7 = (0 : Int32)
  · have hb1 := ip q hb
    by_cases q : v2 = (0 : Int32)
    · have hb4 := ip q hb1
      obtain rfl := Option.some.inj hb4
      exact w0
    · have hb3 := iq q hb1
      by_cases q : v2 = (1 : Int32)
      · have hb6 := ip q hb3
        obtain rfl := Option.some.inj hb6
        exact w0
      · have hb5 := iq q hb3
        by_cases q : v2 = (2 : Int32)
        · have hb8 := ip q hb5
          obtain rfl := Option.some.inj hb8
          exact w0
        · have hb7 := iq q hb5
          obtain rfl := Option.some.inj hb7
          exact w0
  · have hb2 := iq q hb
    obtain ⟨h9, e_h9, hb10⟩ := ob2 hb2
    have w11 := w0.tr (Ref_takesRow_q e_h9)
    obtain ⟨r12, e_r12, hb13⟩ := ob2 hb10
    have w14 := w11.tr (Ref_endsBehind_q e_r12)
    by_cases q : r12.1 = (-1 : Int32)
    · have hb15 := ip q hb13
      exact w14.tr (hg _ _ hb15)
    · have hb16 := iq q hb13
      exact w14.tr (hg _ _ hb16)
set_option maxHeartbeats 1000000 in
set_option maxRecDepth 100000 in
theorem Ref_orderly_63_r {g : (Nat × Int32 × Int32 × Int32 × Int32 × Int32 × Int32 × Int32 × Int32 × Nat × am_H) → Option (Int32 × am_H)} (hg : ∀ s r, g s = some r → Eqs s.2.2.2.2.2.2.2.2.2.2 r.2) {v0 : Nat} {v2 : Int32} {v3 : Int32} {v4 : Int32} {v5 : Int32} {v6 : Int32} {s0 : Int32} {h : am_H} {r : (Int32 × am_H)} (hb : Ref_orderly_63_b g v0 v2 v3 v4 v5 v6 s0 h = some r) : Eqs h r.2 := by
  unfold Ref_orderly_63_b at hb
  have w0 := Eqs.rf h
  by_cases q : s0 = (0 : Int32)
  · have hb18 := ip q hb
    obtain ⟨r19, e_r19, hb20⟩ := ob2 hb18
    have w21 := w0.tr (Ref_isStuck_q e_r19)
    by_cases q : r19.1 = (0 : Int32)
    · have hb22 := ip q hb20
      exact w21.tr (hg _ _ hb22)
    · have hb23 := iq q hb20
      exact w21.tr (hg _ _ hb23)
  · have hb17 := iq q hb
    exact w0.tr (hg _ _ hb17)
set_option maxHeartbeats 1000000 in
set_option maxRecDepth 100000 in
theorem Ref_orderly_81_r {g : (Nat × Int32 × Int32 × Int32 × Int32 × Int32 × Int32 × Int32 × Int32 × Nat × am_H) → Option (Int32 × am_H)} (hg : ∀ s r, g s = some r → Eqs s.2.2.2.2.2.2.2.2.2.2 r.2) {v0 : Nat} {v2 : Int32} {v3 : Int32} {v4 : Int32} {v5 : Int32} {v6 : Int32} {v8 : Int32} {h : am_H} {r : (Int32 × am_H)} (hb : Ref_orderly_81_b g v0 v2 v3 v4 v5 v6 v8 h = some r) : Eqs h r.2 := by
  unfold Ref_orderly_81_b at hb
  have w0 := Eqs.rf h
  exact w0.tr (hg _ _ hb)
set_option maxHeartbeats 1000000 in
set_option maxRecDepth 100000 in
theorem Ref_orderly_82_r {g : (Nat × Int32 × Int32 × Int32 × Int32 × Int32 × Int32 × Int32 × Int32 × Nat × am_H) → Option (Int32 × am_H)} (hg : ∀ s r, g s = some r → Eqs s.2.2.2.2.2.2.2.2.2.2 r.2) {v0 : Nat} {v2 : Int32} {v3 : Int32} {v4 : Int32} {v5 : Int32} {v6 : Int32} {v8 : Int32} {s0 : Int32} {h : am_H} {r : (Int32 × am_H)} (hb : Ref_orderly_82_b g v0 v2 v3 v4 v5 v6 v8 s0 h = some r) : Eqs h r.2 := by
  unfold Ref_orderly_82_b at hb
  have w0 := Eqs.rf h
  by_cases q : v8 = (0 : Int32)
  · have hb24 := ip q hb
    exact w0.tr (hg _ _ hb24)
  · have hb25 := iq q hb
    exact w0.tr (hg _ _ hb25)
set_option maxHeartbeats 1000000 in
set_option maxRecDepth 100000 in
theorem Ref_orderly_95_r {g : (Nat × Int32 × Int32 × Int32 × Int32 × Int32 × Int32 × Int32 × Int32 × Nat × am_H) → Option (Int32 × am_H)} (hg : ∀ s r, g s = some r → Eqs s.2.2.2.2.2.2.2.2.2.2 r.2) {v0 : Nat} {v2 : Int32} {v4 : Int32} {v5 : Int32} {v6 : Int32} {v8 : Int32} {v9 : Int32} {s0 : Int32} {s1 : Int32} {h : am_H} {r : (Int32 × am_H)} (hb : Ref_orderly_95_b g v0 v2 v4 v5 v6 v8 v9 s0 s1 h = some r) : Eqs h r.2 := by
  unfold Ref_orderly_95_b at hb
  have w0 := Eqs.rf h
  by_cases q : v9 = (0 : Int32)
  · have hb26 := ip q hb
    exact w0.tr (hg _ _ hb26)
  · have hb27 := iq q hb
    exact w0.tr (hg _ _ hb27)
set_option maxHeartbeats 1000000 in
set_option maxRecDepth 100000 in
theorem Ref_orderly_109_r {g : (Nat × Int32 × Int32 × Int32 × Int32 × Int32 × Int32 × Int32 × Int32 × Nat × am_H) → Option (Int32 × am_H)} (hg : ∀ s r, g s = some r → Eqs s.2.2.2.2.2.2.2.2.2.2 r.2) {v0 : Nat} {v2 : Int32} {v3 : Int32} {v5 : Int32} {v6 : Int32} {v8 : Int32} {v9 : Int32} {s0 : Int32} {s1 : Int32} {h : am_H} {r : (Int32 × am_H)} (hb : Ref_orderly_109_b g v0 v2 v3 v5 v6 v8 v9 s0 s1 h = some r) : Eqs h r.2 := by
  unfold Ref_orderly_109_b at hb
  have w0 := Eqs.rf h
  by_cases q : v8 = (0 : Int32)
  · have hb29 := ip q hb
    by_cases q : v9 = (0 : Int32)
    · have hb30 := ip q hb29
      exact w0.tr (hg _ _ hb30)
    · have hb31 := iq q hb29
      exact w0.tr (hg _ _ hb31)
  · have hb28 := iq q hb
    exact w0.tr (hg _ _ hb28)
set_option maxHeartbeats 1000000 in
set_option maxRecDepth 100000 in
theorem Ref_orderly_124_r {g : (Nat × Int32 × Int32 × Int32 × Int32 × Int32 × Int32 × Int32 × Int32 × Nat × am_H) → Option (Int32 × am_H)} (hg : ∀ s r, g s = some r → Eqs s.2.2.2.2.2.2.2.2.2.2 r.2) {v0 : Nat} {v2 : Int32} {v3 : Int32} {v4 : Int32} {v6 : Int32} {v8 : Int32} {s0 : Int32} {h : am_H} {r : (Int32 × am_H)} (hb : Ref_orderly_124_b g v0 v2 v3 v4 v6 v8 s0 h = some r) : Eqs h r.2 := by
  unfold Ref_orderly_124_b at hb
  have w0 := Eqs.rf h
  exact w0.tr (hg _ _ hb)
set_option maxHeartbeats 1000000 in
set_option maxRecDepth 100000 in
theorem Ref_orderly_129_r {g : (Nat × Int32 × Int32 × Int32 × Int32 × Int32 × Int32 × Int32 × Int32 × Nat × am_H) → Option (Int32 × am_H)} (hg : ∀ s r, g s = some r → Eqs s.2.2.2.2.2.2.2.2.2.2 r.2) {v0 : Nat} {v2 : Int32} {v3 : Int32} {v4 : Int32} {v6 : Int32} {v8 : Int32} {s0 : Int32} {s1 : Int32} {h : am_H} {r : (Int32 × am_H)} (hb : Ref_orderly_129_b g v0 v2 v3 v4 v6 v8 s0 s1 h = some r) : Eqs h r.2 := by
  unfold Ref_orderly_129_b at hb
  have w0 := Eqs.rf h
  by_cases q : v8 = (0 : Int32)
  · have hb32 := ip q hb
    exact w0.tr (hg _ _ hb32)
  · have hb33 := iq q hb
    obtain ⟨x34, e_x34, hb35⟩ := ob2 hb33
    by_cases q : x34 = (0 : Int32)
    · have hb36 := ip q hb35
      exact w0.tr (hg _ _ hb36)
    · have hb37 := iq q hb35
      exact w0.tr (hg _ _ hb37)
set_option maxHeartbeats 1000000 in
set_option maxRecDepth 100000 in
theorem Ref_orderly_150_r {g : (Nat × Int32 × Int32 × Int32 × Int32 × Int32 × Int32 × Int32 × Int32 × Nat × am_H) → Option (Int32 × am_H)} (hg : ∀ s r, g s = some r → Eqs s.2.2.2.2.2.2.2.2.2.2 r.2) {v0 : Nat} {v2 : Int32} {v3 : Int32} {v4 : Int32} {v5 : Int32} {s0 : Int32} {h : am_H} {r : (Int32 × am_H)} (hb : Ref_orderly_150_b g v0 v2 v3 v4 v5 s0 h = some r) : Eqs h r.2 := by
  unfold Ref_orderly_150_b at hb
  have w0 := Eqs.rf h
  exact w0.tr (hg _ _ hb)
set_option maxHeartbeats 1000000 in
set_option maxRecDepth 100000 in
theorem Ref_orderly_151_r {g : (Nat × Int32 × Int32 × Int32 × Int32 × Int32 × Int32 × Int32 × Int32 × Nat × am_H) → Option (Int32 × am_H)} (hg : ∀ s r, g s = some r → Eqs s.2.2.2.2.2.2.2.2.2.2 r.2) {v0 : Nat} {v2 : Int32} {v3 : Int32} {v4 : Int32} {v5 : Int32} {s0 : Int32} {s1 : Int32} {h : am_H} {r : (Int32 × am_H)} (hb : Ref_orderly_151_b g v0 v2 v3 v4 v5 s0 s1 h = some r) : Eqs h r.2 := by
  unfold Ref_orderly_151_b at hb
  have w0 := Eqs.rf h
  obtain ⟨r38, e_r38, hb39⟩ := ob2 hb
  have w40 := w0.tr (Ref_nextRow_q e_r38)
  exact w40.tr (hg _ _ hb39)
theorem Ref_orderly_40_Q : ∀ s r, fx Ref_orderly_40_F Ref_orderly_40_M s = some r → Eqs s.2.2.2.2.2.2.2.2.2.2 r.2 := fx_ind Ref_orderly_40_M (fun s r => Eqs s.2.2.2.2.2.2.2.2.2.2 r.2) (fun g hg s r hb => by
  unfold Ref_orderly_40_F at hb
  by_cases q0 : s.1 = 40
  · exact Ref_orderly_40_r hg (ip q0 hb)
  · have hb0 := iq q0 hb
    by_cases q1 : s.1 = 63
    · exact Ref_orderly_63_r hg (ip q1 hb0)
    · have hb1 := iq q1 hb0
      by_cases q2 : s.1 = 81
      · exact Ref_orderly_81_r hg (ip q2 hb1)
      · have hb2 := iq q2 hb1
        by_cases q3 : s.1 = 82
        · exact Ref_orderly_82_r hg (ip q3 hb2)
        · have hb3 := iq q3 hb2
          by_cases q4 : s.1 = 95
          · exact Ref_orderly_95_r hg (ip q4 hb3)
          · have hb4 := iq q4 hb3
            by_cases q5 : s.1 = 109
            · exact Ref_orderly_109_r hg (ip q5 hb4)
            · have hb5 := iq q5 hb4
              by_cases q6 : s.1 = 124
              · exact Ref_orderly_124_r hg (ip q6 hb5)
              · have hb6 := iq q6 hb5
                by_cases q7 : s.1 = 129
                · exact Ref_orderly_129_r hg (ip q7 hb6)
                · have hb7 := iq q7 hb6
                  by_cases q8 : s.1 = 150
                  · exact Ref_orderly_150_r hg (ip q8 hb7)
                  · have hb8 := iq q8 hb7
                    by_cases q9 : s.1 = 151
                    · exact Ref_orderly_151_r hg (ip q9 hb8)
                    · have hb9 := iq q9 hb8
                      exact nomatch hb9)
noncomputable def Ref_orderly_40 (v0 : Nat) (v2 : Int32) (v3 : Int32) (v4 : Int32) (v5 : Int32) (v6 : Int32) (v7 : Int32) (h : am_H) : Option (Int32 × am_H) := fx Ref_orderly_40_F Ref_orderly_40_M (40, v2, v3, v4, v5, v6, v7, 0, 0, v0, h)
noncomputable def Ref_orderly_63 (v0 : Nat) (v2 : Int32) (v3 : Int32) (v4 : Int32) (v5 : Int32) (v6 : Int32) (s0 : Int32) (h : am_H) : Option (Int32 × am_H) := fx Ref_orderly_40_F Ref_orderly_40_M (63, v2, v3, v4, v5, v6, s0, 0, 0, v0, h)
noncomputable def Ref_orderly_81 (v0 : Nat) (v2 : Int32) (v3 : Int32) (v4 : Int32) (v5 : Int32) (v6 : Int32) (v8 : Int32) (h : am_H) : Option (Int32 × am_H) := fx Ref_orderly_40_F Ref_orderly_40_M (81, v2, v3, v4, v5, v6, v8, 0, 0, v0, h)
noncomputable def Ref_orderly_82 (v0 : Nat) (v2 : Int32) (v3 : Int32) (v4 : Int32) (v5 : Int32) (v6 : Int32) (v8 : Int32) (s0 : Int32) (h : am_H) : Option (Int32 × am_H) := fx Ref_orderly_40_F Ref_orderly_40_M (82, v2, v3, v4, v5, v6, v8, s0, 0, v0, h)
noncomputable def Ref_orderly_95 (v0 : Nat) (v2 : Int32) (v4 : Int32) (v5 : Int32) (v6 : Int32) (v8 : Int32) (v9 : Int32) (s0 : Int32) (s1 : Int32) (h : am_H) : Option (Int32 × am_H) := fx Ref_orderly_40_F Ref_orderly_40_M (95, v2, v4, v5, v6, v8, v9, s0, s1, v0, h)
noncomputable def Ref_orderly_109 (v0 : Nat) (v2 : Int32) (v3 : Int32) (v5 : Int32) (v6 : Int32) (v8 : Int32) (v9 : Int32) (s0 : Int32) (s1 : Int32) (h : am_H) : Option (Int32 × am_H) := fx Ref_orderly_40_F Ref_orderly_40_M (109, v2, v3, v5, v6, v8, v9, s0, s1, v0, h)
noncomputable def Ref_orderly_124 (v0 : Nat) (v2 : Int32) (v3 : Int32) (v4 : Int32) (v6 : Int32) (v8 : Int32) (s0 : Int32) (h : am_H) : Option (Int32 × am_H) := fx Ref_orderly_40_F Ref_orderly_40_M (124, v2, v3, v4, v6, v8, s0, 0, 0, v0, h)
noncomputable def Ref_orderly_129 (v0 : Nat) (v2 : Int32) (v3 : Int32) (v4 : Int32) (v6 : Int32) (v8 : Int32) (s0 : Int32) (s1 : Int32) (h : am_H) : Option (Int32 × am_H) := fx Ref_orderly_40_F Ref_orderly_40_M (129, v2, v3, v4, v6, v8, s0, s1, 0, v0, h)
noncomputable def Ref_orderly_150 (v0 : Nat) (v2 : Int32) (v3 : Int32) (v4 : Int32) (v5 : Int32) (s0 : Int32) (h : am_H) : Option (Int32 × am_H) := fx Ref_orderly_40_F Ref_orderly_40_M (150, v2, v3, v4, v5, s0, 0, 0, 0, v0, h)
noncomputable def Ref_orderly_151 (v0 : Nat) (v2 : Int32) (v3 : Int32) (v4 : Int32) (v5 : Int32) (s0 : Int32) (s1 : Int32) (h : am_H) : Option (Int32 × am_H) := fx Ref_orderly_40_F Ref_orderly_40_M (151, v2, v3, v4, v5, s0, s1, 0, 0, v0, h)
set_option maxHeartbeats 1000000 in
set_option maxRecDepth 100000 in
theorem Ref_orderly_40_e (v0 : Nat) (v2 : Int32) (v3 : Int32) (v4 : Int32) (v5 : Int32) (v6 : Int32) (v7 : Int32) (h : am_H) : Ref_orderly_40 v0 v2 v3 v4 v5 v6 v7 h = (if v7 = (0 : Int32) then if v2 = (0 : Int32) then some (v3, h) else if v2 = (1 : Int32) then some (v4, h) else if v2 = (2 : Int32) then some (v5, h) else some (v6, h) else (Ref_takesRow v0 (-1 : Int32) h).bind fun h9 => (Ref_endsBehind v0 h9).bind fun r12 => if r12.1 = (-1 : Int32) then Ref_orderly_63 v0 v2 v3 v4 v5 v6 (0 : Int32) r12.2 else Ref_orderly_63 v0 v2 v3 v4 v5 v6 (1 : Int32) r12.2) := (fx_eq Ref_orderly_40_M (40, v2, v3, v4, v5, v6, v7, 0, 0, v0, h)).trans (if_pos rfl)
theorem Ref_orderly_40_q {v0 : Nat} {v2 : Int32} {v3 : Int32} {v4 : Int32} {v5 : Int32} {v6 : Int32} {v7 : Int32} {h : am_H} {r : (Int32 × am_H)} (hb : Ref_orderly_40 v0 v2 v3 v4 v5 v6 v7 h = some r) : Eqs h r.2 := Ref_orderly_40_Q _ _ hb
theorem Ref_orderly_40_s {v0 : Nat} {v2 : Int32} {v3 : Int32} {v4 : Int32} {v5 : Int32} {v6 : Int32} {v7 : Int32} {h : am_H} {r : (Int32 × am_H)} (hb : Ref_orderly_40 v0 v2 v3 v4 v5 v6 v7 h = some r) : Sx 89 mX12_orderly 40 [.ref v0, .retAddr 0, .int v2, .int v3, .int v4, .int v5, .int v6, .int v7, .retAddr 0, .retAddr 0] [] h (some (.int r.1)) r.2 := (Ref_orderly_40_T _ _ hb).1 rfl
set_option maxHeartbeats 1000000 in
set_option maxRecDepth 100000 in
theorem Ref_orderly_63_e (v0 : Nat) (v2 : Int32) (v3 : Int32) (v4 : Int32) (v5 : Int32) (v6 : Int32) (s0 : Int32) (h : am_H) : Ref_orderly_63 v0 v2 v3 v4 v5 v6 s0 h = (if s0 = (0 : Int32) then (Ref_isStuck v0 h).bind fun r19 => if r19.1 = (0 : Int32) then Ref_orderly_81 v0 v2 v3 v4 v5 v6 s0 r19.2 else Ref_orderly_82 v0 v2 v3 v4 v5 v6 s0 (1 : Int32) r19.2 else Ref_orderly_81 v0 v2 v3 v4 v5 v6 s0 h) := (fx_eq Ref_orderly_40_M (63, v2, v3, v4, v5, v6, s0, 0, 0, v0, h)).trans ((if_neg (show ¬ (63 : Nat) = 40 by decide)).trans (if_pos rfl))
theorem Ref_orderly_63_q {v0 : Nat} {v2 : Int32} {v3 : Int32} {v4 : Int32} {v5 : Int32} {v6 : Int32} {s0 : Int32} {h : am_H} {r : (Int32 × am_H)} (hb : Ref_orderly_63 v0 v2 v3 v4 v5 v6 s0 h = some r) : Eqs h r.2 := Ref_orderly_40_Q _ _ hb
theorem Ref_orderly_63_s {v0 : Nat} {v2 : Int32} {v3 : Int32} {v4 : Int32} {v5 : Int32} {v6 : Int32} {s0 : Int32} {h : am_H} {r : (Int32 × am_H)} (hb : Ref_orderly_63 v0 v2 v3 v4 v5 v6 s0 h = some r) : Sx 89 mX12_orderly 63 [.ref v0, .retAddr 0, .int v2, .int v3, .int v4, .int v5, .int v6, .retAddr 0, .retAddr 0, .retAddr 0] [.int s0] h (some (.int r.1)) r.2 := (Ref_orderly_40_T _ _ hb).2.1 rfl
set_option maxHeartbeats 1000000 in
set_option maxRecDepth 100000 in
theorem Ref_orderly_81_e (v0 : Nat) (v2 : Int32) (v3 : Int32) (v4 : Int32) (v5 : Int32) (v6 : Int32) (v8 : Int32) (h : am_H) : Ref_orderly_81 v0 v2 v3 v4 v5 v6 v8 h = (Ref_orderly_82 v0 v2 v3 v4 v5 v6 v8 (0 : Int32) h) := (fx_eq Ref_orderly_40_M (81, v2, v3, v4, v5, v6, v8, 0, 0, v0, h)).trans ((if_neg (show ¬ (81 : Nat) = 40 by decide)).trans ((if_neg (show ¬ (81 : Nat) = 63 by decide)).trans (if_pos rfl)))
theorem Ref_orderly_81_q {v0 : Nat} {v2 : Int32} {v3 : Int32} {v4 : Int32} {v5 : Int32} {v6 : Int32} {v8 : Int32} {h : am_H} {r : (Int32 × am_H)} (hb : Ref_orderly_81 v0 v2 v3 v4 v5 v6 v8 h = some r) : Eqs h r.2 := Ref_orderly_40_Q _ _ hb
theorem Ref_orderly_81_s {v0 : Nat} {v2 : Int32} {v3 : Int32} {v4 : Int32} {v5 : Int32} {v6 : Int32} {v8 : Int32} {h : am_H} {r : (Int32 × am_H)} (hb : Ref_orderly_81 v0 v2 v3 v4 v5 v6 v8 h = some r) : Sx 89 mX12_orderly 81 [.ref v0, .retAddr 0, .int v2, .int v3, .int v4, .int v5, .int v6, .retAddr 0, .int v8, .retAddr 0] [] h (some (.int r.1)) r.2 := (Ref_orderly_40_T _ _ hb).2.2.1 rfl
set_option maxHeartbeats 1000000 in
set_option maxRecDepth 100000 in
theorem Ref_orderly_82_e (v0 : Nat) (v2 : Int32) (v3 : Int32) (v4 : Int32) (v5 : Int32) (v6 : Int32) (v8 : Int32) (s0 : Int32) (h : am_H) : Ref_orderly_82 v0 v2 v3 v4 v5 v6 v8 s0 h = (if v8 = (0 : Int32) then Ref_orderly_95 v0 v2 v4 v5 v6 v8 s0 (0 : Int32) v3 h else Ref_orderly_95 v0 v2 v4 v5 v6 v8 s0 (1 : Int32) v3 h) := (fx_eq Ref_orderly_40_M (82, v2, v3, v4, v5, v6, v8, s0, 0, v0, h)).trans ((if_neg (show ¬ (82 : Nat) = 40 by decide)).trans ((if_neg (show ¬ (82 : Nat) = 63 by decide)).trans ((if_neg (show ¬ (82 : Nat) = 81 by decide)).trans (if_pos rfl))))
theorem Ref_orderly_82_q {v0 : Nat} {v2 : Int32} {v3 : Int32} {v4 : Int32} {v5 : Int32} {v6 : Int32} {v8 : Int32} {s0 : Int32} {h : am_H} {r : (Int32 × am_H)} (hb : Ref_orderly_82 v0 v2 v3 v4 v5 v6 v8 s0 h = some r) : Eqs h r.2 := Ref_orderly_40_Q _ _ hb
theorem Ref_orderly_82_s {v0 : Nat} {v2 : Int32} {v3 : Int32} {v4 : Int32} {v5 : Int32} {v6 : Int32} {v8 : Int32} {s0 : Int32} {h : am_H} {r : (Int32 × am_H)} (hb : Ref_orderly_82 v0 v2 v3 v4 v5 v6 v8 s0 h = some r) : Sx 89 mX12_orderly 82 [.ref v0, .retAddr 0, .int v2, .int v3, .int v4, .int v5, .int v6, .retAddr 0, .int v8, .retAddr 0] [.int s0] h (some (.int r.1)) r.2 := (Ref_orderly_40_T _ _ hb).2.2.2.1 rfl
set_option maxHeartbeats 1000000 in
set_option maxRecDepth 100000 in
theorem Ref_orderly_95_e (v0 : Nat) (v2 : Int32) (v4 : Int32) (v5 : Int32) (v6 : Int32) (v8 : Int32) (v9 : Int32) (s0 : Int32) (s1 : Int32) (h : am_H) : Ref_orderly_95 v0 v2 v4 v5 v6 v8 v9 s0 s1 h = (if v9 = (0 : Int32) then Ref_orderly_109 v0 v2 (s1 + s0) v5 v6 v8 v9 (0 : Int32) v4 h else Ref_orderly_109 v0 v2 (s1 + s0) v5 v6 v8 v9 (1 : Int32) v4 h) := (fx_eq Ref_orderly_40_M (95, v2, v4, v5, v6, v8, v9, s0, s1, v0, h)).trans ((if_neg (show ¬ (95 : Nat) = 40 by decide)).trans ((if_neg (show ¬ (95 : Nat) = 63 by decide)).trans ((if_neg (show ¬ (95 : Nat) = 81 by decide)).trans ((if_neg (show ¬ (95 : Nat) = 82 by decide)).trans (if_pos rfl)))))
theorem Ref_orderly_95_q {v0 : Nat} {v2 : Int32} {v4 : Int32} {v5 : Int32} {v6 : Int32} {v8 : Int32} {v9 : Int32} {s0 : Int32} {s1 : Int32} {h : am_H} {r : (Int32 × am_H)} (hb : Ref_orderly_95 v0 v2 v4 v5 v6 v8 v9 s0 s1 h = some r) : Eqs h r.2 := Ref_orderly_40_Q _ _ hb
theorem Ref_orderly_95_s {v0 : Nat} {v2 : Int32} {v4 : Int32} {v5 : Int32} {v6 : Int32} {v8 : Int32} {v9 : Int32} {s0 : Int32} {s1 : Int32} {h : am_H} {r : (Int32 × am_H)} (hb : Ref_orderly_95 v0 v2 v4 v5 v6 v8 v9 s0 s1 h = some r) : Sx 89 mX12_orderly 95 [.ref v0, .retAddr 0, .int v2, .retAddr 0, .int v4, .int v5, .int v6, .retAddr 0, .int v8, .int v9] [.int s0, .int s1] h (some (.int r.1)) r.2 := (Ref_orderly_40_T _ _ hb).2.2.2.2.1 rfl
set_option maxHeartbeats 1000000 in
set_option maxRecDepth 100000 in
theorem Ref_orderly_109_e (v0 : Nat) (v2 : Int32) (v3 : Int32) (v5 : Int32) (v6 : Int32) (v8 : Int32) (v9 : Int32) (s0 : Int32) (s1 : Int32) (h : am_H) : Ref_orderly_109 v0 v2 v3 v5 v6 v8 v9 s0 s1 h = (if v8 = (0 : Int32) then if v9 = (0 : Int32) then Ref_orderly_129 v0 v2 v3 (s1 + s0) v6 v8 (1 : Int32) v5 h else Ref_orderly_124 v0 v2 v3 (s1 + s0) v6 v8 v5 h else Ref_orderly_124 v0 v2 v3 (s1 + s0) v6 v8 v5 h) := (fx_eq Ref_orderly_40_M (109, v2, v3, v5, v6, v8, v9, s0, s1, v0, h)).trans ((if_neg (show ¬ (109 : Nat) = 40 by decide)).trans ((if_neg (show ¬ (109 : Nat) = 63 by decide)).trans ((if_neg (show ¬ (109 : Nat) = 81 by decide)).trans ((if_neg (show ¬ (109 : Nat) = 82 by decide)).trans ((if_neg (show ¬ (109 : Nat) = 95 by decide)).trans (if_pos rfl))))))
theorem Ref_orderly_109_q {v0 : Nat} {v2 : Int32} {v3 : Int32} {v5 : Int32} {v6 : Int32} {v8 : Int32} {v9 : Int32} {s0 : Int32} {s1 : Int32} {h : am_H} {r : (Int32 × am_H)} (hb : Ref_orderly_109 v0 v2 v3 v5 v6 v8 v9 s0 s1 h = some r) : Eqs h r.2 := Ref_orderly_40_Q _ _ hb
theorem Ref_orderly_109_s {v0 : Nat} {v2 : Int32} {v3 : Int32} {v5 : Int32} {v6 : Int32} {v8 : Int32} {v9 : Int32} {s0 : Int32} {s1 : Int32} {h : am_H} {r : (Int32 × am_H)} (hb : Ref_orderly_109 v0 v2 v3 v5 v6 v8 v9 s0 s1 h = some r) : Sx 89 mX12_orderly 109 [.ref v0, .retAddr 0, .int v2, .int v3, .retAddr 0, .int v5, .int v6, .retAddr 0, .int v8, .int v9] [.int s0, .int s1] h (some (.int r.1)) r.2 := (Ref_orderly_40_T _ _ hb).2.2.2.2.2.1 rfl
set_option maxHeartbeats 1000000 in
set_option maxRecDepth 100000 in
theorem Ref_orderly_124_e (v0 : Nat) (v2 : Int32) (v3 : Int32) (v4 : Int32) (v6 : Int32) (v8 : Int32) (s0 : Int32) (h : am_H) : Ref_orderly_124 v0 v2 v3 v4 v6 v8 s0 h = (Ref_orderly_129 v0 v2 v3 v4 v6 v8 (0 : Int32) s0 h) := (fx_eq Ref_orderly_40_M (124, v2, v3, v4, v6, v8, s0, 0, 0, v0, h)).trans ((if_neg (show ¬ (124 : Nat) = 40 by decide)).trans ((if_neg (show ¬ (124 : Nat) = 63 by decide)).trans ((if_neg (show ¬ (124 : Nat) = 81 by decide)).trans ((if_neg (show ¬ (124 : Nat) = 82 by decide)).trans ((if_neg (show ¬ (124 : Nat) = 95 by decide)).trans ((if_neg (show ¬ (124 : Nat) = 109 by decide)).trans (if_pos rfl)))))))
theorem Ref_orderly_124_q {v0 : Nat} {v2 : Int32} {v3 : Int32} {v4 : Int32} {v6 : Int32} {v8 : Int32} {s0 : Int32} {h : am_H} {r : (Int32 × am_H)} (hb : Ref_orderly_124 v0 v2 v3 v4 v6 v8 s0 h = some r) : Eqs h r.2 := Ref_orderly_40_Q _ _ hb
theorem Ref_orderly_124_s {v0 : Nat} {v2 : Int32} {v3 : Int32} {v4 : Int32} {v6 : Int32} {v8 : Int32} {s0 : Int32} {h : am_H} {r : (Int32 × am_H)} (hb : Ref_orderly_124 v0 v2 v3 v4 v6 v8 s0 h = some r) : Sx 89 mX12_orderly 124 [.ref v0, .retAddr 0, .int v2, .int v3, .int v4, .retAddr 0, .int v6, .retAddr 0, .int v8, .retAddr 0] [.int s0] h (some (.int r.1)) r.2 := (Ref_orderly_40_T _ _ hb).2.2.2.2.2.2.1 rfl
set_option maxHeartbeats 1000000 in
set_option maxRecDepth 100000 in
theorem Ref_orderly_129_e (v0 : Nat) (v2 : Int32) (v3 : Int32) (v4 : Int32) (v6 : Int32) (v8 : Int32) (s0 : Int32) (s1 : Int32) (h : am_H) : Ref_orderly_129 v0 v2 v3 v4 v6 v8 s0 s1 h = (if v8 = (0 : Int32) then Ref_orderly_150 v0 v2 v3 v4 (s1 + s0) v6 h else (Ref_rises v0 h).bind fun x34 => if x34 = (0 : Int32) then Ref_orderly_150 v0 v2 v3 v4 (s1 + s0) v6 h else Ref_orderly_151 v0 v2 v3 v4 (s1 + s0) (1 : Int32) v6 h) := (fx_eq Ref_orderly_40_M (129, v2, v3, v4, v6, v8, s0, s1, 0, v0, h)).trans ((if_neg (show ¬ (129 : Nat) = 40 by decide)).trans ((if_neg (show ¬ (129 : Nat) = 63 by decide)).trans ((if_neg (show ¬ (129 : Nat) = 81 by decide)).trans ((if_neg (show ¬ (129 : Nat) = 82 by decide)).trans ((if_neg (show ¬ (129 : Nat) = 95 by decide)).trans ((if_neg (show ¬ (129 : Nat) = 109 by decide)).trans ((if_neg (show ¬ (129 : Nat) = 124 by decide)).trans (if_pos rfl))))))))
theorem Ref_orderly_129_q {v0 : Nat} {v2 : Int32} {v3 : Int32} {v4 : Int32} {v6 : Int32} {v8 : Int32} {s0 : Int32} {s1 : Int32} {h : am_H} {r : (Int32 × am_H)} (hb : Ref_orderly_129 v0 v2 v3 v4 v6 v8 s0 s1 h = some r) : Eqs h r.2 := Ref_orderly_40_Q _ _ hb
theorem Ref_orderly_129_s {v0 : Nat} {v2 : Int32} {v3 : Int32} {v4 : Int32} {v6 : Int32} {v8 : Int32} {s0 : Int32} {s1 : Int32} {h : am_H} {r : (Int32 × am_H)} (hb : Ref_orderly_129 v0 v2 v3 v4 v6 v8 s0 s1 h = some r) : Sx 89 mX12_orderly 129 [.ref v0, .retAddr 0, .int v2, .int v3, .int v4, .retAddr 0, .int v6, .retAddr 0, .int v8, .retAddr 0] [.int s0, .int s1] h (some (.int r.1)) r.2 := (Ref_orderly_40_T _ _ hb).2.2.2.2.2.2.2.1 rfl
set_option maxHeartbeats 1000000 in
set_option maxRecDepth 100000 in
theorem Ref_orderly_150_e (v0 : Nat) (v2 : Int32) (v3 : Int32) (v4 : Int32) (v5 : Int32) (s0 : Int32) (h : am_H) : Ref_orderly_150 v0 v2 v3 v4 v5 s0 h = (Ref_orderly_151 v0 v2 v3 v4 v5 (0 : Int32) s0 h) := (fx_eq Ref_orderly_40_M (150, v2, v3, v4, v5, s0, 0, 0, 0, v0, h)).trans ((if_neg (show ¬ (150 : Nat) = 40 by decide)).trans ((if_neg (show ¬ (150 : Nat) = 63 by decide)).trans ((if_neg (show ¬ (150 : Nat) = 81 by decide)).trans ((if_neg (show ¬ (150 : Nat) = 82 by decide)).trans ((if_neg (show ¬ (150 : Nat) = 95 by decide)).trans ((if_neg (show ¬ (150 : Nat) = 109 by decide)).trans ((if_neg (show ¬ (150 : Nat) = 124 by decide)).trans ((if_neg (show ¬ (150 : Nat) = 129 by decide)).trans (if_pos rfl)))))))))
theorem Ref_orderly_150_q {v0 : Nat} {v2 : Int32} {v3 : Int32} {v4 : Int32} {v5 : Int32} {s0 : Int32} {h : am_H} {r : (Int32 × am_H)} (hb : Ref_orderly_150 v0 v2 v3 v4 v5 s0 h = some r) : Eqs h r.2 := Ref_orderly_40_Q _ _ hb
theorem Ref_orderly_150_s {v0 : Nat} {v2 : Int32} {v3 : Int32} {v4 : Int32} {v5 : Int32} {s0 : Int32} {h : am_H} {r : (Int32 × am_H)} (hb : Ref_orderly_150 v0 v2 v3 v4 v5 s0 h = some r) : Sx 89 mX12_orderly 150 [.ref v0, .retAddr 0, .int v2, .int v3, .int v4, .int v5, .retAddr 0, .retAddr 0, .retAddr 0, .retAddr 0] [.int s0] h (some (.int r.1)) r.2 := (Ref_orderly_40_T _ _ hb).2.2.2.2.2.2.2.2.1 rfl
set_option maxHeartbeats 1000000 in
set_option maxRecDepth 100000 in
theorem Ref_orderly_151_e (v0 : Nat) (v2 : Int32) (v3 : Int32) (v4 : Int32) (v5 : Int32) (s0 : Int32) (s1 : Int32) (h : am_H) : Ref_orderly_151 v0 v2 v3 v4 v5 s0 s1 h = ((Ref_nextRow v0 h).bind fun r38 => Ref_orderly_40 v0 v2 v3 v4 v5 (s1 + s0) r38.1 r38.2) := (fx_eq Ref_orderly_40_M (151, v2, v3, v4, v5, s0, s1, 0, 0, v0, h)).trans ((if_neg (show ¬ (151 : Nat) = 40 by decide)).trans ((if_neg (show ¬ (151 : Nat) = 63 by decide)).trans ((if_neg (show ¬ (151 : Nat) = 81 by decide)).trans ((if_neg (show ¬ (151 : Nat) = 82 by decide)).trans ((if_neg (show ¬ (151 : Nat) = 95 by decide)).trans ((if_neg (show ¬ (151 : Nat) = 109 by decide)).trans ((if_neg (show ¬ (151 : Nat) = 124 by decide)).trans ((if_neg (show ¬ (151 : Nat) = 129 by decide)).trans ((if_neg (show ¬ (151 : Nat) = 150 by decide)).trans (if_pos rfl))))))))))
theorem Ref_orderly_151_q {v0 : Nat} {v2 : Int32} {v3 : Int32} {v4 : Int32} {v5 : Int32} {s0 : Int32} {s1 : Int32} {h : am_H} {r : (Int32 × am_H)} (hb : Ref_orderly_151 v0 v2 v3 v4 v5 s0 s1 h = some r) : Eqs h r.2 := Ref_orderly_40_Q _ _ hb
theorem Ref_orderly_151_s {v0 : Nat} {v2 : Int32} {v3 : Int32} {v4 : Int32} {v5 : Int32} {s0 : Int32} {s1 : Int32} {h : am_H} {r : (Int32 × am_H)} (hb : Ref_orderly_151 v0 v2 v3 v4 v5 s0 s1 h = some r) : Sx 89 mX12_orderly 151 [.ref v0, .retAddr 0, .int v2, .int v3, .int v4, .int v5, .retAddr 0, .retAddr 0, .retAddr 0, .retAddr 0] [.int s0, .int s1] h (some (.int r.1)) r.2 := (Ref_orderly_40_T _ _ hb).2.2.2.2.2.2.2.2.2.1 rfl
set_option maxHeartbeats 1000000 in
set_option maxRecDepth 100000 in
noncomputable def Ref_orderly (v0 : Nat) (v1 : Int32) (v2 : Int32) (h : am_H) : Option (Int32 × am_H) := if isO h 12 v0 = true then (Ref_lies v1 (1 : Int32) (7 : Int32) h).bind fun x41 => if x41 = (0 : Int32) then some ((-1 : Int32), h) else (Ref_lies v2 (0 : Int32) (3 : Int32) h).bind fun x45 => if x45 = (0 : Int32) then some ((-1 : Int32), h) else (Ref_firstOrder v0 v1 h).bind fun h49 => Ref_orderly_40 v0 v2 (0 : Int32) (0 : Int32) (0 : Int32) (0 : Int32) (1 : Int32) h49 else none
set_option maxHeartbeats 1000000 in
set_option maxRecDepth 100000 in
theorem Ref_orderly_s {v0 : Nat} {v1 : Int32} {v2 : Int32} {h : am_H} {r : (Int32 × am_H)} (hb : Ref_orderly v0 v1 v2 h = some r) : Sx 89 mX12_orderly 0 (am_en [.ref v0, .int v1, .int v2] 10) [] h (some (.int r.1)) r.2 := by
  unfold Ref_orderly at hb
  have hb := (iz hb).2
  show Sx 89 mX12_orderly 0 [.ref v0, .int v1, .int v2, .retAddr 0, .retAddr 0, .retAddr 0, .retAddr 0, .retAddr 0, .retAddr 0, .retAddr 0] [] h (some (.int r.1)) r.2
  refine Sx.o (fun _ _ _ k => ex_iload_n dX12_orderly_0 rfl k) ?_
  refine Sx.o (fun _ _ _ k => op_iconst (1 : Int32) dX12_orderly_1 (by decide) k) ?_
  refine Sx.o (fun _ _ _ k => op_bipush (7 : Int32) dX12_orderly_2 (by decide) k) ?_
  obtain ⟨x41, e_x41, hb42⟩ := ob2 hb
  refine sx_callS (dc := 0) (as := [.int v1, .int (1 : Int32), .int (7 : Int32)]) (stq := [.int x41]) (by omega) dX12_orderly_4 MX12_lies kX12_102 tX12_lies rfl rfl (Nat.le_of_ble_eq_true rfl) (Nat.le_of_ble_eq_true rfl) (Ref_lies_s e_x41) rfl ?_
  refine Sx.b (fun _ _ _ k1 k2 => ex_if_eq 19 dX12_orderly_7 (by decide) k1 k2) (fun q => ?_) (fun q => ?_)
  · have hb43 := ip q hb42
    refine Sx.o (fun _ _ _ k => op_iconst (-1 : Int32) dX12_orderly_19 (by decide) k) ?_
    obtain rfl := Option.some.inj hb43
    exact Sx.r (fun _ _ _ k => ex_iret rfl dX12_orderly_20 k)
  · have hb44 := iq q hb42
    refine Sx.o (fun _ _ _ k => ex_iload_n dX12_orderly_10 rfl k) ?_
    refine Sx.o (fun _ _ _ k => op_iconst (0 : Int32) dX12_orderly_11 (by decide) k) ?_
    refine Sx.o (fun _ _ _ k => op_iconst (3 : Int32) dX12_orderly_12 (by decide) k) ?_
    obtain ⟨x45, e_x45, hb46⟩ := ob2 hb44
    refine sx_callS (dc := 0) (as := [.int v2, .int (0 : Int32), .int (3 : Int32)]) (stq := [.int x45]) (by omega) dX12_orderly_13 MX12_lies kX12_102 tX12_lies rfl rfl (Nat.le_of_ble_eq_true rfl) (Nat.le_of_ble_eq_true rfl) (Ref_lies_s e_x45) rfl ?_
    refine Sx.bn (fun _ _ _ k1 k2 => ex_if_ne 21 dX12_orderly_16 (by decide) k1 k2) (fun q => ?_) (fun q => ?_)
    · have hb47 := iq q hb46
      refine Sx.o (fun _ _ _ k => op_iconst (0 : Int32) dX12_orderly_21 (by decide) k) ?_
      refine Sx.o (L' := [.ref v0, .int v1, .int v2, .int (0 : Int32), .retAddr 0, .retAddr 0, .retAddr 0, .retAddr 0, .retAddr 0, .retAddr 0]) (fun _ _ _ k => ex_istore_n dX12_orderly_22 (by decide) k) ?_
      refine Sx.o (fun _ _ _ k => op_iconst (0 : Int32) dX12_orderly_23 (by decide) k) ?_
      refine Sx.o (L' := [.ref v0, .int v1, .int v2, .int (0 : Int32), .int (0 : Int32), .retAddr 0, .retAddr 0, .retAddr 0, .retAddr 0, .retAddr 0]) (fun _ _ _ k => ex_istore dX12_orderly_24 (by decide) k) ?_
      refine Sx.o (fun _ _ _ k => op_iconst (0 : Int32) dX12_orderly_26 (by decide) k) ?_
      refine Sx.o (L' := [.ref v0, .int v1, .int v2, .int (0 : Int32), .int (0 : Int32), .int (0 : Int32), .retAddr 0, .retAddr 0, .retAddr 0, .retAddr 0]) (fun _ _ _ k => ex_istore dX12_orderly_27 (by decide) k) ?_
      refine Sx.o (fun _ _ _ k => op_iconst (0 : Int32) dX12_orderly_29 (by decide) k) ?_
      refine Sx.o (L' := [.ref v0, .int v1, .int v2, .int (0 : Int32), .int (0 : Int32), .int (0 : Int32), .int (0 : Int32), .retAddr 0, .retAddr 0, .retAddr 0]) (fun _ _ _ k => ex_istore dX12_orderly_30 (by decide) k) ?_
      refine Sx.o (fun _ _ _ k => ex_aload_n dX12_orderly_32 rfl rfl k) ?_
      refine Sx.o (fun _ _ _ k => ex_iload_n dX12_orderly_33 rfl k) ?_
      obtain ⟨h49, e_h49, hb50⟩ := ob2 hb47
      refine sx_callV (dc := 0) (as := [.int v1]) (stq := []) (by omega) dX12_orderly_34 MX12_firstOrder kX12_381 iX12_firstOrder sX12_firstOrder rfl rfl (Ref_firstOrder_o e_h49) rfl rfl (Nat.le_of_ble_eq_true rfl) (Nat.le_of_ble_eq_true rfl) (Ref_firstOrder_s e_h49) rfl ?_
      refine Sx.o (fun _ _ _ k => op_iconst (1 : Int32) dX12_orderly_37 (by decide) k) ?_
      refine Sx.o (L' := [.ref v0, .int v1, .int v2, .int (0 : Int32), .int (0 : Int32), .int (0 : Int32), .int (0 : Int32), .int (1 : Int32), .retAddr 0, .retAddr 0]) (fun _ _ _ k => ex_istore dX12_orderly_38 (by decide) k) ?_
      refine Sx.fg [true, false, true, true, true, true, true, true, true, true] ?_
      exact Ref_orderly_40_s hb50
    · have hb48 := ip q hb46
      refine Sx.o (fun _ _ _ k => op_iconst (-1 : Int32) dX12_orderly_19 (by decide) k) ?_
      obtain rfl := Option.some.inj hb48
      exact Sx.r (fun _ _ _ k => ex_iret rfl dX12_orderly_20 k)
set_option maxHeartbeats 1000000 in
set_option maxRecDepth 100000 in
theorem Ref_orderly_q {v0 : Nat} {v1 : Int32} {v2 : Int32} {h : am_H} {r : (Int32 × am_H)} (hb : Ref_orderly v0 v1 v2 h = some r) : Eqs h r.2 := by
  unfold Ref_orderly at hb
  have hb := (iz hb).2
  have w0 := Eqs.rf h
  obtain ⟨x41, e_x41, hb42⟩ := ob2 hb
  by_cases q : x41 = (0 : Int32)
  · have hb43 := ip q hb42
    obtain rfl := Option.some.inj hb43
    exact w0
  · have hb44 := iq q hb42
    obtain ⟨x45, e_x45, hb46⟩ := ob2 hb44
    by_cases q : x45 = (0 : Int32)
    · have hb48 := ip q hb46
      obtain rfl := Option.some.inj hb48
      exact w0
    · have hb47 := iq q hb46
      obtain ⟨h49, e_h49, hb50⟩ := ob2 hb47
      have w51 := w0.tr (Ref_firstOrder_q e_h49)
      exact w51.tr (Ref_orderly_40_q hb50)
theorem Ref_orderly_o {v0 : Nat} {v1 : Int32} {v2 : Int32} {h : am_H} {r : (Int32 × am_H)} (hb : Ref_orderly v0 v1 v2 h = some r) : isO h 12 v0 = true := by
  unfold Ref_orderly at hb
  exact (iz hb).1
set_option maxHeartbeats 1000000 in
set_option maxRecDepth 100000 in
noncomputable def Ref_runs_19_b (g : (Nat × Int32 × Int32 × Int32 × Int32 × Nat × am_H) → Option (Int32 × am_H)) (v0 : Nat) (v1 : Int32) (v2 : Int32) (v3 : Int32) (v4 : Int32) (h : am_H) : Option (Int32 × am_H) := if v2 ≤ v4 then (pV h 12 v0 47 (.int v3)).bind fun h3 => some ((1 : Int32), h3) else (Ref_goesAlong v0 v1 (1 : Int32) h).bind fun h6 => (gI h6 12 v0 51).bind fun x9 => if x9 = (0 : Int32) then g (67, v1, v2, v3, v4, v0, h6) else (gI h6 12 v0 50).bind fun x13 => if x13 = (0 : Int32) then some ((0 : Int32), h6) else (Ref_obeys v0 h6).bind fun r17 => if (0 : Int32) ≤ r17.1 then (gR r17.2 12 v0 28).bind fun x22 => (aI r17.2 0 x22 (1 : Int32)).bind fun x24 => (sI r17.2 x22 (1 : Int32) (x24 + (1 : Int32))).bind fun h26 => g (67, v1, v2, v3, v4, v0, h26) else some ((0 : Int32), r17.2)
set_option maxHeartbeats 1000000 in
set_option maxRecDepth 100000 in
theorem Ref_runs_19_m {g g2 : (Nat × Int32 × Int32 × Int32 × Int32 × Nat × am_H) → Option (Int32 × am_H)} (hg : ∀ s, Le (g s) (g2 s)) (v0 : Nat) (v1 : Int32) (v2 : Int32) (v3 : Int32) (v4 : Int32) (h : am_H) : Le (Ref_runs_19_b g v0 v1 v2 v3 v4 h) (Ref_runs_19_b g2 v0 v1 v2 v3 v4 h) := by unfold Ref_runs_19_b; exact le_i (le_r _) (le_b (le_r _) fun h6 => le_b (le_r _) fun x9 => le_i (hg _) (le_b (le_r _) fun x13 => le_i (le_r _) (le_b (le_r _) fun r17 => le_i (le_b (le_r _) fun x22 => le_b (le_r _) fun x24 => le_b (le_r _) fun h26 => hg _) (le_r _))))
set_option maxHeartbeats 1000000 in
set_option maxRecDepth 100000 in
noncomputable def Ref_runs_67_b (g : (Nat × Int32 × Int32 × Int32 × Int32 × Nat × am_H) → Option (Int32 × am_H)) (v0 : Nat) (v1 : Int32) (v2 : Int32) (v3 : Int32) (v4 : Int32) (h : am_H) : Option (Int32 × am_H) := g (19, v1, v2, v3, (v4 + (1 : Int32)), v0, h)
set_option maxHeartbeats 1000000 in
set_option maxRecDepth 100000 in
theorem Ref_runs_67_m {g g2 : (Nat × Int32 × Int32 × Int32 × Int32 × Nat × am_H) → Option (Int32 × am_H)} (hg : ∀ s, Le (g s) (g2 s)) (v0 : Nat) (v1 : Int32) (v2 : Int32) (v3 : Int32) (v4 : Int32) (h : am_H) : Le (Ref_runs_67_b g v0 v1 v2 v3 v4 h) (Ref_runs_67_b g2 v0 v1 v2 v3 v4 h) := by unfold Ref_runs_67_b; exact hg _
noncomputable def Ref_runs_19_F (g : (Nat × Int32 × Int32 × Int32 × Int32 × Nat × am_H) → Option (Int32 × am_H)) (s : (Nat × Int32 × Int32 × Int32 × Int32 × Nat × am_H)) : Option (Int32 × am_H) := if s.1 = 19 then Ref_runs_19_b g s.2.2.2.2.2.1 s.2.1 s.2.2.1 s.2.2.2.1 s.2.2.2.2.1 s.2.2.2.2.2.2 else if s.1 = 67 then Ref_runs_67_b g s.2.2.2.2.2.1 s.2.1 s.2.2.1 s.2.2.2.1 s.2.2.2.2.1 s.2.2.2.2.2.2 else none
theorem Ref_runs_19_M : Mn Ref_runs_19_F := fun g g2 hg s => by unfold Ref_runs_19_F; exact le_i (Ref_runs_19_m hg s.2.2.2.2.2.1 s.2.1 s.2.2.1 s.2.2.2.1 s.2.2.2.2.1 s.2.2.2.2.2.2) (le_i (Ref_runs_67_m hg s.2.2.2.2.2.1 s.2.1 s.2.2.1 s.2.2.2.1 s.2.2.2.2.1 s.2.2.2.2.2.2) (le_r _))
def Ref_runs_19_P (s : (Nat × Int32 × Int32 × Int32 × Int32 × Nat × am_H)) (r : (Int32 × am_H)) : Prop := (s.1 = 19 → Sx 91 mX12_runs 19 [.ref s.2.2.2.2.2.1, .int s.2.1, .int s.2.2.1, .int s.2.2.2.1, .int s.2.2.2.2.1] [] s.2.2.2.2.2.2 (some (.int r.1)) r.2) ∧ (s.1 = 67 → Sx 91 mX12_runs 67 [.ref s.2.2.2.2.2.1, .int s.2.1, .int s.2.2.1, .int s.2.2.2.1, .int s.2.2.2.2.1] [] s.2.2.2.2.2.2 (some (.int r.1)) r.2) ∧ True
set_option maxHeartbeats 1000000 in
set_option maxRecDepth 100000 in
theorem Ref_runs_19_t {g : (Nat × Int32 × Int32 × Int32 × Int32 × Nat × am_H) → Option (Int32 × am_H)} (hg : ∀ s r, g s = some r → Ref_runs_19_P s r) {v0 : Nat} {v1 : Int32} {v2 : Int32} {v3 : Int32} {v4 : Int32} {h : am_H} {r : (Int32 × am_H)} (hb : Ref_runs_19_b g v0 v1 v2 v3 v4 h = some r) : Sx 91 mX12_runs 19 [.ref v0, .int v1, .int v2, .int v3, .int v4] [] h (some (.int r.1)) r.2 := by
  unfold Ref_runs_19_b at hb
  refine Sx.o (fun _ _ _ k => ex_iload dX12_runs_19 rfl k) ?_
  refine Sx.o (fun _ _ _ k => ex_iload_n dX12_runs_21 rfl k) ?_
  refine Sx.b (fun _ _ _ k1 k2 => ex_icmp_ge 73 dX12_runs_22 (by decide) k1 k2) (fun q => ?_) (fun q => ?_)
  · have hb1 := ip q hb
    refine Sx.o (fun _ _ _ k => ex_aload_n dX12_runs_73 rfl rfl k) ?_
    refine Sx.o (fun _ _ _ k => ex_iload_n dX12_runs_74 rfl k) ?_
    obtain ⟨h3, e_h3, hb4⟩ := ob2 hb1
    refine Sx.p (pV_q e_h3) (fun _ _ _ k => op_put pX12_431 dX12_runs_75 e_h3 (fun _ => rfl) (fun _ => rfl) k) ?_
    refine Sx.o (fun _ _ _ k => op_iconst (1 : Int32) dX12_runs_78 (by decide) k) ?_
    obtain rfl := Option.some.inj hb4
    exact Sx.r (fun _ _ _ k => ex_zret rfl rfl dX12_runs_79 k)
  · have hb2 := iq q hb
    refine Sx.o (fun _ _ _ k => ex_aload_n dX12_runs_25 rfl rfl k) ?_
    refine Sx.o (fun _ _ _ k => ex_iload_n dX12_runs_26 rfl k) ?_
    refine Sx.o (fun _ _ _ k => op_iconst (1 : Int32) dX12_runs_27 (by decide) k) ?_
    obtain ⟨h6, e_h6, hb7⟩ := ob2 hb2
    refine sx_callV (dc := 85) (as := [.int v1, .int (1 : Int32)]) (stq := []) (by omega) dX12_runs_28 MX12_goesAlong kX12_454 iX12_goesAlong sX12_goesAlong rfl rfl (Ref_goesAlong_o e_h6) rfl rfl (Nat.le_of_ble_eq_true rfl) (Nat.le_of_ble_eq_true rfl) (Ref_goesAlong_s e_h6) rfl ?_
    refine Sx.o (fun _ _ _ k => ex_aload_n dX12_runs_31 rfl rfl k) ?_
    obtain ⟨x9, e_x9, hb10⟩ := ob2 hb7
    refine Sx.o (fun _ _ _ k => op_getI fX12_446 dX12_runs_32 e_x9 k) ?_
    refine Sx.bn (fun _ _ _ k1 k2 => ex_if_ne 41 dX12_runs_35 (by decide) k1 k2) (fun q => ?_) (fun q => ?_)
    · have hb11 := iq q hb10
      refine Sx.o (fun _ _ _ k => ex_aload_n dX12_runs_41 rfl rfl k) ?_
      obtain ⟨x13, e_x13, hb14⟩ := ob2 hb11
      refine Sx.o (fun _ _ _ k => op_getI fX12_440 dX12_runs_42 e_x13 k) ?_
      refine Sx.b (fun _ _ _ k1 k2 => ex_if_eq 55 dX12_runs_45 (by decide) k1 k2) (fun q => ?_) (fun q => ?_)
      · have hb15 := ip q hb14
        refine Sx.o (fun _ _ _ k => op_iconst (0 : Int32) dX12_runs_55 (by decide) k) ?_
        obtain rfl := Option.some.inj hb15
        exact Sx.r (fun _ _ _ k => ex_zret rfl rfl dX12_runs_56 k)
      · have hb16 := iq q hb14
        refine Sx.o (fun _ _ _ k => ex_aload_n dX12_runs_48 rfl rfl k) ?_
        obtain ⟨r17, e_r17, hb18⟩ := ob2 hb16
        refine sx_callV (dc := 90) (as := []) (stq := [.int r17.1]) (by omega) dX12_runs_49 MX12_obeys kX12_458 iX12_obeys sX12_obeys rfl rfl (Ref_obeys_o e_r17) rfl rfl (Nat.le_of_ble_eq_true rfl) (Nat.le_of_ble_eq_true rfl) (Ref_obeys_s e_r17) rfl ?_
        refine Sx.b (fun _ _ _ k1 k2 => ex_if_ge 57 dX12_runs_52 (by decide) k1 k2) (fun q => ?_) (fun q => ?_)
        · have hb20 := ip q hb18
          refine Sx.o (fun _ _ _ k => ex_aload_n dX12_runs_57 rfl rfl k) ?_
          obtain ⟨x22, e_x22, hb23⟩ := ob2 hb20
          refine Sx.o (fun _ _ _ k => op_getR fX12_62 dX12_runs_58 e_x22 k) ?_
          refine Sx.o (fun _ _ _ k => op_iconst (1 : Int32) dX12_runs_61 (by decide) k) ?_
          refine Sx.o (fun _ _ _ k => ex_dup2 dX12_runs_62 rfl rfl k) ?_
          obtain ⟨x24, e_x24, hb25⟩ := ob2 hb23
          refine Sx.o (fun _ _ _ k => op_iald dX12_runs_63 e_x24 k) ?_
          refine Sx.o (fun _ _ _ k => op_iconst (1 : Int32) dX12_runs_64 (by decide) k) ?_
          refine Sx.o (fun _ _ _ k => ex_iadd dX12_runs_65 k) ?_
          obtain ⟨h26, e_h26, hb27⟩ := ob2 hb25
          refine Sx.p (sI_q e_h26) (fun _ _ _ k => op_iast dX12_runs_66 e_h26 k) ?_
          exact (hg _ _ hb27).2.1 rfl
        · have hb21 := iq q hb18
          refine Sx.o (fun _ _ _ k => op_iconst (0 : Int32) dX12_runs_55 (by decide) k) ?_
          obtain rfl := Option.some.inj hb21
          exact Sx.r (fun _ _ _ k => ex_zret rfl rfl dX12_runs_56 k)
    · have hb12 := ip q hb10
      refine Sx.o (fun _ _ _ k => ex_goto 67 dX12_runs_38 (by decide) k) ?_
      exact (hg _ _ hb12).2.1 rfl
set_option maxHeartbeats 1000000 in
set_option maxRecDepth 100000 in
theorem Ref_runs_67_t {g : (Nat × Int32 × Int32 × Int32 × Int32 × Nat × am_H) → Option (Int32 × am_H)} (hg : ∀ s r, g s = some r → Ref_runs_19_P s r) {v0 : Nat} {v1 : Int32} {v2 : Int32} {v3 : Int32} {v4 : Int32} {h : am_H} {r : (Int32 × am_H)} (hb : Ref_runs_67_b g v0 v1 v2 v3 v4 h = some r) : Sx 91 mX12_runs 67 [.ref v0, .int v1, .int v2, .int v3, .int v4] [] h (some (.int r.1)) r.2 := by
  unfold Ref_runs_67_b at hb
  refine Sx.o (L' := [.ref v0, .int v1, .int v2, .int v3, .int (v4 + (1 : Int32))]) (fun _ _ _ k => op_iinc (1 : Int32) dX12_runs_67 (by decide) rfl (by decide) k) ?_
  refine Sx.o (fun _ _ _ k => ex_goto 19 dX12_runs_70 (by decide) k) ?_
  exact (hg _ _ hb).1 rfl
theorem Ref_runs_19_T : ∀ s r, fx Ref_runs_19_F Ref_runs_19_M s = some r → Ref_runs_19_P s r := fx_ind Ref_runs_19_M Ref_runs_19_P (fun g hg s r hb => by
  unfold Ref_runs_19_F at hb
  exact ⟨fun q => Ref_runs_19_t hg (ip q hb), fun q => Ref_runs_67_t hg (ip q (iq (by rw [q]; decide) hb)), trivial⟩)
set_option maxHeartbeats 1000000 in
set_option maxRecDepth 100000 in
theorem Ref_runs_19_r {g : (Nat × Int32 × Int32 × Int32 × Int32 × Nat × am_H) → Option (Int32 × am_H)} (hg : ∀ s r, g s = some r → Eqs s.2.2.2.2.2.2 r.2) {v0 : Nat} {v1 : Int32} {v2 : Int32} {v3 : Int32} {v4 : Int32} {h : am_H} {r : (Int32 × am_H)} (hb : Ref_runs_19_b g v0 v1 v2 v3 v4 h = some r) : Eqs h r.2 := by
  unfold Ref_runs_19_b at hb
  have w0 := Eqs.rf h
  by_cases q : v2 ≤ v4
  · have hb1 := ip q hb
    obtain ⟨h3, e_h3, hb4⟩ := ob2 hb1
    have w5 := w0.tr (pV_q e_h3)
    obtain rfl := Option.some.inj hb4
    exact w5
  · have hb2 := iq q hb
    obtain ⟨h6, e_h6, hb7⟩ := ob2 hb2
    have w8 := w0.tr (Ref_goesAlong_q e_h6)
    obtain ⟨x9, e_x9, hb10⟩ := ob2 hb7
    by_cases q : x9 = (0 : Int32)
    · have hb12 := ip q hb10
      exact w8.tr (hg _ _ hb12)
    · have hb11 := iq q hb10
      obtain ⟨x13, e_x13, hb14⟩ := ob2 hb11
      by_cases q : x13 = (0 : Int32)
      · have hb15 := ip q hb14
        obtain rfl := Option.some.inj hb15
        exact w8
      · have hb16 := iq q hb14
        obtain ⟨r17, e_r17, hb18⟩ := ob2 hb16
        have w19 := w8.tr (Ref_obeys_q e_r17)
        by_cases q : (0 : Int32) ≤ r17.1
        · have hb20 := ip q hb18
          obtain ⟨x22, e_x22, hb23⟩ := ob2 hb20
          obtain ⟨x24, e_x24, hb25⟩ := ob2 hb23
          obtain ⟨h26, e_h26, hb27⟩ := ob2 hb25
          have w28 := w19.tr (sI_q e_h26)
          exact w28.tr (hg _ _ hb27)
        · have hb21 := iq q hb18
          obtain rfl := Option.some.inj hb21
          exact w19
set_option maxHeartbeats 1000000 in
set_option maxRecDepth 100000 in
theorem Ref_runs_67_r {g : (Nat × Int32 × Int32 × Int32 × Int32 × Nat × am_H) → Option (Int32 × am_H)} (hg : ∀ s r, g s = some r → Eqs s.2.2.2.2.2.2 r.2) {v0 : Nat} {v1 : Int32} {v2 : Int32} {v3 : Int32} {v4 : Int32} {h : am_H} {r : (Int32 × am_H)} (hb : Ref_runs_67_b g v0 v1 v2 v3 v4 h = some r) : Eqs h r.2 := by
  unfold Ref_runs_67_b at hb
  have w0 := Eqs.rf h
  exact w0.tr (hg _ _ hb)
theorem Ref_runs_19_Q : ∀ s r, fx Ref_runs_19_F Ref_runs_19_M s = some r → Eqs s.2.2.2.2.2.2 r.2 := fx_ind Ref_runs_19_M (fun s r => Eqs s.2.2.2.2.2.2 r.2) (fun g hg s r hb => by
  unfold Ref_runs_19_F at hb
  by_cases q0 : s.1 = 19
  · exact Ref_runs_19_r hg (ip q0 hb)
  · have hb0 := iq q0 hb
    by_cases q1 : s.1 = 67
    · exact Ref_runs_67_r hg (ip q1 hb0)
    · have hb1 := iq q1 hb0
      exact nomatch hb1)
noncomputable def Ref_runs_19 (v0 : Nat) (v1 : Int32) (v2 : Int32) (v3 : Int32) (v4 : Int32) (h : am_H) : Option (Int32 × am_H) := fx Ref_runs_19_F Ref_runs_19_M (19, v1, v2, v3, v4, v0, h)
noncomputable def Ref_runs_67 (v0 : Nat) (v1 : Int32) (v2 : Int32) (v3 : Int32) (v4 : Int32) (h : am_H) : Option (Int32 × am_H) := fx Ref_runs_19_F Ref_runs_19_M (67, v1, v2, v3, v4, v0, h)
set_option maxHeartbeats 1000000 in
set_option maxRecDepth 100000 in
theorem Ref_runs_19_e (v0 : Nat) (v1 : Int32) (v2 : Int32) (v3 : Int32) (v4 : Int32) (h : am_H) : Ref_runs_19 v0 v1 v2 v3 v4 h = (if v2 ≤ v4 then (pV h 12 v0 47 (.int v3)).bind fun h3 => some ((1 : Int32), h3) else (Ref_goesAlong v0 v1 (1 : Int32) h).bind fun h6 => (gI h6 12 v0 51).bind fun x9 => if x9 = (0 : Int32) then Ref_runs_67 v0 v1 v2 v3 v4 h6 else (gI h6 12 v0 50).bind fun x13 => if x13 = (0 : Int32) then some ((0 : Int32), h6) else (Ref_obeys v0 h6).bind fun r17 => if (0 : Int32) ≤ r17.1 then (gR r17.2 12 v0 28).bind fun x22 => (aI r17.2 0 x22 (1 : Int32)).bind fun x24 => (sI r17.2 x22 (1 : Int32) (x24 + (1 : Int32))).bind fun h26 => Ref_runs_67 v0 v1 v2 v3 v4 h26 else some ((0 : Int32), r17.2)) := (fx_eq Ref_runs_19_M (19, v1, v2, v3, v4, v0, h)).trans (if_pos rfl)
theorem Ref_runs_19_q {v0 : Nat} {v1 : Int32} {v2 : Int32} {v3 : Int32} {v4 : Int32} {h : am_H} {r : (Int32 × am_H)} (hb : Ref_runs_19 v0 v1 v2 v3 v4 h = some r) : Eqs h r.2 := Ref_runs_19_Q _ _ hb
theorem Ref_runs_19_s {v0 : Nat} {v1 : Int32} {v2 : Int32} {v3 : Int32} {v4 : Int32} {h : am_H} {r : (Int32 × am_H)} (hb : Ref_runs_19 v0 v1 v2 v3 v4 h = some r) : Sx 91 mX12_runs 19 [.ref v0, .int v1, .int v2, .int v3, .int v4] [] h (some (.int r.1)) r.2 := (Ref_runs_19_T _ _ hb).1 rfl
set_option maxHeartbeats 1000000 in
set_option maxRecDepth 100000 in
theorem Ref_runs_67_e (v0 : Nat) (v1 : Int32) (v2 : Int32) (v3 : Int32) (v4 : Int32) (h : am_H) : Ref_runs_67 v0 v1 v2 v3 v4 h = (Ref_runs_19 v0 v1 v2 v3 (v4 + (1 : Int32)) h) := (fx_eq Ref_runs_19_M (67, v1, v2, v3, v4, v0, h)).trans ((if_neg (show ¬ (67 : Nat) = 19 by decide)).trans (if_pos rfl))
theorem Ref_runs_67_q {v0 : Nat} {v1 : Int32} {v2 : Int32} {v3 : Int32} {v4 : Int32} {h : am_H} {r : (Int32 × am_H)} (hb : Ref_runs_67 v0 v1 v2 v3 v4 h = some r) : Eqs h r.2 := Ref_runs_19_Q _ _ hb
theorem Ref_runs_67_s {v0 : Nat} {v1 : Int32} {v2 : Int32} {v3 : Int32} {v4 : Int32} {h : am_H} {r : (Int32 × am_H)} (hb : Ref_runs_67 v0 v1 v2 v3 v4 h = some r) : Sx 91 mX12_runs 67 [.ref v0, .int v1, .int v2, .int v3, .int v4] [] h (some (.int r.1)) r.2 := (Ref_runs_19_T _ _ hb).2.1 rfl
set_option maxHeartbeats 1000000 in
set_option maxRecDepth 100000 in
noncomputable def Ref_runs (v0 : Nat) (v1 : Int32) (h : am_H) : Option (Int32 × am_H) := if isO h 12 v0 = true then (Ref_goesAlong v0 v1 (0 : Int32) h).bind fun h29 => (gI h29 12 v0 48).bind fun x32 => (gI h29 12 v0 21).bind fun x34 => Ref_runs_19 v0 v1 x32 x34 (0 : Int32) h29 else none
set_option maxHeartbeats 1000000 in
set_option maxRecDepth 100000 in
theorem Ref_runs_s {v0 : Nat} {v1 : Int32} {h : am_H} {r : (Int32 × am_H)} (hb : Ref_runs v0 v1 h = some r) : Sx 91 mX12_runs 0 (am_en [.ref v0, .int v1] 5) [] h (some (.int r.1)) r.2 := by
  unfold Ref_runs at hb
  have hb := (iz hb).2
  show Sx 91 mX12_runs 0 [.ref v0, .int v1, .retAddr 0, .retAddr 0, .retAddr 0] [] h (some (.int r.1)) r.2
  refine Sx.o (fun _ _ _ k => ex_aload_n dX12_runs_0 rfl rfl k) ?_
  refine Sx.o (fun _ _ _ k => ex_iload_n dX12_runs_1 rfl k) ?_
  refine Sx.o (fun _ _ _ k => op_iconst (0 : Int32) dX12_runs_2 (by decide) k) ?_
  obtain ⟨h29, e_h29, hb30⟩ := ob2 hb
  refine sx_callV (dc := 85) (as := [.int v1, .int (0 : Int32)]) (stq := []) (by omega) dX12_runs_3 MX12_goesAlong kX12_454 iX12_goesAlong sX12_goesAlong rfl rfl (Ref_goesAlong_o e_h29) rfl rfl (Nat.le_of_ble_eq_true rfl) (Nat.le_of_ble_eq_true rfl) (Ref_goesAlong_s e_h29) rfl ?_
  refine Sx.o (fun _ _ _ k => ex_aload_n dX12_runs_6 rfl rfl k) ?_
  obtain ⟨x32, e_x32, hb33⟩ := ob2 hb30
  refine Sx.o (fun _ _ _ k => op_getI fX12_443 dX12_runs_7 e_x32 k) ?_
  refine Sx.o (L' := [.ref v0, .int v1, .int x32, .retAddr 0, .retAddr 0]) (fun _ _ _ k => ex_istore_n dX12_runs_10 (by decide) k) ?_
  refine Sx.o (fun _ _ _ k => ex_aload_n dX12_runs_11 rfl rfl k) ?_
  obtain ⟨x34, e_x34, hb35⟩ := ob2 hb33
  refine Sx.o (fun _ _ _ k => op_getI fX12_256 dX12_runs_12 e_x34 k) ?_
  refine Sx.o (L' := [.ref v0, .int v1, .int x32, .int x34, .retAddr 0]) (fun _ _ _ k => ex_istore_n dX12_runs_15 (by decide) k) ?_
  refine Sx.o (fun _ _ _ k => op_iconst (0 : Int32) dX12_runs_16 (by decide) k) ?_
  refine Sx.o (L' := [.ref v0, .int v1, .int x32, .int x34, .int (0 : Int32)]) (fun _ _ _ k => ex_istore dX12_runs_17 (by decide) k) ?_
  exact Ref_runs_19_s hb35
set_option maxHeartbeats 1000000 in
set_option maxRecDepth 100000 in
theorem Ref_runs_q {v0 : Nat} {v1 : Int32} {h : am_H} {r : (Int32 × am_H)} (hb : Ref_runs v0 v1 h = some r) : Eqs h r.2 := by
  unfold Ref_runs at hb
  have hb := (iz hb).2
  have w0 := Eqs.rf h
  obtain ⟨h29, e_h29, hb30⟩ := ob2 hb
  have w31 := w0.tr (Ref_goesAlong_q e_h29)
  obtain ⟨x32, e_x32, hb33⟩ := ob2 hb30
  obtain ⟨x34, e_x34, hb35⟩ := ob2 hb33
  exact w31.tr (Ref_runs_19_q hb35)
theorem Ref_runs_o {v0 : Nat} {v1 : Int32} {h : am_H} {r : (Int32 × am_H)} (hb : Ref_runs v0 v1 h = some r) : isO h 12 v0 = true := by
  unfold Ref_runs at hb
  exact (iz hb).1
set_option maxHeartbeats 1000000 in
set_option maxRecDepth 100000 in
noncomputable def Ref_orders_185_b (g : (Nat × Int32 × Int32 × Int32 × Nat × am_H) → Option (Int32 × am_H)) (v0 : Nat) (v1 : Int32) (v3 : Int32) (v4 : Int32) (h : am_H) : Option (Int32 × am_H) := if (1568 : Int32) ≤ v4 then (pV h 12 v0 39 (.int v1)).bind fun h3 => (pV h3 12 v0 46 (.int v3)).bind fun h6 => (Ref_refuses v0 (-3 : Int32) h6).bind fun r9 => some (r9.1, r9.2) else (gR h 12 v0 37).bind fun x12 => (gR h 12 v0 38).bind fun x14 => (aI h 0 x14 v4).bind fun x16 => (sI h x12 v4 x16).bind fun h18 => g (185, v1, v3, (v4 + (1 : Int32)), v0, h18)
set_option maxHeartbeats 1000000 in
set_option maxRecDepth 100000 in
theorem Ref_orders_185_m {g g2 : (Nat × Int32 × Int32 × Int32 × Nat × am_H) → Option (Int32 × am_H)} (hg : ∀ s, Le (g s) (g2 s)) (v0 : Nat) (v1 : Int32) (v3 : Int32) (v4 : Int32) (h : am_H) : Le (Ref_orders_185_b g v0 v1 v3 v4 h) (Ref_orders_185_b g2 v0 v1 v3 v4 h) := by unfold Ref_orders_185_b; exact le_i (le_r _) (le_b (le_r _) fun x12 => le_b (le_r _) fun x14 => le_b (le_r _) fun x16 => le_b (le_r _) fun h18 => hg _)
noncomputable def Ref_orders_185_F (g : (Nat × Int32 × Int32 × Int32 × Nat × am_H) → Option (Int32 × am_H)) (s : (Nat × Int32 × Int32 × Int32 × Nat × am_H)) : Option (Int32 × am_H) := if s.1 = 185 then Ref_orders_185_b g s.2.2.2.2.1 s.2.1 s.2.2.1 s.2.2.2.1 s.2.2.2.2.2 else none
theorem Ref_orders_185_M : Mn Ref_orders_185_F := fun g g2 hg s => by unfold Ref_orders_185_F; exact le_i (Ref_orders_185_m hg s.2.2.2.2.1 s.2.1 s.2.2.1 s.2.2.2.1 s.2.2.2.2.2) (le_r _)
def Ref_orders_185_P (s : (Nat × Int32 × Int32 × Int32 × Nat × am_H)) (r : (Int32 × am_H)) : Prop := (s.1 = 185 → Sx 92 mX12_orders 185 [.ref s.2.2.2.2.1, .int s.2.1, .retAddr 0, .int s.2.2.1, .int s.2.2.2.1] [] s.2.2.2.2.2 (some (.int r.1)) r.2) ∧ True
set_option maxHeartbeats 1000000 in
set_option maxRecDepth 100000 in
theorem Ref_orders_185_t {g : (Nat × Int32 × Int32 × Int32 × Nat × am_H) → Option (Int32 × am_H)} (hg : ∀ s r, g s = some r → Ref_orders_185_P s r) {v0 : Nat} {v1 : Int32} {v3 : Int32} {v4 : Int32} {h : am_H} {r : (Int32 × am_H)} (hb : Ref_orders_185_b g v0 v1 v3 v4 h = some r) : Sx 92 mX12_orders 185 [.ref v0, .int v1, .retAddr 0, .int v3, .int v4] [] h (some (.int r.1)) r.2 := by
  unfold Ref_orders_185_b at hb
  refine Sx.o (fun _ _ _ k => ex_iload dX12_orders_185 rfl k) ?_
  refine Sx.o (fun _ _ _ k => op_sipush (1568 : Int32) dX12_orders_187 (by decide) k) ?_
  refine Sx.b (fun _ _ _ k1 k2 => ex_icmp_ge 213 dX12_orders_190 (by decide) k1 k2) (fun q => ?_) (fun q => ?_)
  · have hb1 := ip q hb
    refine Sx.o (fun _ _ _ k => ex_aload_n dX12_orders_213 rfl rfl k) ?_
    refine Sx.o (fun _ _ _ k => ex_iload_n dX12_orders_214 rfl k) ?_
    obtain ⟨h3, e_h3, hb4⟩ := ob2 hb1
    refine Sx.p (pV_q e_h3) (fun _ _ _ k => op_put pX12_11 dX12_orders_215 e_h3 (fun _ => rfl) (fun _ => rfl) k) ?_
    refine Sx.o (fun _ _ _ k => ex_aload_n dX12_orders_218 rfl rfl k) ?_
    refine Sx.o (fun _ _ _ k => ex_iload_n dX12_orders_219 rfl k) ?_
    obtain ⟨h6, e_h6, hb7⟩ := ob2 hb4
    refine Sx.p (pV_q e_h6) (fun _ _ _ k => op_put pX12_89 dX12_orders_220 e_h6 (fun _ => rfl) (fun _ => rfl) k) ?_
    refine Sx.o (fun _ _ _ k => ex_aload_n dX12_orders_223 rfl rfl k) ?_
    refine Sx.o (fun _ _ _ k => op_bipush (-3 : Int32) dX12_orders_224 (by decide) k) ?_
    obtain ⟨r9, e_r9, hb10⟩ := ob2 hb7
    refine sx_callV (dc := 0) (as := [.int (-3 : Int32)]) (stq := [.int r9.1]) (by omega) dX12_orders_226 MX12_refuses kX12_106 iX12_refuses sX12_refuses rfl rfl (Ref_refuses_o e_r9) rfl rfl (Nat.le_of_ble_eq_true rfl) (Nat.le_of_ble_eq_true rfl) (Ref_refuses_s e_r9) rfl ?_
    obtain rfl := Option.some.inj hb10
    exact Sx.r (fun _ _ _ k => ex_iret rfl dX12_orders_229 k)
  · have hb2 := iq q hb
    refine Sx.o (fun _ _ _ k => ex_aload_n dX12_orders_193 rfl rfl k) ?_
    obtain ⟨x12, e_x12, hb13⟩ := ob2 hb2
    refine Sx.o (fun _ _ _ k => op_getR fX12_74 dX12_orders_194 e_x12 k) ?_
    refine Sx.o (fun _ _ _ k => ex_iload dX12_orders_197 rfl k) ?_
    refine Sx.o (fun _ _ _ k => ex_aload_n dX12_orders_199 rfl rfl k) ?_
    obtain ⟨x14, e_x14, hb15⟩ := ob2 hb13
    refine Sx.o (fun _ _ _ k => op_getR fX12_77 dX12_orders_200 e_x14 k) ?_
    refine Sx.o (fun _ _ _ k => ex_iload dX12_orders_203 rfl k) ?_
    obtain ⟨x16, e_x16, hb17⟩ := ob2 hb15
    refine Sx.o (fun _ _ _ k => op_iald dX12_orders_205 e_x16 k) ?_
    obtain ⟨h18, e_h18, hb19⟩ := ob2 hb17
    refine Sx.p (sI_q e_h18) (fun _ _ _ k => op_iast dX12_orders_206 e_h18 k) ?_
    refine Sx.o (L' := [.ref v0, .int v1, .retAddr 0, .int v3, .int (v4 + (1 : Int32))]) (fun _ _ _ k => op_iinc (1 : Int32) dX12_orders_207 (by decide) rfl (by decide) k) ?_
    refine Sx.o (fun _ _ _ k => ex_goto 185 dX12_orders_210 (by decide) k) ?_
    exact (hg _ _ hb19).1 rfl
theorem Ref_orders_185_T : ∀ s r, fx Ref_orders_185_F Ref_orders_185_M s = some r → Ref_orders_185_P s r := fx_ind Ref_orders_185_M Ref_orders_185_P (fun g hg s r hb => by
  unfold Ref_orders_185_F at hb
  exact ⟨fun q => Ref_orders_185_t hg (ip q hb), trivial⟩)
set_option maxHeartbeats 1000000 in
set_option maxRecDepth 100000 in
theorem Ref_orders_185_r {g : (Nat × Int32 × Int32 × Int32 × Nat × am_H) → Option (Int32 × am_H)} (hg : ∀ s r, g s = some r → Eqs s.2.2.2.2.2 r.2) {v0 : Nat} {v1 : Int32} {v3 : Int32} {v4 : Int32} {h : am_H} {r : (Int32 × am_H)} (hb : Ref_orders_185_b g v0 v1 v3 v4 h = some r) : Eqs h r.2 := by
  unfold Ref_orders_185_b at hb
  have w0 := Eqs.rf h
  by_cases q : (1568 : Int32) ≤ v4
  · have hb1 := ip q hb
    obtain ⟨h3, e_h3, hb4⟩ := ob2 hb1
    have w5 := w0.tr (pV_q e_h3)
    obtain ⟨h6, e_h6, hb7⟩ := ob2 hb4
    have w8 := w5.tr (pV_q e_h6)
    obtain ⟨r9, e_r9, hb10⟩ := ob2 hb7
    have w11 := w8.tr (Ref_refuses_q e_r9)
    obtain rfl := Option.some.inj hb10
    exact w11
  · have hb2 := iq q hb
    obtain ⟨x12, e_x12, hb13⟩ := ob2 hb2
    obtain ⟨x14, e_x14, hb15⟩ := ob2 hb13
    obtain ⟨x16, e_x16, hb17⟩ := ob2 hb15
    obtain ⟨h18, e_h18, hb19⟩ := ob2 hb17
    have w20 := w0.tr (sI_q e_h18)
    exact w20.tr (hg _ _ hb19)
theorem Ref_orders_185_Q : ∀ s r, fx Ref_orders_185_F Ref_orders_185_M s = some r → Eqs s.2.2.2.2.2 r.2 := fx_ind Ref_orders_185_M (fun s r => Eqs s.2.2.2.2.2 r.2) (fun g hg s r hb => by
  unfold Ref_orders_185_F at hb
  by_cases q0 : s.1 = 185
  · exact Ref_orders_185_r hg (ip q0 hb)
  · have hb0 := iq q0 hb
    exact nomatch hb0)
noncomputable def Ref_orders_185 (v0 : Nat) (v1 : Int32) (v3 : Int32) (v4 : Int32) (h : am_H) : Option (Int32 × am_H) := fx Ref_orders_185_F Ref_orders_185_M (185, v1, v3, v4, v0, h)
set_option maxHeartbeats 1000000 in
set_option maxRecDepth 100000 in
theorem Ref_orders_185_e (v0 : Nat) (v1 : Int32) (v3 : Int32) (v4 : Int32) (h : am_H) : Ref_orders_185 v0 v1 v3 v4 h = (if (1568 : Int32) ≤ v4 then (pV h 12 v0 39 (.int v1)).bind fun h3 => (pV h3 12 v0 46 (.int v3)).bind fun h6 => (Ref_refuses v0 (-3 : Int32) h6).bind fun r9 => some (r9.1, r9.2) else (gR h 12 v0 37).bind fun x12 => (gR h 12 v0 38).bind fun x14 => (aI h 0 x14 v4).bind fun x16 => (sI h x12 v4 x16).bind fun h18 => Ref_orders_185 v0 v1 v3 (v4 + (1 : Int32)) h18) := (fx_eq Ref_orders_185_M (185, v1, v3, v4, v0, h)).trans (if_pos rfl)
theorem Ref_orders_185_q {v0 : Nat} {v1 : Int32} {v3 : Int32} {v4 : Int32} {h : am_H} {r : (Int32 × am_H)} (hb : Ref_orders_185 v0 v1 v3 v4 h = some r) : Eqs h r.2 := Ref_orders_185_Q _ _ hb
theorem Ref_orders_185_s {v0 : Nat} {v1 : Int32} {v3 : Int32} {v4 : Int32} {h : am_H} {r : (Int32 × am_H)} (hb : Ref_orders_185 v0 v1 v3 v4 h = some r) : Sx 92 mX12_orders 185 [.ref v0, .int v1, .retAddr 0, .int v3, .int v4] [] h (some (.int r.1)) r.2 := (Ref_orders_185_T _ _ hb).1 rfl
set_option maxHeartbeats 1000000 in
set_option maxRecDepth 100000 in
noncomputable def Ref_orders_155_b (g : (Nat × Int32 × Int32 × Int32 × Nat × am_H) → Option (Int32 × am_H)) (v0 : Nat) (v1 : Int32) (v3 : Int32) (v4 : Int32) (h : am_H) : Option (Int32 × am_H) := if (97 : Int32) ≤ v4 then Ref_orders_185 v0 v1 v3 (0 : Int32) h else (gR h 12 v0 2).bind fun x23 => (gR h 12 v0 5).bind fun x25 => (aI h 0 x25 v4).bind fun x27 => (sI h x23 v4 x27).bind fun h29 => g (155, v1, v3, (v4 + (1 : Int32)), v0, h29)
set_option maxHeartbeats 1000000 in
set_option maxRecDepth 100000 in
theorem Ref_orders_155_m {g g2 : (Nat × Int32 × Int32 × Int32 × Nat × am_H) → Option (Int32 × am_H)} (hg : ∀ s, Le (g s) (g2 s)) (v0 : Nat) (v1 : Int32) (v3 : Int32) (v4 : Int32) (h : am_H) : Le (Ref_orders_155_b g v0 v1 v3 v4 h) (Ref_orders_155_b g2 v0 v1 v3 v4 h) := by unfold Ref_orders_155_b; exact le_i (le_r _) (le_b (le_r _) fun x23 => le_b (le_r _) fun x25 => le_b (le_r _) fun x27 => le_b (le_r _) fun h29 => hg _)
noncomputable def Ref_orders_155_F (g : (Nat × Int32 × Int32 × Int32 × Nat × am_H) → Option (Int32 × am_H)) (s : (Nat × Int32 × Int32 × Int32 × Nat × am_H)) : Option (Int32 × am_H) := if s.1 = 155 then Ref_orders_155_b g s.2.2.2.2.1 s.2.1 s.2.2.1 s.2.2.2.1 s.2.2.2.2.2 else none
theorem Ref_orders_155_M : Mn Ref_orders_155_F := fun g g2 hg s => by unfold Ref_orders_155_F; exact le_i (Ref_orders_155_m hg s.2.2.2.2.1 s.2.1 s.2.2.1 s.2.2.2.1 s.2.2.2.2.2) (le_r _)
def Ref_orders_155_P (s : (Nat × Int32 × Int32 × Int32 × Nat × am_H)) (r : (Int32 × am_H)) : Prop := (s.1 = 155 → Sx 92 mX12_orders 155 [.ref s.2.2.2.2.1, .int s.2.1, .retAddr 0, .int s.2.2.1, .int s.2.2.2.1] [] s.2.2.2.2.2 (some (.int r.1)) r.2) ∧ True
set_option maxHeartbeats 1000000 in
set_option maxRecDepth 100000 in
theorem Ref_orders_155_t {g : (Nat × Int32 × Int32 × Int32 × Nat × am_H) → Option (Int32 × am_H)} (hg : ∀ s r, g s = some r → Ref_orders_155_P s r) {v0 : Nat} {v1 : Int32} {v3 : Int32} {v4 : Int32} {h : am_H} {r : (Int32 × am_H)} (hb : Ref_orders_155_b g v0 v1 v3 v4 h = some r) : Sx 92 mX12_orders 155 [.ref v0, .int v1, .retAddr 0, .int v3, .int v4] [] h (some (.int r.1)) r.2 := by
  unfold Ref_orders_155_b at hb
  refine Sx.o (fun _ _ _ k => ex_iload dX12_orders_155 rfl k) ?_
  refine Sx.o (fun _ _ _ k => op_bipush (97 : Int32) dX12_orders_157 (by decide) k) ?_
  refine Sx.b (fun _ _ _ k1 k2 => ex_icmp_ge 182 dX12_orders_159 (by decide) k1 k2) (fun q => ?_) (fun q => ?_)
  · have hb21 := ip q hb
    refine Sx.o (fun _ _ _ k => op_iconst (0 : Int32) dX12_orders_182 (by decide) k) ?_
    refine Sx.o (L' := [.ref v0, .int v1, .retAddr 0, .int v3, .int (0 : Int32)]) (fun _ _ _ k => ex_istore dX12_orders_183 (by decide) k) ?_
    exact Ref_orders_185_s hb21
  · have hb22 := iq q hb
    refine Sx.o (fun _ _ _ k => ex_aload_n dX12_orders_162 rfl rfl k) ?_
    obtain ⟨x23, e_x23, hb24⟩ := ob2 hb22
    refine Sx.o (fun _ _ _ k => op_getR fX12_24 dX12_orders_163 e_x23 k) ?_
    refine Sx.o (fun _ _ _ k => ex_iload dX12_orders_166 rfl k) ?_
    refine Sx.o (fun _ _ _ k => ex_aload_n dX12_orders_168 rfl rfl k) ?_
    obtain ⟨x25, e_x25, hb26⟩ := ob2 hb24
    refine Sx.o (fun _ _ _ k => op_getR fX12_34 dX12_orders_169 e_x25 k) ?_
    refine Sx.o (fun _ _ _ k => ex_iload dX12_orders_172 rfl k) ?_
    obtain ⟨x27, e_x27, hb28⟩ := ob2 hb26
    refine Sx.o (fun _ _ _ k => op_iald dX12_orders_174 e_x27 k) ?_
    obtain ⟨h29, e_h29, hb30⟩ := ob2 hb28
    refine Sx.p (sI_q e_h29) (fun _ _ _ k => op_iast dX12_orders_175 e_h29 k) ?_
    refine Sx.o (L' := [.ref v0, .int v1, .retAddr 0, .int v3, .int (v4 + (1 : Int32))]) (fun _ _ _ k => op_iinc (1 : Int32) dX12_orders_176 (by decide) rfl (by decide) k) ?_
    refine Sx.o (fun _ _ _ k => ex_goto 155 dX12_orders_179 (by decide) k) ?_
    exact (hg _ _ hb30).1 rfl
theorem Ref_orders_155_T : ∀ s r, fx Ref_orders_155_F Ref_orders_155_M s = some r → Ref_orders_155_P s r := fx_ind Ref_orders_155_M Ref_orders_155_P (fun g hg s r hb => by
  unfold Ref_orders_155_F at hb
  exact ⟨fun q => Ref_orders_155_t hg (ip q hb), trivial⟩)
set_option maxHeartbeats 1000000 in
set_option maxRecDepth 100000 in
theorem Ref_orders_155_r {g : (Nat × Int32 × Int32 × Int32 × Nat × am_H) → Option (Int32 × am_H)} (hg : ∀ s r, g s = some r → Eqs s.2.2.2.2.2 r.2) {v0 : Nat} {v1 : Int32} {v3 : Int32} {v4 : Int32} {h : am_H} {r : (Int32 × am_H)} (hb : Ref_orders_155_b g v0 v1 v3 v4 h = some r) : Eqs h r.2 := by
  unfold Ref_orders_155_b at hb
  have w0 := Eqs.rf h
  by_cases q : (97 : Int32) ≤ v4
  · have hb21 := ip q hb
    exact w0.tr (Ref_orders_185_q hb21)
  · have hb22 := iq q hb
    obtain ⟨x23, e_x23, hb24⟩ := ob2 hb22
    obtain ⟨x25, e_x25, hb26⟩ := ob2 hb24
    obtain ⟨x27, e_x27, hb28⟩ := ob2 hb26
    obtain ⟨h29, e_h29, hb30⟩ := ob2 hb28
    have w31 := w0.tr (sI_q e_h29)
    exact w31.tr (hg _ _ hb30)
theorem Ref_orders_155_Q : ∀ s r, fx Ref_orders_155_F Ref_orders_155_M s = some r → Eqs s.2.2.2.2.2 r.2 := fx_ind Ref_orders_155_M (fun s r => Eqs s.2.2.2.2.2 r.2) (fun g hg s r hb => by
  unfold Ref_orders_155_F at hb
  by_cases q0 : s.1 = 155
  · exact Ref_orders_155_r hg (ip q0 hb)
  · have hb0 := iq q0 hb
    exact nomatch hb0)
noncomputable def Ref_orders_155 (v0 : Nat) (v1 : Int32) (v3 : Int32) (v4 : Int32) (h : am_H) : Option (Int32 × am_H) := fx Ref_orders_155_F Ref_orders_155_M (155, v1, v3, v4, v0, h)
set_option maxHeartbeats 1000000 in
set_option maxRecDepth 100000 in
theorem Ref_orders_155_e (v0 : Nat) (v1 : Int32) (v3 : Int32) (v4 : Int32) (h : am_H) : Ref_orders_155 v0 v1 v3 v4 h = (if (97 : Int32) ≤ v4 then Ref_orders_185 v0 v1 v3 (0 : Int32) h else (gR h 12 v0 2).bind fun x23 => (gR h 12 v0 5).bind fun x25 => (aI h 0 x25 v4).bind fun x27 => (sI h x23 v4 x27).bind fun h29 => Ref_orders_155 v0 v1 v3 (v4 + (1 : Int32)) h29) := (fx_eq Ref_orders_155_M (155, v1, v3, v4, v0, h)).trans (if_pos rfl)
theorem Ref_orders_155_q {v0 : Nat} {v1 : Int32} {v3 : Int32} {v4 : Int32} {h : am_H} {r : (Int32 × am_H)} (hb : Ref_orders_155 v0 v1 v3 v4 h = some r) : Eqs h r.2 := Ref_orders_155_Q _ _ hb
theorem Ref_orders_155_s {v0 : Nat} {v1 : Int32} {v3 : Int32} {v4 : Int32} {h : am_H} {r : (Int32 × am_H)} (hb : Ref_orders_155 v0 v1 v3 v4 h = some r) : Sx 92 mX12_orders 155 [.ref v0, .int v1, .retAddr 0, .int v3, .int v4] [] h (some (.int r.1)) r.2 := (Ref_orders_155_T _ _ hb).1 rfl
set_option maxHeartbeats 1000000 in
set_option maxRecDepth 100000 in
noncomputable def Ref_orders_133_b (g : (Nat × Int32 × Int32 × Int32 × Nat × am_H) → Option (Int32 × am_H)) (v0 : Nat) (v1 : Int32) (v2 : Int32) (v3 : Int32) (h : am_H) : Option (Int32 × am_H) := (gI h 12 v0 47).bind fun x32 => if v2 ≤ x32 then (gR h 12 v0 28).bind fun x36 => (aI h 0 x36 (1 : Int32)).bind fun x38 => (Ref_good v0 x38 h).bind fun r40 => some (r40.1, r40.2) else (Ref_runs v0 v2 h).bind fun r43 => if r43.1 = (0 : Int32) then Ref_orders_155 v0 v1 v3 (0 : Int32) r43.2 else g (133, v1, v2, (v3 + (1 : Int32)), v0, r43.2)
set_option maxHeartbeats 1000000 in
set_option maxRecDepth 100000 in
theorem Ref_orders_133_m {g g2 : (Nat × Int32 × Int32 × Int32 × Nat × am_H) → Option (Int32 × am_H)} (hg : ∀ s, Le (g s) (g2 s)) (v0 : Nat) (v1 : Int32) (v2 : Int32) (v3 : Int32) (h : am_H) : Le (Ref_orders_133_b g v0 v1 v2 v3 h) (Ref_orders_133_b g2 v0 v1 v2 v3 h) := by unfold Ref_orders_133_b; exact le_b (le_r _) fun x32 => le_i (le_r _) (le_b (le_r _) fun r43 => le_i (le_r _) (hg _))
noncomputable def Ref_orders_133_F (g : (Nat × Int32 × Int32 × Int32 × Nat × am_H) → Option (Int32 × am_H)) (s : (Nat × Int32 × Int32 × Int32 × Nat × am_H)) : Option (Int32 × am_H) := if s.1 = 133 then Ref_orders_133_b g s.2.2.2.2.1 s.2.1 s.2.2.1 s.2.2.2.1 s.2.2.2.2.2 else none
theorem Ref_orders_133_M : Mn Ref_orders_133_F := fun g g2 hg s => by unfold Ref_orders_133_F; exact le_i (Ref_orders_133_m hg s.2.2.2.2.1 s.2.1 s.2.2.1 s.2.2.2.1 s.2.2.2.2.2) (le_r _)
def Ref_orders_133_P (s : (Nat × Int32 × Int32 × Int32 × Nat × am_H)) (r : (Int32 × am_H)) : Prop := (s.1 = 133 → Sx 92 mX12_orders 133 [.ref s.2.2.2.2.1, .int s.2.1, .int s.2.2.1, .int s.2.2.2.1, .retAddr 0] [] s.2.2.2.2.2 (some (.int r.1)) r.2) ∧ True
set_option maxHeartbeats 1000000 in
set_option maxRecDepth 100000 in
theorem Ref_orders_133_t {g : (Nat × Int32 × Int32 × Int32 × Nat × am_H) → Option (Int32 × am_H)} (hg : ∀ s r, g s = some r → Ref_orders_133_P s r) {v0 : Nat} {v1 : Int32} {v2 : Int32} {v3 : Int32} {h : am_H} {r : (Int32 × am_H)} (hb : Ref_orders_133_b g v0 v1 v2 v3 h = some r) : Sx 92 mX12_orders 133 [.ref v0, .int v1, .int v2, .int v3, .retAddr 0] [] h (some (.int r.1)) r.2 := by
  unfold Ref_orders_133_b at hb
  refine Sx.o (fun _ _ _ k => ex_aload_n dX12_orders_133 rfl rfl k) ?_
  obtain ⟨x32, e_x32, hb33⟩ := ob2 hb
  refine Sx.o (fun _ _ _ k => op_getI fX12_431 dX12_orders_134 e_x32 k) ?_
  refine Sx.o (fun _ _ _ k => ex_iload_n dX12_orders_137 rfl k) ?_
  refine Sx.b (fun _ _ _ k1 k2 => ex_icmp_ge 236 dX12_orders_138 (by decide) k1 k2) (fun q => ?_) (fun q => ?_)
  · have hb34 := ip q hb33
    refine Sx.o (fun _ _ _ k => ex_aload_n dX12_orders_236 rfl rfl k) ?_
    refine Sx.o (fun _ _ _ k => ex_aload_n dX12_orders_237 rfl rfl k) ?_
    obtain ⟨x36, e_x36, hb37⟩ := ob2 hb34
    refine Sx.o (fun _ _ _ k => op_getR fX12_62 dX12_orders_238 e_x36 k) ?_
    refine Sx.o (fun _ _ _ k => op_iconst (1 : Int32) dX12_orders_241 (by decide) k) ?_
    obtain ⟨x38, e_x38, hb39⟩ := ob2 hb37
    refine Sx.o (fun _ _ _ k => op_iald dX12_orders_242 e_x38 k) ?_
    obtain ⟨r40, e_r40, hb41⟩ := ob2 hb39
    refine sx_callV (dc := 0) (as := [.int x38]) (stq := [.int r40.1]) (by omega) dX12_orders_243 MX12_good kX12_14 iX12_good sX12_good rfl rfl (Ref_good_o e_r40) rfl rfl (Nat.le_of_ble_eq_true rfl) (Nat.le_of_ble_eq_true rfl) (Ref_good_s e_r40) rfl ?_
    obtain rfl := Option.some.inj hb41
    exact Sx.r (fun _ _ _ k => ex_iret rfl dX12_orders_246 k)
  · have hb35 := iq q hb33
    refine Sx.o (fun _ _ _ k => ex_aload_n dX12_orders_141 rfl rfl k) ?_
    refine Sx.o (fun _ _ _ k => ex_iload_n dX12_orders_142 rfl k) ?_
    obtain ⟨r43, e_r43, hb44⟩ := ob2 hb35
    refine sx_callV (dc := 91) (as := [.int v2]) (stq := [.int r43.1]) (by omega) dX12_orders_143 MX12_runs kX12_434 iX12_runs sX12_runs rfl rfl (Ref_runs_o e_r43) rfl rfl (Nat.le_of_ble_eq_true rfl) (Nat.le_of_ble_eq_true rfl) (Ref_runs_s e_r43) rfl ?_
    refine Sx.b (fun _ _ _ k1 k2 => ex_if_eq 152 dX12_orders_146 (by decide) k1 k2) (fun q => ?_) (fun q => ?_)
    · have hb46 := ip q hb44
      refine Sx.o (fun _ _ _ k => op_iconst (0 : Int32) dX12_orders_152 (by decide) k) ?_
      refine Sx.o (L' := [.ref v0, .int v1, .int v2, .int v3, .int (0 : Int32)]) (fun _ _ _ k => ex_istore dX12_orders_153 (by decide) k) ?_
      refine Sx.fg [true, true, false, true, true] ?_
      exact Ref_orders_155_s hb46
    · have hb47 := iq q hb44
      refine Sx.o (fun _ _ _ k => ex_goto 230 dX12_orders_149 (by decide) k) ?_
      refine Sx.o (L' := [.ref v0, .int v1, .int v2, .int (v3 + (1 : Int32)), .retAddr 0]) (fun _ _ _ k => op_iinc (1 : Int32) dX12_orders_230 (by decide) rfl (by decide) k) ?_
      refine Sx.o (fun _ _ _ k => ex_goto 133 dX12_orders_233 (by decide) k) ?_
      exact (hg _ _ hb47).1 rfl
theorem Ref_orders_133_T : ∀ s r, fx Ref_orders_133_F Ref_orders_133_M s = some r → Ref_orders_133_P s r := fx_ind Ref_orders_133_M Ref_orders_133_P (fun g hg s r hb => by
  unfold Ref_orders_133_F at hb
  exact ⟨fun q => Ref_orders_133_t hg (ip q hb), trivial⟩)
set_option maxHeartbeats 1000000 in
set_option maxRecDepth 100000 in
theorem Ref_orders_133_r {g : (Nat × Int32 × Int32 × Int32 × Nat × am_H) → Option (Int32 × am_H)} (hg : ∀ s r, g s = some r → Eqs s.2.2.2.2.2 r.2) {v0 : Nat} {v1 : Int32} {v2 : Int32} {v3 : Int32} {h : am_H} {r : (Int32 × am_H)} (hb : Ref_orders_133_b g v0 v1 v2 v3 h = some r) : Eqs h r.2 := by
  unfold Ref_orders_133_b at hb
  have w0 := Eqs.rf h
  obtain ⟨x32, e_x32, hb33⟩ := ob2 hb
  by_cases q : v2 ≤ x32
  · have hb34 := ip q hb33
    obtain ⟨x36, e_x36, hb37⟩ := ob2 hb34
    obtain ⟨x38, e_x38, hb39⟩ := ob2 hb37
    obtain ⟨r40, e_r40, hb41⟩ := ob2 hb39
    have w42 := w0.tr (Ref_good_q e_r40)
    obtain rfl := Option.some.inj hb41
    exact w42
  · have hb35 := iq q hb33
    obtain ⟨r43, e_r43, hb44⟩ := ob2 hb35
    have w45 := w0.tr (Ref_runs_q e_r43)
    by_cases q : r43.1 = (0 : Int32)
    · have hb46 := ip q hb44
      exact w45.tr (Ref_orders_155_q hb46)
    · have hb47 := iq q hb44
      exact w45.tr (hg _ _ hb47)
theorem Ref_orders_133_Q : ∀ s r, fx Ref_orders_133_F Ref_orders_133_M s = some r → Eqs s.2.2.2.2.2 r.2 := fx_ind Ref_orders_133_M (fun s r => Eqs s.2.2.2.2.2 r.2) (fun g hg s r hb => by
  unfold Ref_orders_133_F at hb
  by_cases q0 : s.1 = 133
  · exact Ref_orders_133_r hg (ip q0 hb)
  · have hb0 := iq q0 hb
    exact nomatch hb0)
noncomputable def Ref_orders_133 (v0 : Nat) (v1 : Int32) (v2 : Int32) (v3 : Int32) (h : am_H) : Option (Int32 × am_H) := fx Ref_orders_133_F Ref_orders_133_M (133, v1, v2, v3, v0, h)
set_option maxHeartbeats 1000000 in
set_option maxRecDepth 100000 in
theorem Ref_orders_133_e (v0 : Nat) (v1 : Int32) (v2 : Int32) (v3 : Int32) (h : am_H) : Ref_orders_133 v0 v1 v2 v3 h = ((gI h 12 v0 47).bind fun x32 => if v2 ≤ x32 then (gR h 12 v0 28).bind fun x36 => (aI h 0 x36 (1 : Int32)).bind fun x38 => (Ref_good v0 x38 h).bind fun r40 => some (r40.1, r40.2) else (Ref_runs v0 v2 h).bind fun r43 => if r43.1 = (0 : Int32) then Ref_orders_155 v0 v1 v3 (0 : Int32) r43.2 else Ref_orders_133 v0 v1 v2 (v3 + (1 : Int32)) r43.2) := (fx_eq Ref_orders_133_M (133, v1, v2, v3, v0, h)).trans (if_pos rfl)
theorem Ref_orders_133_q {v0 : Nat} {v1 : Int32} {v2 : Int32} {v3 : Int32} {h : am_H} {r : (Int32 × am_H)} (hb : Ref_orders_133 v0 v1 v2 v3 h = some r) : Eqs h r.2 := Ref_orders_133_Q _ _ hb
theorem Ref_orders_133_s {v0 : Nat} {v1 : Int32} {v2 : Int32} {v3 : Int32} {h : am_H} {r : (Int32 × am_H)} (hb : Ref_orders_133 v0 v1 v2 v3 h = some r) : Sx 92 mX12_orders 133 [.ref v0, .int v1, .int v2, .int v3, .retAddr 0] [] h (some (.int r.1)) r.2 := (Ref_orders_133_T _ _ hb).1 rfl
set_option maxHeartbeats 1000000 in
set_option maxRecDepth 100000 in
noncomputable def Ref_orders_48_b (g : (Nat × Int32 × Nat × am_H) → Option (Int32 × am_H)) (v0 : Nat) (v1 : Int32) (h : am_H) : Option (Int32 × am_H) := if (1568 : Int32) ≤ v1 then (gI h 12 v0 39).bind fun x50 => (Ref_lays v0 (6 : Int32) h).bind fun h52 => (gR h52 12 v0 28).bind fun x55 => (gR h52 12 v0 2).bind fun x57 => (aI h52 0 x57 (96 : Int32)).bind fun x59 => (sI h52 x55 (0 : Int32) x59).bind fun h61 => (gR h61 12 v0 28).bind fun x64 => (sI h61 x64 (1 : Int32) (0 : Int32)).bind fun h66 => (gR h66 12 v0 28).bind fun x69 => (sI h66 x69 (2 : Int32) (-1 : Int32)).bind fun h71 => (pV h71 12 v0 47 (.int (2400 : Int32))).bind fun h74 => (gI h74 12 v0 47).bind fun x77 => (gR h74 12 v0 2).bind fun x79 => (aI h74 0 x79 (124 : Int32)).bind fun x81 => Ref_orders_133 v0 x50 (x77 + x81) (0 : Int32) h74 else (gR h 12 v0 38).bind fun x83 => (gR h 12 v0 37).bind fun x85 => (aI h 0 x85 v1).bind fun x87 => (sI h x83 v1 x87).bind fun h89 => g (48, (v1 + (1 : Int32)), v0, h89)
set_option maxHeartbeats 1000000 in
set_option maxRecDepth 100000 in
theorem Ref_orders_48_m {g g2 : (Nat × Int32 × Nat × am_H) → Option (Int32 × am_H)} (hg : ∀ s, Le (g s) (g2 s)) (v0 : Nat) (v1 : Int32) (h : am_H) : Le (Ref_orders_48_b g v0 v1 h) (Ref_orders_48_b g2 v0 v1 h) := by unfold Ref_orders_48_b; exact le_i (le_r _) (le_b (le_r _) fun x83 => le_b (le_r _) fun x85 => le_b (le_r _) fun x87 => le_b (le_r _) fun h89 => hg _)
noncomputable def Ref_orders_48_F (g : (Nat × Int32 × Nat × am_H) → Option (Int32 × am_H)) (s : (Nat × Int32 × Nat × am_H)) : Option (Int32 × am_H) := if s.1 = 48 then Ref_orders_48_b g s.2.2.1 s.2.1 s.2.2.2 else none
theorem Ref_orders_48_M : Mn Ref_orders_48_F := fun g g2 hg s => by unfold Ref_orders_48_F; exact le_i (Ref_orders_48_m hg s.2.2.1 s.2.1 s.2.2.2) (le_r _)
def Ref_orders_48_P (s : (Nat × Int32 × Nat × am_H)) (r : (Int32 × am_H)) : Prop := (s.1 = 48 → Sx 92 mX12_orders 48 [.ref s.2.2.1, .int s.2.1, .retAddr 0, .retAddr 0, .retAddr 0] [] s.2.2.2 (some (.int r.1)) r.2) ∧ True
set_option maxHeartbeats 1000000 in
set_option maxRecDepth 100000 in
theorem Ref_orders_48_t {g : (Nat × Int32 × Nat × am_H) → Option (Int32 × am_H)} (hg : ∀ s r, g s = some r → Ref_orders_48_P s r) {v0 : Nat} {v1 : Int32} {h : am_H} {r : (Int32 × am_H)} (hb : Ref_orders_48_b g v0 v1 h = some r) : Sx 92 mX12_orders 48 [.ref v0, .int v1, .retAddr 0, .retAddr 0, .retAddr 0] [] h (some (.int r.1)) r.2 := by
  unfold Ref_orders_48_b at hb
  refine Sx.o (fun _ _ _ k => ex_iload_n dX12_orders_48 rfl k) ?_
  refine Sx.o (fun _ _ _ k => op_sipush (1568 : Int32) dX12_orders_49 (by decide) k) ?_
  refine Sx.b (fun _ _ _ k1 k2 => ex_icmp_ge 73 dX12_orders_52 (by decide) k1 k2) (fun q => ?_) (fun q => ?_)
  · have hb48 := ip q hb
    refine Sx.o (fun _ _ _ k => ex_aload_n dX12_orders_73 rfl rfl k) ?_
    obtain ⟨x50, e_x50, hb51⟩ := ob2 hb48
    refine Sx.o (fun _ _ _ k => op_getI fX12_11 dX12_orders_74 e_x50 k) ?_
    refine Sx.o (L' := [.ref v0, .int x50, .retAddr 0, .retAddr 0, .retAddr 0]) (fun _ _ _ k => ex_istore_n dX12_orders_77 (by decide) k) ?_
    refine Sx.o (fun _ _ _ k => ex_aload_n dX12_orders_78 rfl rfl k) ?_
    refine Sx.o (fun _ _ _ k => op_bipush (6 : Int32) dX12_orders_79 (by decide) k) ?_
    obtain ⟨h52, e_h52, hb53⟩ := ob2 hb51
    refine sx_callV (dc := 0) (as := [.int (6 : Int32)]) (stq := []) (by omega) dX12_orders_81 MX12_lays kX12_250 iX12_lays sX12_lays rfl rfl (Ref_lays_o e_h52) rfl rfl (Nat.le_of_ble_eq_true rfl) (Nat.le_of_ble_eq_true rfl) (Ref_lays_s e_h52) rfl ?_
    refine Sx.o (fun _ _ _ k => ex_aload_n dX12_orders_84 rfl rfl k) ?_
    obtain ⟨x55, e_x55, hb56⟩ := ob2 hb53
    refine Sx.o (fun _ _ _ k => op_getR fX12_62 dX12_orders_85 e_x55 k) ?_
    refine Sx.o (fun _ _ _ k => op_iconst (0 : Int32) dX12_orders_88 (by decide) k) ?_
    refine Sx.o (fun _ _ _ k => ex_aload_n dX12_orders_89 rfl rfl k) ?_
    obtain ⟨x57, e_x57, hb58⟩ := ob2 hb56
    refine Sx.o (fun _ _ _ k => op_getR fX12_24 dX12_orders_90 e_x57 k) ?_
    refine Sx.o (fun _ _ _ k => op_bipush (96 : Int32) dX12_orders_93 (by decide) k) ?_
    obtain ⟨x59, e_x59, hb60⟩ := ob2 hb58
    refine Sx.o (fun _ _ _ k => op_iald dX12_orders_95 e_x59 k) ?_
    obtain ⟨h61, e_h61, hb62⟩ := ob2 hb60
    refine Sx.p (sI_q e_h61) (fun _ _ _ k => op_iast dX12_orders_96 e_h61 k) ?_
    refine Sx.o (fun _ _ _ k => ex_aload_n dX12_orders_97 rfl rfl k) ?_
    obtain ⟨x64, e_x64, hb65⟩ := ob2 hb62
    refine Sx.o (fun _ _ _ k => op_getR fX12_62 dX12_orders_98 e_x64 k) ?_
    refine Sx.o (fun _ _ _ k => op_iconst (1 : Int32) dX12_orders_101 (by decide) k) ?_
    refine Sx.o (fun _ _ _ k => op_iconst (0 : Int32) dX12_orders_102 (by decide) k) ?_
    obtain ⟨h66, e_h66, hb67⟩ := ob2 hb65
    refine Sx.p (sI_q e_h66) (fun _ _ _ k => op_iast dX12_orders_103 e_h66 k) ?_
    refine Sx.o (fun _ _ _ k => ex_aload_n dX12_orders_104 rfl rfl k) ?_
    obtain ⟨x69, e_x69, hb70⟩ := ob2 hb67
    refine Sx.o (fun _ _ _ k => op_getR fX12_62 dX12_orders_105 e_x69 k) ?_
    refine Sx.o (fun _ _ _ k => op_iconst (2 : Int32) dX12_orders_108 (by decide) k) ?_
    refine Sx.o (fun _ _ _ k => op_iconst (-1 : Int32) dX12_orders_109 (by decide) k) ?_
    obtain ⟨h71, e_h71, hb72⟩ := ob2 hb70
    refine Sx.p (sI_q e_h71) (fun _ _ _ k => op_iast dX12_orders_110 e_h71 k) ?_
    refine Sx.o (fun _ _ _ k => ex_aload_n dX12_orders_111 rfl rfl k) ?_
    refine Sx.o (fun _ _ _ k => op_sipush (2400 : Int32) dX12_orders_112 (by decide) k) ?_
    obtain ⟨h74, e_h74, hb75⟩ := ob2 hb72
    refine Sx.p (pV_q e_h74) (fun _ _ _ k => op_put pX12_431 dX12_orders_115 e_h74 (fun _ => rfl) (fun _ => rfl) k) ?_
    refine Sx.o (fun _ _ _ k => ex_aload_n dX12_orders_118 rfl rfl k) ?_
    obtain ⟨x77, e_x77, hb78⟩ := ob2 hb75
    refine Sx.o (fun _ _ _ k => op_getI fX12_431 dX12_orders_119 e_x77 k) ?_
    refine Sx.o (fun _ _ _ k => ex_aload_n dX12_orders_122 rfl rfl k) ?_
    obtain ⟨x79, e_x79, hb80⟩ := ob2 hb78
    refine Sx.o (fun _ _ _ k => op_getR fX12_24 dX12_orders_123 e_x79 k) ?_
    refine Sx.o (fun _ _ _ k => op_bipush (124 : Int32) dX12_orders_126 (by decide) k) ?_
    obtain ⟨x81, e_x81, hb82⟩ := ob2 hb80
    refine Sx.o (fun _ _ _ k => op_iald dX12_orders_128 e_x81 k) ?_
    refine Sx.o (fun _ _ _ k => ex_iadd dX12_orders_129 k) ?_
    refine Sx.o (L' := [.ref v0, .int x50, .int (x77 + x81), .retAddr 0, .retAddr 0]) (fun _ _ _ k => ex_istore_n dX12_orders_130 (by decide) k) ?_
    refine Sx.o (fun _ _ _ k => op_iconst (0 : Int32) dX12_orders_131 (by decide) k) ?_
    refine Sx.o (L' := [.ref v0, .int x50, .int (x77 + x81), .int (0 : Int32), .retAddr 0]) (fun _ _ _ k => ex_istore_n dX12_orders_132 (by decide) k) ?_
    exact Ref_orders_133_s hb82
  · have hb49 := iq q hb
    refine Sx.o (fun _ _ _ k => ex_aload_n dX12_orders_55 rfl rfl k) ?_
    obtain ⟨x83, e_x83, hb84⟩ := ob2 hb49
    refine Sx.o (fun _ _ _ k => op_getR fX12_77 dX12_orders_56 e_x83 k) ?_
    refine Sx.o (fun _ _ _ k => ex_iload_n dX12_orders_59 rfl k) ?_
    refine Sx.o (fun _ _ _ k => ex_aload_n dX12_orders_60 rfl rfl k) ?_
    obtain ⟨x85, e_x85, hb86⟩ := ob2 hb84
    refine Sx.o (fun _ _ _ k => op_getR fX12_74 dX12_orders_61 e_x85 k) ?_
    refine Sx.o (fun _ _ _ k => ex_iload_n dX12_orders_64 rfl k) ?_
    obtain ⟨x87, e_x87, hb88⟩ := ob2 hb86
    refine Sx.o (fun _ _ _ k => op_iald dX12_orders_65 e_x87 k) ?_
    obtain ⟨h89, e_h89, hb90⟩ := ob2 hb88
    refine Sx.p (sI_q e_h89) (fun _ _ _ k => op_iast dX12_orders_66 e_h89 k) ?_
    refine Sx.o (L' := [.ref v0, .int (v1 + (1 : Int32)), .retAddr 0, .retAddr 0, .retAddr 0]) (fun _ _ _ k => op_iinc (1 : Int32) dX12_orders_67 (by decide) rfl (by decide) k) ?_
    refine Sx.o (fun _ _ _ k => ex_goto 48 dX12_orders_70 (by decide) k) ?_
    exact (hg _ _ hb90).1 rfl
theorem Ref_orders_48_T : ∀ s r, fx Ref_orders_48_F Ref_orders_48_M s = some r → Ref_orders_48_P s r := fx_ind Ref_orders_48_M Ref_orders_48_P (fun g hg s r hb => by
  unfold Ref_orders_48_F at hb
  exact ⟨fun q => Ref_orders_48_t hg (ip q hb), trivial⟩)
set_option maxHeartbeats 1000000 in
set_option maxRecDepth 100000 in
theorem Ref_orders_48_r {g : (Nat × Int32 × Nat × am_H) → Option (Int32 × am_H)} (hg : ∀ s r, g s = some r → Eqs s.2.2.2 r.2) {v0 : Nat} {v1 : Int32} {h : am_H} {r : (Int32 × am_H)} (hb : Ref_orders_48_b g v0 v1 h = some r) : Eqs h r.2 := by
  unfold Ref_orders_48_b at hb
  have w0 := Eqs.rf h
  by_cases q : (1568 : Int32) ≤ v1
  · have hb48 := ip q hb
    obtain ⟨x50, e_x50, hb51⟩ := ob2 hb48
    obtain ⟨h52, e_h52, hb53⟩ := ob2 hb51
    have w54 := w0.tr (Ref_lays_q e_h52)
    obtain ⟨x55, e_x55, hb56⟩ := ob2 hb53
    obtain ⟨x57, e_x57, hb58⟩ := ob2 hb56
    obtain ⟨x59, e_x59, hb60⟩ := ob2 hb58
    obtain ⟨h61, e_h61, hb62⟩ := ob2 hb60
    have w63 := w54.tr (sI_q e_h61)
    obtain ⟨x64, e_x64, hb65⟩ := ob2 hb62
    obtain ⟨h66, e_h66, hb67⟩ := ob2 hb65
    have w68 := w63.tr (sI_q e_h66)
    obtain ⟨x69, e_x69, hb70⟩ := ob2 hb67
    obtain ⟨h71, e_h71, hb72⟩ := ob2 hb70
    have w73 := w68.tr (sI_q e_h71)
    obtain ⟨h74, e_h74, hb75⟩ := ob2 hb72
    have w76 := w73.tr (pV_q e_h74)
    obtain ⟨x77, e_x77, hb78⟩ := ob2 hb75
    obtain ⟨x79, e_x79, hb80⟩ := ob2 hb78
    obtain ⟨x81, e_x81, hb82⟩ := ob2 hb80
    exact w76.tr (Ref_orders_133_q hb82)
  · have hb49 := iq q hb
    obtain ⟨x83, e_x83, hb84⟩ := ob2 hb49
    obtain ⟨x85, e_x85, hb86⟩ := ob2 hb84
    obtain ⟨x87, e_x87, hb88⟩ := ob2 hb86
    obtain ⟨h89, e_h89, hb90⟩ := ob2 hb88
    have w91 := w0.tr (sI_q e_h89)
    exact w91.tr (hg _ _ hb90)
theorem Ref_orders_48_Q : ∀ s r, fx Ref_orders_48_F Ref_orders_48_M s = some r → Eqs s.2.2.2 r.2 := fx_ind Ref_orders_48_M (fun s r => Eqs s.2.2.2 r.2) (fun g hg s r hb => by
  unfold Ref_orders_48_F at hb
  by_cases q0 : s.1 = 48
  · exact Ref_orders_48_r hg (ip q0 hb)
  · have hb0 := iq q0 hb
    exact nomatch hb0)
noncomputable def Ref_orders_48 (v0 : Nat) (v1 : Int32) (h : am_H) : Option (Int32 × am_H) := fx Ref_orders_48_F Ref_orders_48_M (48, v1, v0, h)
set_option maxHeartbeats 1000000 in
set_option maxRecDepth 100000 in
theorem Ref_orders_48_e (v0 : Nat) (v1 : Int32) (h : am_H) : Ref_orders_48 v0 v1 h = (if (1568 : Int32) ≤ v1 then (gI h 12 v0 39).bind fun x50 => (Ref_lays v0 (6 : Int32) h).bind fun h52 => (gR h52 12 v0 28).bind fun x55 => (gR h52 12 v0 2).bind fun x57 => (aI h52 0 x57 (96 : Int32)).bind fun x59 => (sI h52 x55 (0 : Int32) x59).bind fun h61 => (gR h61 12 v0 28).bind fun x64 => (sI h61 x64 (1 : Int32) (0 : Int32)).bind fun h66 => (gR h66 12 v0 28).bind fun x69 => (sI h66 x69 (2 : Int32) (-1 : Int32)).bind fun h71 => (pV h71 12 v0 47 (.int (2400 : Int32))).bind fun h74 => (gI h74 12 v0 47).bind fun x77 => (gR h74 12 v0 2).bind fun x79 => (aI h74 0 x79 (124 : Int32)).bind fun x81 => Ref_orders_133 v0 x50 (x77 + x81) (0 : Int32) h74 else (gR h 12 v0 38).bind fun x83 => (gR h 12 v0 37).bind fun x85 => (aI h 0 x85 v1).bind fun x87 => (sI h x83 v1 x87).bind fun h89 => Ref_orders_48 v0 (v1 + (1 : Int32)) h89) := (fx_eq Ref_orders_48_M (48, v1, v0, h)).trans (if_pos rfl)
theorem Ref_orders_48_q {v0 : Nat} {v1 : Int32} {h : am_H} {r : (Int32 × am_H)} (hb : Ref_orders_48 v0 v1 h = some r) : Eqs h r.2 := Ref_orders_48_Q _ _ hb
theorem Ref_orders_48_s {v0 : Nat} {v1 : Int32} {h : am_H} {r : (Int32 × am_H)} (hb : Ref_orders_48 v0 v1 h = some r) : Sx 92 mX12_orders 48 [.ref v0, .int v1, .retAddr 0, .retAddr 0, .retAddr 0] [] h (some (.int r.1)) r.2 := (Ref_orders_48_T _ _ hb).1 rfl
set_option maxHeartbeats 1000000 in
set_option maxRecDepth 100000 in
noncomputable def Ref_orders_22_b (g : (Nat × Int32 × Nat × am_H) → Option (Int32 × am_H)) (v0 : Nat) (v1 : Int32) (h : am_H) : Option (Int32 × am_H) := if (97 : Int32) ≤ v1 then Ref_orders_48 v0 (0 : Int32) h else (gR h 12 v0 5).bind fun x94 => (gR h 12 v0 2).bind fun x96 => (aI h 0 x96 v1).bind fun x98 => (sI h x94 v1 x98).bind fun h100 => g (22, (v1 + (1 : Int32)), v0, h100)
set_option maxHeartbeats 1000000 in
set_option maxRecDepth 100000 in
theorem Ref_orders_22_m {g g2 : (Nat × Int32 × Nat × am_H) → Option (Int32 × am_H)} (hg : ∀ s, Le (g s) (g2 s)) (v0 : Nat) (v1 : Int32) (h : am_H) : Le (Ref_orders_22_b g v0 v1 h) (Ref_orders_22_b g2 v0 v1 h) := by unfold Ref_orders_22_b; exact le_i (le_r _) (le_b (le_r _) fun x94 => le_b (le_r _) fun x96 => le_b (le_r _) fun x98 => le_b (le_r _) fun h100 => hg _)
noncomputable def Ref_orders_22_F (g : (Nat × Int32 × Nat × am_H) → Option (Int32 × am_H)) (s : (Nat × Int32 × Nat × am_H)) : Option (Int32 × am_H) := if s.1 = 22 then Ref_orders_22_b g s.2.2.1 s.2.1 s.2.2.2 else none
theorem Ref_orders_22_M : Mn Ref_orders_22_F := fun g g2 hg s => by unfold Ref_orders_22_F; exact le_i (Ref_orders_22_m hg s.2.2.1 s.2.1 s.2.2.2) (le_r _)
def Ref_orders_22_P (s : (Nat × Int32 × Nat × am_H)) (r : (Int32 × am_H)) : Prop := (s.1 = 22 → Sx 92 mX12_orders 22 [.ref s.2.2.1, .int s.2.1, .retAddr 0, .retAddr 0, .retAddr 0] [] s.2.2.2 (some (.int r.1)) r.2) ∧ True
set_option maxHeartbeats 1000000 in
set_option maxRecDepth 100000 in
theorem Ref_orders_22_t {g : (Nat × Int32 × Nat × am_H) → Option (Int32 × am_H)} (hg : ∀ s r, g s = some r → Ref_orders_22_P s r) {v0 : Nat} {v1 : Int32} {h : am_H} {r : (Int32 × am_H)} (hb : Ref_orders_22_b g v0 v1 h = some r) : Sx 92 mX12_orders 22 [.ref v0, .int v1, .retAddr 0, .retAddr 0, .retAddr 0] [] h (some (.int r.1)) r.2 := by
  unfold Ref_orders_22_b at hb
  refine Sx.o (fun _ _ _ k => ex_iload_n dX12_orders_22 rfl k) ?_
  refine Sx.o (fun _ _ _ k => op_bipush (97 : Int32) dX12_orders_23 (by decide) k) ?_
  refine Sx.b (fun _ _ _ k1 k2 => ex_icmp_ge 46 dX12_orders_25 (by decide) k1 k2) (fun q => ?_) (fun q => ?_)
  · have hb92 := ip q hb
    refine Sx.o (fun _ _ _ k => op_iconst (0 : Int32) dX12_orders_46 (by decide) k) ?_
    refine Sx.o (L' := [.ref v0, .int (0 : Int32), .retAddr 0, .retAddr 0, .retAddr 0]) (fun _ _ _ k => ex_istore_n dX12_orders_47 (by decide) k) ?_
    exact Ref_orders_48_s hb92
  · have hb93 := iq q hb
    refine Sx.o (fun _ _ _ k => ex_aload_n dX12_orders_28 rfl rfl k) ?_
    obtain ⟨x94, e_x94, hb95⟩ := ob2 hb93
    refine Sx.o (fun _ _ _ k => op_getR fX12_34 dX12_orders_29 e_x94 k) ?_
    refine Sx.o (fun _ _ _ k => ex_iload_n dX12_orders_32 rfl k) ?_
    refine Sx.o (fun _ _ _ k => ex_aload_n dX12_orders_33 rfl rfl k) ?_
    obtain ⟨x96, e_x96, hb97⟩ := ob2 hb95
    refine Sx.o (fun _ _ _ k => op_getR fX12_24 dX12_orders_34 e_x96 k) ?_
    refine Sx.o (fun _ _ _ k => ex_iload_n dX12_orders_37 rfl k) ?_
    obtain ⟨x98, e_x98, hb99⟩ := ob2 hb97
    refine Sx.o (fun _ _ _ k => op_iald dX12_orders_38 e_x98 k) ?_
    obtain ⟨h100, e_h100, hb101⟩ := ob2 hb99
    refine Sx.p (sI_q e_h100) (fun _ _ _ k => op_iast dX12_orders_39 e_h100 k) ?_
    refine Sx.o (L' := [.ref v0, .int (v1 + (1 : Int32)), .retAddr 0, .retAddr 0, .retAddr 0]) (fun _ _ _ k => op_iinc (1 : Int32) dX12_orders_40 (by decide) rfl (by decide) k) ?_
    refine Sx.o (fun _ _ _ k => ex_goto 22 dX12_orders_43 (by decide) k) ?_
    exact (hg _ _ hb101).1 rfl
theorem Ref_orders_22_T : ∀ s r, fx Ref_orders_22_F Ref_orders_22_M s = some r → Ref_orders_22_P s r := fx_ind Ref_orders_22_M Ref_orders_22_P (fun g hg s r hb => by
  unfold Ref_orders_22_F at hb
  exact ⟨fun q => Ref_orders_22_t hg (ip q hb), trivial⟩)
set_option maxHeartbeats 1000000 in
set_option maxRecDepth 100000 in
theorem Ref_orders_22_r {g : (Nat × Int32 × Nat × am_H) → Option (Int32 × am_H)} (hg : ∀ s r, g s = some r → Eqs s.2.2.2 r.2) {v0 : Nat} {v1 : Int32} {h : am_H} {r : (Int32 × am_H)} (hb : Ref_orders_22_b g v0 v1 h = some r) : Eqs h r.2 := by
  unfold Ref_orders_22_b at hb
  have w0 := Eqs.rf h
  by_cases q : (97 : Int32) ≤ v1
  · have hb92 := ip q hb
    exact w0.tr (Ref_orders_48_q hb92)
  · have hb93 := iq q hb
    obtain ⟨x94, e_x94, hb95⟩ := ob2 hb93
    obtain ⟨x96, e_x96, hb97⟩ := ob2 hb95
    obtain ⟨x98, e_x98, hb99⟩ := ob2 hb97
    obtain ⟨h100, e_h100, hb101⟩ := ob2 hb99
    have w102 := w0.tr (sI_q e_h100)
    exact w102.tr (hg _ _ hb101)
theorem Ref_orders_22_Q : ∀ s r, fx Ref_orders_22_F Ref_orders_22_M s = some r → Eqs s.2.2.2 r.2 := fx_ind Ref_orders_22_M (fun s r => Eqs s.2.2.2 r.2) (fun g hg s r hb => by
  unfold Ref_orders_22_F at hb
  by_cases q0 : s.1 = 22
  · exact Ref_orders_22_r hg (ip q0 hb)
  · have hb0 := iq q0 hb
    exact nomatch hb0)
noncomputable def Ref_orders_22 (v0 : Nat) (v1 : Int32) (h : am_H) : Option (Int32 × am_H) := fx Ref_orders_22_F Ref_orders_22_M (22, v1, v0, h)
set_option maxHeartbeats 1000000 in
set_option maxRecDepth 100000 in
theorem Ref_orders_22_e (v0 : Nat) (v1 : Int32) (h : am_H) : Ref_orders_22 v0 v1 h = (if (97 : Int32) ≤ v1 then Ref_orders_48 v0 (0 : Int32) h else (gR h 12 v0 5).bind fun x94 => (gR h 12 v0 2).bind fun x96 => (aI h 0 x96 v1).bind fun x98 => (sI h x94 v1 x98).bind fun h100 => Ref_orders_22 v0 (v1 + (1 : Int32)) h100) := (fx_eq Ref_orders_22_M (22, v1, v0, h)).trans (if_pos rfl)
theorem Ref_orders_22_q {v0 : Nat} {v1 : Int32} {h : am_H} {r : (Int32 × am_H)} (hb : Ref_orders_22 v0 v1 h = some r) : Eqs h r.2 := Ref_orders_22_Q _ _ hb
theorem Ref_orders_22_s {v0 : Nat} {v1 : Int32} {h : am_H} {r : (Int32 × am_H)} (hb : Ref_orders_22 v0 v1 h = some r) : Sx 92 mX12_orders 22 [.ref v0, .int v1, .retAddr 0, .retAddr 0, .retAddr 0] [] h (some (.int r.1)) r.2 := (Ref_orders_22_T _ _ hb).1 rfl
set_option maxHeartbeats 1000000 in
set_option maxRecDepth 100000 in
noncomputable def Ref_orders (v0 : Nat) (h : am_H) : Option (Int32 × am_H) := if isO h 12 v0 = true then (pV h 12 v0 46 (.int (-1 : Int32))).bind fun h103 => (Ref_readsAs v0 (1 : Int32) h103).bind fun r106 => if r106.1 = (0 : Int32) then (Ref_refuses v0 (-6 : Int32) r106.2).bind fun r111 => some (r111.1, r111.2) else Ref_orders_22 v0 (0 : Int32) r106.2 else none
set_option maxHeartbeats 1000000 in
set_option maxRecDepth 100000 in
theorem Ref_orders_s {v0 : Nat} {h : am_H} {r : (Int32 × am_H)} (hb : Ref_orders v0 h = some r) : Sx 92 mX12_orders 0 (am_en [.ref v0] 5) [] h (some (.int r.1)) r.2 := by
  unfold Ref_orders at hb
  have hb := (iz hb).2
  show Sx 92 mX12_orders 0 [.ref v0, .retAddr 0, .retAddr 0, .retAddr 0, .retAddr 0] [] h (some (.int r.1)) r.2
  refine Sx.o (fun _ _ _ k => ex_aload_n dX12_orders_0 rfl rfl k) ?_
  refine Sx.o (fun _ _ _ k => op_iconst (-1 : Int32) dX12_orders_1 (by decide) k) ?_
  obtain ⟨h103, e_h103, hb104⟩ := ob2 hb
  refine Sx.p (pV_q e_h103) (fun _ _ _ k => op_put pX12_89 dX12_orders_2 e_h103 (fun _ => rfl) (fun _ => rfl) k) ?_
  refine Sx.o (fun _ _ _ k => ex_aload_n dX12_orders_5 rfl rfl k) ?_
  refine Sx.o (fun _ _ _ k => op_iconst (1 : Int32) dX12_orders_6 (by decide) k) ?_
  obtain ⟨r106, e_r106, hb107⟩ := ob2 hb104
  refine sx_callV (dc := 88) (as := [.int (1 : Int32)]) (stq := [.int r106.1]) (by omega) dX12_orders_7 MX12_readsAs kX12_246 iX12_readsAs sX12_readsAs rfl rfl (Ref_readsAs_o e_r106) rfl rfl (Nat.le_of_ble_eq_true rfl) (Nat.le_of_ble_eq_true rfl) (Ref_readsAs_s e_r106) rfl ?_
  refine Sx.bn (fun _ _ _ k1 k2 => ex_if_ne 20 dX12_orders_10 (by decide) k1 k2) (fun q => ?_) (fun q => ?_)
  · have hb109 := iq q hb107
    refine Sx.o (fun _ _ _ k => op_iconst (0 : Int32) dX12_orders_20 (by decide) k) ?_
    refine Sx.o (L' := [.ref v0, .int (0 : Int32), .retAddr 0, .retAddr 0, .retAddr 0]) (fun _ _ _ k => ex_istore_n dX12_orders_21 (by decide) k) ?_
    exact Ref_orders_22_s hb109
  · have hb110 := ip q hb107
    refine Sx.o (fun _ _ _ k => ex_aload_n dX12_orders_13 rfl rfl k) ?_
    refine Sx.o (fun _ _ _ k => op_bipush (-6 : Int32) dX12_orders_14 (by decide) k) ?_
    obtain ⟨r111, e_r111, hb112⟩ := ob2 hb110
    refine sx_callV (dc := 0) (as := [.int (-6 : Int32)]) (stq := [.int r111.1]) (by omega) dX12_orders_16 MX12_refuses kX12_106 iX12_refuses sX12_refuses rfl rfl (Ref_refuses_o e_r111) rfl rfl (Nat.le_of_ble_eq_true rfl) (Nat.le_of_ble_eq_true rfl) (Ref_refuses_s e_r111) rfl ?_
    obtain rfl := Option.some.inj hb112
    exact Sx.r (fun _ _ _ k => ex_iret rfl dX12_orders_19 k)
set_option maxHeartbeats 1000000 in
set_option maxRecDepth 100000 in
theorem Ref_orders_q {v0 : Nat} {h : am_H} {r : (Int32 × am_H)} (hb : Ref_orders v0 h = some r) : Eqs h r.2 := by
  unfold Ref_orders at hb
  have hb := (iz hb).2
  have w0 := Eqs.rf h
  obtain ⟨h103, e_h103, hb104⟩ := ob2 hb
  have w105 := w0.tr (pV_q e_h103)
  obtain ⟨r106, e_r106, hb107⟩ := ob2 hb104
  have w108 := w105.tr (Ref_readsAs_q e_r106)
  by_cases q : r106.1 = (0 : Int32)
  · have hb110 := ip q hb107
    obtain ⟨r111, e_r111, hb112⟩ := ob2 hb110
    have w113 := w108.tr (Ref_refuses_q e_r111)
    obtain rfl := Option.some.inj hb112
    exact w113
  · have hb109 := iq q hb107
    exact w108.tr (Ref_orders_22_q hb109)
theorem Ref_orders_o {v0 : Nat} {h : am_H} {r : (Int32 × am_H)} (hb : Ref_orders v0 h = some r) : isO h 12 v0 = true := by
  unfold Ref_orders at hb
  exact (iz hb).1
set_option maxHeartbeats 1000000 in
set_option maxRecDepth 100000 in
noncomputable def Ref_race (v0 : Nat) (v1 : Int32) (v2 : Int32) (h : am_H) : Option (Int32 × am_H) := if isO h 12 v0 = true then (Ref_isHeap v0 v1 h).bind fun x1 => if x1 = (0 : Int32) then some ((-1 : Int32), h) else (Ref_isHeap v0 v2 h).bind fun x5 => if x5 = (0 : Int32) then some ((-1 : Int32), h) else (Ref_takes v0 v1 h).bind fun h9 => (Ref_endsBehind v0 h9).bind fun r12 => (Ref_takes v0 v2 r12.2).bind fun h15 => (Ref_endsBehind v0 h15).bind fun r18 => if r12.1 = r18.1 then if r12.1 = (-1 : Int32) then some ((-1 : Int32), r18.2) else some ((2 : Int32), r18.2) else if r12.1 = (-1 : Int32) then some ((1 : Int32), r18.2) else if r18.1 = (-1 : Int32) then some ((0 : Int32), r18.2) else if r18.1 ≤ r12.1 then some ((1 : Int32), r18.2) else some ((0 : Int32), r18.2) else none
set_option maxHeartbeats 1000000 in
set_option maxRecDepth 100000 in
theorem Ref_race_s {v0 : Nat} {v1 : Int32} {v2 : Int32} {h : am_H} {r : (Int32 × am_H)} (hb : Ref_race v0 v1 v2 h = some r) : Sx 89 mX12_race 0 (am_en [.ref v0, .int v1, .int v2] 5) [] h (some (.int r.1)) r.2 := by
  unfold Ref_race at hb
  have hb := (iz hb).2
  show Sx 89 mX12_race 0 [.ref v0, .int v1, .int v2, .retAddr 0, .retAddr 0] [] h (some (.int r.1)) r.2
  refine Sx.o (fun _ _ _ k => ex_aload_n dX12_race_0 rfl rfl k) ?_
  refine Sx.o (fun _ _ _ k => ex_iload_n dX12_race_1 rfl k) ?_
  obtain ⟨x1, e_x1, hb2⟩ := ob2 hb
  refine sx_callV (dc := 1) (as := [.int v1]) (stq := [.int x1]) (by omega) dX12_race_2 MX12_isHeap kX12_122 iX12_isHeap sX12_isHeap rfl rfl (Ref_isHeap_o e_x1) rfl rfl (Nat.le_of_ble_eq_true rfl) (Nat.le_of_ble_eq_true rfl) (Ref_isHeap_s e_x1) rfl ?_
  refine Sx.b (fun _ _ _ k1 k2 => ex_if_eq 16 dX12_race_5 (by decide) k1 k2) (fun q => ?_) (fun q => ?_)
  · have hb3 := ip q hb2
    refine Sx.o (fun _ _ _ k => op_iconst (-1 : Int32) dX12_race_16 (by decide) k) ?_
    obtain rfl := Option.some.inj hb3
    exact Sx.r (fun _ _ _ k => ex_iret rfl dX12_race_17 k)
  · have hb4 := iq q hb2
    refine Sx.o (fun _ _ _ k => ex_aload_n dX12_race_8 rfl rfl k) ?_
    refine Sx.o (fun _ _ _ k => ex_iload_n dX12_race_9 rfl k) ?_
    obtain ⟨x5, e_x5, hb6⟩ := ob2 hb4
    refine sx_callV (dc := 1) (as := [.int v2]) (stq := [.int x5]) (by omega) dX12_race_10 MX12_isHeap kX12_122 iX12_isHeap sX12_isHeap rfl rfl (Ref_isHeap_o e_x5) rfl rfl (Nat.le_of_ble_eq_true rfl) (Nat.le_of_ble_eq_true rfl) (Ref_isHeap_s e_x5) rfl ?_
    refine Sx.bn (fun _ _ _ k1 k2 => ex_if_ne 18 dX12_race_13 (by decide) k1 k2) (fun q => ?_) (fun q => ?_)
    · have hb7 := iq q hb6
      refine Sx.o (fun _ _ _ k => ex_aload_n dX12_race_18 rfl rfl k) ?_
      refine Sx.o (fun _ _ _ k => ex_iload_n dX12_race_19 rfl k) ?_
      obtain ⟨h9, e_h9, hb10⟩ := ob2 hb7
      refine sx_callV (dc := 2) (as := [.int v1]) (stq := []) (by omega) dX12_race_20 MX12_takes kX12_126 iX12_takes sX12_takes rfl rfl (Ref_takes_o e_h9) rfl rfl (Nat.le_of_ble_eq_true rfl) (Nat.le_of_ble_eq_true rfl) (Ref_takes_s e_h9) rfl ?_
      refine Sx.o (fun _ _ _ k => ex_aload_n dX12_race_23 rfl rfl k) ?_
      obtain ⟨r12, e_r12, hb13⟩ := ob2 hb10
      refine sx_callV (dc := 88) (as := []) (stq := [.int r12.1]) (by omega) dX12_race_24 MX12_endsBehind kX12_353 iX12_endsBehind sX12_endsBehind rfl rfl (Ref_endsBehind_o e_r12) rfl rfl (Nat.le_of_ble_eq_true rfl) (Nat.le_of_ble_eq_true rfl) (Ref_endsBehind_s e_r12) rfl ?_
      refine Sx.o (L' := [.ref v0, .int v1, .int v2, .int r12.1, .retAddr 0]) (fun _ _ _ k => ex_istore_n dX12_race_27 (by decide) k) ?_
      refine Sx.o (fun _ _ _ k => ex_aload_n dX12_race_28 rfl rfl k) ?_
      refine Sx.o (fun _ _ _ k => ex_iload_n dX12_race_29 rfl k) ?_
      obtain ⟨h15, e_h15, hb16⟩ := ob2 hb13
      refine sx_callV (dc := 2) (as := [.int v2]) (stq := []) (by omega) dX12_race_30 MX12_takes kX12_126 iX12_takes sX12_takes rfl rfl (Ref_takes_o e_h15) rfl rfl (Nat.le_of_ble_eq_true rfl) (Nat.le_of_ble_eq_true rfl) (Ref_takes_s e_h15) rfl ?_
      refine Sx.o (fun _ _ _ k => ex_aload_n dX12_race_33 rfl rfl k) ?_
      obtain ⟨r18, e_r18, hb19⟩ := ob2 hb16
      refine sx_callV (dc := 88) (as := []) (stq := [.int r18.1]) (by omega) dX12_race_34 MX12_endsBehind kX12_353 iX12_endsBehind sX12_endsBehind rfl rfl (Ref_endsBehind_o e_r18) rfl rfl (Nat.le_of_ble_eq_true rfl) (Nat.le_of_ble_eq_true rfl) (Ref_endsBehind_s e_r18) rfl ?_
      refine Sx.o (L' := [.ref v0, .int v1, .int v2, .int r12.1, .int r18.1]) (fun _ _ _ k => ex_istore dX12_race_37 (by decide) k) ?_
      refine Sx.o (fun _ _ _ k => ex_iload_n dX12_race_39 rfl k) ?_
      refine Sx.o (fun _ _ _ k => ex_iload dX12_race_40 rfl k) ?_
      refine Sx.bn (fun _ _ _ k1 k2 => ex_icmp_ne 56 dX12_race_42 (by decide) k1 k2) (fun q => ?_) (fun q => ?_)
      · have hb21 := iq q hb19
        refine Sx.o (fun _ _ _ k => ex_iload_n dX12_race_56 rfl k) ?_
        refine Sx.o (fun _ _ _ k => op_iconst (-1 : Int32) dX12_race_57 (by decide) k) ?_
        refine Sx.bn (fun _ _ _ k1 k2 => ex_icmp_ne 63 dX12_race_58 (by decide) k1 k2) (fun q => ?_) (fun q => ?_)
        · have hb23 := iq q hb21
          refine Sx.o (fun _ _ _ k => ex_iload dX12_race_63 rfl k) ?_
          refine Sx.o (fun _ _ _ k => op_iconst (-1 : Int32) dX12_race_65 (by decide) k) ?_
          refine Sx.bn (fun _ _ _ k1 k2 => ex_icmp_ne 71 dX12_race_66 (by decide) k1 k2) (fun q => ?_) (fun q => ?_)
          · have hb25 := iq q hb23
            refine Sx.o (fun _ _ _ k => ex_iload_n dX12_race_71 rfl k) ?_
            refine Sx.o (fun _ _ _ k => ex_iload dX12_race_72 rfl k) ?_
            refine Sx.b (fun _ _ _ k1 k2 => ex_icmp_ge 81 dX12_race_74 (by decide) k1 k2) (fun q => ?_) (fun q => ?_)
            · have hb27 := ip q hb25
              refine Sx.o (fun _ _ _ k => op_iconst (1 : Int32) dX12_race_81 (by decide) k) ?_
              obtain rfl := Option.some.inj hb27
              exact Sx.r (fun _ _ _ k => ex_iret rfl dX12_race_82 k)
            · have hb28 := iq q hb25
              refine Sx.o (fun _ _ _ k => op_iconst (0 : Int32) dX12_race_77 (by decide) k) ?_
              refine Sx.o (fun _ _ _ k => ex_goto 82 dX12_race_78 (by decide) k) ?_
              obtain rfl := Option.some.inj hb28
              exact Sx.r (fun _ _ _ k => ex_iret rfl dX12_race_82 k)
          · have hb26 := ip q hb23
            refine Sx.o (fun _ _ _ k => op_iconst (0 : Int32) dX12_race_69 (by decide) k) ?_
            obtain rfl := Option.some.inj hb26
            exact Sx.r (fun _ _ _ k => ex_iret rfl dX12_race_70 k)
        · have hb24 := ip q hb21
          refine Sx.o (fun _ _ _ k => op_iconst (1 : Int32) dX12_race_61 (by decide) k) ?_
          obtain rfl := Option.some.inj hb24
          exact Sx.r (fun _ _ _ k => ex_iret rfl dX12_race_62 k)
      · have hb22 := ip q hb19
        refine Sx.o (fun _ _ _ k => ex_iload_n dX12_race_45 rfl k) ?_
        refine Sx.o (fun _ _ _ k => op_iconst (-1 : Int32) dX12_race_46 (by decide) k) ?_
        refine Sx.bn (fun _ _ _ k1 k2 => ex_icmp_ne 54 dX12_race_47 (by decide) k1 k2) (fun q => ?_) (fun q => ?_)
        · have hb29 := iq q hb22
          refine Sx.o (fun _ _ _ k => op_iconst (2 : Int32) dX12_race_54 (by decide) k) ?_
          obtain rfl := Option.some.inj hb29
          exact Sx.r (fun _ _ _ k => ex_iret rfl dX12_race_55 k)
        · have hb30 := ip q hb22
          refine Sx.o (fun _ _ _ k => op_iconst (-1 : Int32) dX12_race_50 (by decide) k) ?_
          refine Sx.o (fun _ _ _ k => ex_goto 55 dX12_race_51 (by decide) k) ?_
          obtain rfl := Option.some.inj hb30
          exact Sx.r (fun _ _ _ k => ex_iret rfl dX12_race_55 k)
    · have hb8 := ip q hb6
      refine Sx.o (fun _ _ _ k => op_iconst (-1 : Int32) dX12_race_16 (by decide) k) ?_
      obtain rfl := Option.some.inj hb8
      exact Sx.r (fun _ _ _ k => ex_iret rfl dX12_race_17 k)
set_option maxHeartbeats 1000000 in
set_option maxRecDepth 100000 in
theorem Ref_race_q {v0 : Nat} {v1 : Int32} {v2 : Int32} {h : am_H} {r : (Int32 × am_H)} (hb : Ref_race v0 v1 v2 h = some r) : Eqs h r.2 := by
  unfold Ref_race at hb
  have hb := (iz hb).2
  have w0 := Eqs.rf h
  obtain ⟨x1, e_x1, hb2⟩ := ob2 hb
  by_cases q : x1 = (0 : Int32)
  · have hb3 := ip q hb2
    obtain rfl := Option.some.inj hb3
    exact w0
  · have hb4 := iq q hb2
    obtain ⟨x5, e_x5, hb6⟩ := ob2 hb4
    by_cases q : x5 = (0 : Int32)
    · have hb8 := ip q hb6
      obtain rfl := Option.some.inj hb8
      exact w0
    · have hb7 := iq q hb6
      obtain ⟨h9, e_h9, hb10⟩ := ob2 hb7
      have w11 := w0.tr (Ref_takes_q e_h9)
      obtain ⟨r12, e_r12, hb13⟩ := ob2 hb10
      have w14 := w11.tr (Ref_endsBehind_q e_r12)
      obtain ⟨h15, e_h15, hb16⟩ := ob2 hb13
      have w17 := w14.tr (Ref_takes_q e_h15)
      obtain ⟨r18, e_r18, hb19⟩ := ob2 hb16
      have w20 := w17.tr (Ref_endsBehind_q e_r18)
      by_cases q : r12.1 = r18.1
      · have hb22 := ip q hb19
        by_cases q : r12.1 = (-1 : Int32)
        · have hb30 := ip q hb22
          obtain rfl := Option.some.inj hb30
          exact w20
        · have hb29 := iq q hb22
          obtain rfl := Option.some.inj hb29
          exact w20
      · have hb21 := iq q hb19
        by_cases q : r12.1 = (-1 : Int32)
        · have hb24 := ip q hb21
          obtain rfl := Option.some.inj hb24
          exact w20
        · have hb23 := iq q hb21
          by_cases q : r18.1 = (-1 : Int32)
          · have hb26 := ip q hb23
            obtain rfl := Option.some.inj hb26
            exact w20
          · have hb25 := iq q hb23
            by_cases q : r18.1 ≤ r12.1
            · have hb27 := ip q hb25
              obtain rfl := Option.some.inj hb27
              exact w20
            · have hb28 := iq q hb25
              obtain rfl := Option.some.inj hb28
              exact w20
theorem Ref_race_o {v0 : Nat} {v1 : Int32} {v2 : Int32} {h : am_H} {r : (Int32 × am_H)} (hb : Ref_race v0 v1 v2 h = some r) : isO h 12 v0 = true := by
  unfold Ref_race at hb
  exact (iz hb).1
set_option maxHeartbeats 1000000 in
set_option maxRecDepth 100000 in
noncomputable def Ref_sight_20 (v0 : Nat) (h : am_H) : Option (Int32 × am_H) := (Ref_refuses v0 (-1 : Int32) h).bind fun r1 => some (r1.1, r1.2)
set_option maxHeartbeats 1000000 in
set_option maxRecDepth 100000 in
theorem Ref_sight_20_s {v0 : Nat} {h : am_H} {r : (Int32 × am_H)} (hb : Ref_sight_20 v0 h = some r) : Sx 1 mX12_sight 20 [.ref v0, .retAddr 0, .retAddr 0, .retAddr 0] [] h (some (.int r.1)) r.2 := by
  unfold Ref_sight_20 at hb
  refine Sx.o (fun _ _ _ k => ex_aload_n dX12_sight_20 rfl rfl k) ?_
  refine Sx.o (fun _ _ _ k => op_iconst (-1 : Int32) dX12_sight_21 (by decide) k) ?_
  obtain ⟨r1, e_r1, hb2⟩ := ob2 hb
  refine sx_callV (dc := 0) (as := [.int (-1 : Int32)]) (stq := [.int r1.1]) (by omega) dX12_sight_22 MX12_refuses kX12_106 iX12_refuses sX12_refuses rfl rfl (Ref_refuses_o e_r1) rfl rfl (Nat.le_of_ble_eq_true rfl) (Nat.le_of_ble_eq_true rfl) (Ref_refuses_s e_r1) rfl ?_
  obtain rfl := Option.some.inj hb2
  exact Sx.r (fun _ _ _ k => ex_iret rfl dX12_sight_25 k)
set_option maxHeartbeats 1000000 in
set_option maxRecDepth 100000 in
theorem Ref_sight_20_q {v0 : Nat} {h : am_H} {r : (Int32 × am_H)} (hb : Ref_sight_20 v0 h = some r) : Eqs h r.2 := by
  unfold Ref_sight_20 at hb
  have w0 := Eqs.rf h
  obtain ⟨r1, e_r1, hb2⟩ := ob2 hb
  have w3 := w0.tr (Ref_refuses_q e_r1)
  obtain rfl := Option.some.inj hb2
  exact w3
set_option maxHeartbeats 1000000 in
set_option maxRecDepth 100000 in
noncomputable def Ref_sight (v0 : Nat) (v1 : Int32) (v2 : Int32) (h : am_H) : Option (Int32 × am_H) := if isO h 12 v0 = true then (Ref_lies v1 (0 : Int32) (99 : Int32) h).bind fun x4 => if x4 = (0 : Int32) then Ref_sight_20 v0 h else (Ref_lies v2 (0 : Int32) (13 : Int32) h).bind fun x8 => if x8 = (0 : Int32) then Ref_sight_20 v0 h else (gR h 12 v0 2).bind fun x12 => (aI h 0 x12 (115 : Int32)).bind fun x14 => if x14 = (8 : Int32) then (Ref_refuses v0 (-5 : Int32) h).bind fun r38 => some (r38.1, r38.2) else (gR h 12 v0 2).bind fun x18 => (sI h x18 ((97 : Int32) + ((2 : Int32) * x14)) v1).bind fun h20 => (gR h20 12 v0 2).bind fun x23 => (sI h20 x23 (((97 : Int32) + ((2 : Int32) * x14)) + (1 : Int32)) v2).bind fun h25 => (gR h25 12 v0 2).bind fun x28 => (aI h25 0 x28 (115 : Int32)).bind fun x30 => (sI h25 x28 (115 : Int32) (x30 + (1 : Int32))).bind fun h32 => (Ref_good v0 (x14 + (1 : Int32)) h32).bind fun r35 => some (r35.1, r35.2) else none
set_option maxHeartbeats 1000000 in
set_option maxRecDepth 100000 in
theorem Ref_sight_s {v0 : Nat} {v1 : Int32} {v2 : Int32} {h : am_H} {r : (Int32 × am_H)} (hb : Ref_sight v0 v1 v2 h = some r) : Sx 1 mX12_sight 0 (am_en [.ref v0, .int v1, .int v2] 4) [] h (some (.int r.1)) r.2 := by
  unfold Ref_sight at hb
  have hb := (iz hb).2
  show Sx 1 mX12_sight 0 [.ref v0, .int v1, .int v2, .retAddr 0] [] h (some (.int r.1)) r.2
  refine Sx.o (fun _ _ _ k => ex_iload_n dX12_sight_0 rfl k) ?_
  refine Sx.o (fun _ _ _ k => op_iconst (0 : Int32) dX12_sight_1 (by decide) k) ?_
  refine Sx.o (fun _ _ _ k => op_bipush (99 : Int32) dX12_sight_2 (by decide) k) ?_
  obtain ⟨x4, e_x4, hb5⟩ := ob2 hb
  refine sx_callS (dc := 0) (as := [.int v1, .int (0 : Int32), .int (99 : Int32)]) (stq := [.int x4]) (by omega) dX12_sight_4 MX12_lies kX12_102 tX12_lies rfl rfl (Nat.le_of_ble_eq_true rfl) (Nat.le_of_ble_eq_true rfl) (Ref_lies_s e_x4) rfl ?_
  refine Sx.b (fun _ _ _ k1 k2 => ex_if_eq 20 dX12_sight_7 (by decide) k1 k2) (fun q => ?_) (fun q => ?_)
  · have hb6 := ip q hb5
    refine Sx.fg [true, false, false, true] ?_
    exact Ref_sight_20_s hb6
  · have hb7 := iq q hb5
    refine Sx.o (fun _ _ _ k => ex_iload_n dX12_sight_10 rfl k) ?_
    refine Sx.o (fun _ _ _ k => op_iconst (0 : Int32) dX12_sight_11 (by decide) k) ?_
    refine Sx.o (fun _ _ _ k => op_bipush (13 : Int32) dX12_sight_12 (by decide) k) ?_
    obtain ⟨x8, e_x8, hb9⟩ := ob2 hb7
    refine sx_callS (dc := 0) (as := [.int v2, .int (0 : Int32), .int (13 : Int32)]) (stq := [.int x8]) (by omega) dX12_sight_14 MX12_lies kX12_102 tX12_lies rfl rfl (Nat.le_of_ble_eq_true rfl) (Nat.le_of_ble_eq_true rfl) (Ref_lies_s e_x8) rfl ?_
    refine Sx.bn (fun _ _ _ k1 k2 => ex_if_ne 26 dX12_sight_17 (by decide) k1 k2) (fun q => ?_) (fun q => ?_)
    · have hb10 := iq q hb9
      refine Sx.o (fun _ _ _ k => ex_aload_n dX12_sight_26 rfl rfl k) ?_
      obtain ⟨x12, e_x12, hb13⟩ := ob2 hb10
      refine Sx.o (fun _ _ _ k => op_getR fX12_24 dX12_sight_27 e_x12 k) ?_
      refine Sx.o (fun _ _ _ k => op_bipush (115 : Int32) dX12_sight_30 (by decide) k) ?_
      obtain ⟨x14, e_x14, hb15⟩ := ob2 hb13
      refine Sx.o (fun _ _ _ k => op_iald dX12_sight_32 e_x14 k) ?_
      refine Sx.o (L' := [.ref v0, .int v1, .int v2, .int x14]) (fun _ _ _ k => ex_istore_n dX12_sight_33 (by decide) k) ?_
      refine Sx.o (fun _ _ _ k => ex_iload_n dX12_sight_34 rfl k) ?_
      refine Sx.o (fun _ _ _ k => op_bipush (8 : Int32) dX12_sight_35 (by decide) k) ?_
      refine Sx.bn (fun _ _ _ k1 k2 => ex_icmp_ne 47 dX12_sight_37 (by decide) k1 k2) (fun q => ?_) (fun q => ?_)
      · have hb16 := iq q hb15
        refine Sx.o (fun _ _ _ k => ex_aload_n dX12_sight_47 rfl rfl k) ?_
        obtain ⟨x18, e_x18, hb19⟩ := ob2 hb16
        refine Sx.o (fun _ _ _ k => op_getR fX12_24 dX12_sight_48 e_x18 k) ?_
        refine Sx.o (fun _ _ _ k => op_bipush (97 : Int32) dX12_sight_51 (by decide) k) ?_
        refine Sx.o (fun _ _ _ k => op_iconst (2 : Int32) dX12_sight_53 (by decide) k) ?_
        refine Sx.o (fun _ _ _ k => ex_iload_n dX12_sight_54 rfl k) ?_
        refine Sx.o (fun _ _ _ k => ex_imul dX12_sight_55 k) ?_
        refine Sx.o (fun _ _ _ k => ex_iadd dX12_sight_56 k) ?_
        refine Sx.o (fun _ _ _ k => ex_iload_n dX12_sight_57 rfl k) ?_
        obtain ⟨h20, e_h20, hb21⟩ := ob2 hb19
        refine Sx.p (sI_q e_h20) (fun _ _ _ k => op_iast dX12_sight_58 e_h20 k) ?_
        refine Sx.o (fun _ _ _ k => ex_aload_n dX12_sight_59 rfl rfl k) ?_
        obtain ⟨x23, e_x23, hb24⟩ := ob2 hb21
        refine Sx.o (fun _ _ _ k => op_getR fX12_24 dX12_sight_60 e_x23 k) ?_
        refine Sx.o (fun _ _ _ k => op_bipush (97 : Int32) dX12_sight_63 (by decide) k) ?_
        refine Sx.o (fun _ _ _ k => op_iconst (2 : Int32) dX12_sight_65 (by decide) k) ?_
        refine Sx.o (fun _ _ _ k => ex_iload_n dX12_sight_66 rfl k) ?_
        refine Sx.o (fun _ _ _ k => ex_imul dX12_sight_67 k) ?_
        refine Sx.o (fun _ _ _ k => ex_iadd dX12_sight_68 k) ?_
        refine Sx.o (fun _ _ _ k => op_iconst (1 : Int32) dX12_sight_69 (by decide) k) ?_
        refine Sx.o (fun _ _ _ k => ex_iadd dX12_sight_70 k) ?_
        refine Sx.o (fun _ _ _ k => ex_iload_n dX12_sight_71 rfl k) ?_
        obtain ⟨h25, e_h25, hb26⟩ := ob2 hb24
        refine Sx.p (sI_q e_h25) (fun _ _ _ k => op_iast dX12_sight_72 e_h25 k) ?_
        refine Sx.o (fun _ _ _ k => ex_aload_n dX12_sight_73 rfl rfl k) ?_
        obtain ⟨x28, e_x28, hb29⟩ := ob2 hb26
        refine Sx.o (fun _ _ _ k => op_getR fX12_24 dX12_sight_74 e_x28 k) ?_
        refine Sx.o (fun _ _ _ k => op_bipush (115 : Int32) dX12_sight_77 (by decide) k) ?_
        refine Sx.o (fun _ _ _ k => ex_dup2 dX12_sight_79 rfl rfl k) ?_
        obtain ⟨x30, e_x30, hb31⟩ := ob2 hb29
        refine Sx.o (fun _ _ _ k => op_iald dX12_sight_80 e_x30 k) ?_
        refine Sx.o (fun _ _ _ k => op_iconst (1 : Int32) dX12_sight_81 (by decide) k) ?_
        refine Sx.o (fun _ _ _ k => ex_iadd dX12_sight_82 k) ?_
        obtain ⟨h32, e_h32, hb33⟩ := ob2 hb31
        refine Sx.p (sI_q e_h32) (fun _ _ _ k => op_iast dX12_sight_83 e_h32 k) ?_
        refine Sx.o (fun _ _ _ k => ex_aload_n dX12_sight_84 rfl rfl k) ?_
        refine Sx.o (fun _ _ _ k => ex_iload_n dX12_sight_85 rfl k) ?_
        refine Sx.o (fun _ _ _ k => op_iconst (1 : Int32) dX12_sight_86 (by decide) k) ?_
        refine Sx.o (fun _ _ _ k => ex_iadd dX12_sight_87 k) ?_
        obtain ⟨r35, e_r35, hb36⟩ := ob2 hb33
        refine sx_callV (dc := 0) (as := [.int (x14 + (1 : Int32))]) (stq := [.int r35.1]) (by omega) dX12_sight_88 MX12_good kX12_14 iX12_good sX12_good rfl rfl (Ref_good_o e_r35) rfl rfl (Nat.le_of_ble_eq_true rfl) (Nat.le_of_ble_eq_true rfl) (Ref_good_s e_r35) rfl ?_
        obtain rfl := Option.some.inj hb36
        exact Sx.r (fun _ _ _ k => ex_iret rfl dX12_sight_91 k)
      · have hb17 := ip q hb15
        refine Sx.o (fun _ _ _ k => ex_aload_n dX12_sight_40 rfl rfl k) ?_
        refine Sx.o (fun _ _ _ k => op_bipush (-5 : Int32) dX12_sight_41 (by decide) k) ?_
        obtain ⟨r38, e_r38, hb39⟩ := ob2 hb17
        refine sx_callV (dc := 0) (as := [.int (-5 : Int32)]) (stq := [.int r38.1]) (by omega) dX12_sight_43 MX12_refuses kX12_106 iX12_refuses sX12_refuses rfl rfl (Ref_refuses_o e_r38) rfl rfl (Nat.le_of_ble_eq_true rfl) (Nat.le_of_ble_eq_true rfl) (Ref_refuses_s e_r38) rfl ?_
        obtain rfl := Option.some.inj hb39
        exact Sx.r (fun _ _ _ k => ex_iret rfl dX12_sight_46 k)
    · have hb11 := ip q hb9
      refine Sx.fg [true, false, false, true] ?_
      exact Ref_sight_20_s hb11
set_option maxHeartbeats 1000000 in
set_option maxRecDepth 100000 in
theorem Ref_sight_q {v0 : Nat} {v1 : Int32} {v2 : Int32} {h : am_H} {r : (Int32 × am_H)} (hb : Ref_sight v0 v1 v2 h = some r) : Eqs h r.2 := by
  unfold Ref_sight at hb
  have hb := (iz hb).2
  have w0 := Eqs.rf h
  obtain ⟨x4, e_x4, hb5⟩ := ob2 hb
  by_cases q : x4 = (0 : Int32)
  · have hb6 := ip q hb5
    exact w0.tr (Ref_sight_20_q hb6)
  · have hb7 := iq q hb5
    obtain ⟨x8, e_x8, hb9⟩ := ob2 hb7
    by_cases q : x8 = (0 : Int32)
    · have hb11 := ip q hb9
      exact w0.tr (Ref_sight_20_q hb11)
    · have hb10 := iq q hb9
      obtain ⟨x12, e_x12, hb13⟩ := ob2 hb10
      obtain ⟨x14, e_x14, hb15⟩ := ob2 hb13
      by_cases q : x14 = (8 : Int32)
      · have hb17 := ip q hb15
        obtain ⟨r38, e_r38, hb39⟩ := ob2 hb17
        have w40 := w0.tr (Ref_refuses_q e_r38)
        obtain rfl := Option.some.inj hb39
        exact w40
      · have hb16 := iq q hb15
        obtain ⟨x18, e_x18, hb19⟩ := ob2 hb16
        obtain ⟨h20, e_h20, hb21⟩ := ob2 hb19
        have w22 := w0.tr (sI_q e_h20)
        obtain ⟨x23, e_x23, hb24⟩ := ob2 hb21
        obtain ⟨h25, e_h25, hb26⟩ := ob2 hb24
        have w27 := w22.tr (sI_q e_h25)
        obtain ⟨x28, e_x28, hb29⟩ := ob2 hb26
        obtain ⟨x30, e_x30, hb31⟩ := ob2 hb29
        obtain ⟨h32, e_h32, hb33⟩ := ob2 hb31
        have w34 := w27.tr (sI_q e_h32)
        obtain ⟨r35, e_r35, hb36⟩ := ob2 hb33
        have w37 := w34.tr (Ref_good_q e_r35)
        obtain rfl := Option.some.inj hb36
        exact w37
theorem Ref_sight_o {v0 : Nat} {v1 : Int32} {v2 : Int32} {h : am_H} {r : (Int32 × am_H)} (hb : Ref_sight v0 v1 v2 h = some r) : isO h 12 v0 = true := by
  unfold Ref_sight at hb
  exact (iz hb).1
set_option maxHeartbeats 1000000 in
set_option maxRecDepth 100000 in
noncomputable def Ref_sorted_31_b (g : (Nat × Int32 × Int32 × Nat × am_H) → Option (Int32 × am_H)) (v0 : Nat) (v2 : Int32) (v3 : Int32) (h : am_H) : Option (Int32 × am_H) := (Ref_canOrder 40 v0 (0 : Int32) v3 h).bind fun r1 => if r1.1 = (0 : Int32) then g (31, v2, (v3 + (1 : Int32)), v0, r1.2) else if v2 = (0 : Int32) then some (v3, r1.2) else if v3 < v2 then some ((-1 : Int32), r1.2) else (gR r1.2 12 v0 45).bind fun x10 => (aI r1.2 0 x10 (v2 - (1 : Int32))).bind fun x12 => some (x12, r1.2)
set_option maxHeartbeats 1000000 in
set_option maxRecDepth 100000 in
theorem Ref_sorted_31_m {g g2 : (Nat × Int32 × Int32 × Nat × am_H) → Option (Int32 × am_H)} (hg : ∀ s, Le (g s) (g2 s)) (v0 : Nat) (v2 : Int32) (v3 : Int32) (h : am_H) : Le (Ref_sorted_31_b g v0 v2 v3 h) (Ref_sorted_31_b g2 v0 v2 v3 h) := by unfold Ref_sorted_31_b; exact le_b (le_r _) fun r1 => le_i (hg _) (le_r _)
noncomputable def Ref_sorted_31_F (g : (Nat × Int32 × Int32 × Nat × am_H) → Option (Int32 × am_H)) (s : (Nat × Int32 × Int32 × Nat × am_H)) : Option (Int32 × am_H) := if s.1 = 31 then Ref_sorted_31_b g s.2.2.2.1 s.2.1 s.2.2.1 s.2.2.2.2 else none
theorem Ref_sorted_31_M : Mn Ref_sorted_31_F := fun g g2 hg s => by unfold Ref_sorted_31_F; exact le_i (Ref_sorted_31_m hg s.2.2.2.1 s.2.1 s.2.2.1 s.2.2.2.2) (le_r _)
def Ref_sorted_31_P (s : (Nat × Int32 × Int32 × Nat × am_H)) (r : (Int32 × am_H)) : Prop := (s.1 = 31 → Sx 42 mX12_sorted 31 [.ref s.2.2.2.1, .retAddr 0, .int s.2.1, .int s.2.2.1] [] s.2.2.2.2 (some (.int r.1)) r.2) ∧ True
set_option maxHeartbeats 1000000 in
set_option maxRecDepth 100000 in
theorem Ref_sorted_31_t {g : (Nat × Int32 × Int32 × Nat × am_H) → Option (Int32 × am_H)} (hg : ∀ s r, g s = some r → Ref_sorted_31_P s r) {v0 : Nat} {v2 : Int32} {v3 : Int32} {h : am_H} {r : (Int32 × am_H)} (hb : Ref_sorted_31_b g v0 v2 v3 h = some r) : Sx 42 mX12_sorted 31 [.ref v0, .retAddr 0, .int v2, .int v3] [] h (some (.int r.1)) r.2 := by
  unfold Ref_sorted_31_b at hb
  refine Sx.o (fun _ _ _ k => ex_aload_n dX12_sorted_31 rfl rfl k) ?_
  refine Sx.o (fun _ _ _ k => op_iconst (0 : Int32) dX12_sorted_32 (by decide) k) ?_
  refine Sx.o (fun _ _ _ k => ex_iload_n dX12_sorted_33 rfl k) ?_
  obtain ⟨r1, e_r1, hb2⟩ := ob2 hb
  refine sx_callV (dc := (1 + 40)) (as := [.int (0 : Int32), .int v3]) (stq := [.int r1.1]) (by omega) dX12_sorted_34 MX12_canOrder kX12_428 iX12_canOrder sX12_canOrder rfl rfl (Ref_canOrder_o e_r1) rfl rfl (Nat.le_of_ble_eq_true rfl) (Nat.le_of_ble_eq_true rfl) (Ref_canOrder_s e_r1) rfl ?_
  refine Sx.bn (fun _ _ _ k1 k2 => ex_if_ne 46 dX12_sorted_37 (by decide) k1 k2) (fun q => ?_) (fun q => ?_)
  · have hb4 := iq q hb2
    refine Sx.o (fun _ _ _ k => ex_iload_n dX12_sorted_46 rfl k) ?_
    refine Sx.bn (fun _ _ _ k1 k2 => ex_if_ne 54 dX12_sorted_47 (by decide) k1 k2) (fun q => ?_) (fun q => ?_)
    · have hb6 := iq q hb4
      refine Sx.o (fun _ _ _ k => ex_iload_n dX12_sorted_54 rfl k) ?_
      refine Sx.o (fun _ _ _ k => ex_iload_n dX12_sorted_55 rfl k) ?_
      refine Sx.b (fun _ _ _ k1 k2 => ex_icmp_gt 70 dX12_sorted_56 (by decide) k1 k2) (fun q => ?_) (fun q => ?_)
      · have hb8 := ip q hb6
        refine Sx.o (fun _ _ _ k => op_iconst (-1 : Int32) dX12_sorted_70 (by decide) k) ?_
        obtain rfl := Option.some.inj hb8
        exact Sx.r (fun _ _ _ k => ex_iret rfl dX12_sorted_71 k)
      · have hb9 := iq q hb6
        refine Sx.o (fun _ _ _ k => ex_aload_n dX12_sorted_59 rfl rfl k) ?_
        obtain ⟨x10, e_x10, hb11⟩ := ob2 hb9
        refine Sx.o (fun _ _ _ k => op_getR fX12_86 dX12_sorted_60 e_x10 k) ?_
        refine Sx.o (fun _ _ _ k => ex_iload_n dX12_sorted_63 rfl k) ?_
        refine Sx.o (fun _ _ _ k => op_iconst (1 : Int32) dX12_sorted_64 (by decide) k) ?_
        refine Sx.o (fun _ _ _ k => ex_isub dX12_sorted_65 k) ?_
        obtain ⟨x12, e_x12, hb13⟩ := ob2 hb11
        refine Sx.o (fun _ _ _ k => op_iald dX12_sorted_66 e_x12 k) ?_
        refine Sx.o (fun _ _ _ k => ex_goto 71 dX12_sorted_67 (by decide) k) ?_
        obtain rfl := Option.some.inj hb13
        exact Sx.r (fun _ _ _ k => ex_iret rfl dX12_sorted_71 k)
    · have hb7 := ip q hb4
      refine Sx.o (fun _ _ _ k => ex_iload_n dX12_sorted_50 rfl k) ?_
      refine Sx.o (fun _ _ _ k => ex_goto 71 dX12_sorted_51 (by decide) k) ?_
      obtain rfl := Option.some.inj hb7
      exact Sx.r (fun _ _ _ k => ex_iret rfl dX12_sorted_71 k)
  · have hb5 := ip q hb2
    refine Sx.o (L' := [.ref v0, .retAddr 0, .int v2, .int (v3 + (1 : Int32))]) (fun _ _ _ k => op_iinc (1 : Int32) dX12_sorted_40 (by decide) rfl (by decide) k) ?_
    refine Sx.o (fun _ _ _ k => ex_goto 31 dX12_sorted_43 (by decide) k) ?_
    exact (hg _ _ hb5).1 rfl
theorem Ref_sorted_31_T : ∀ s r, fx Ref_sorted_31_F Ref_sorted_31_M s = some r → Ref_sorted_31_P s r := fx_ind Ref_sorted_31_M Ref_sorted_31_P (fun g hg s r hb => by
  unfold Ref_sorted_31_F at hb
  exact ⟨fun q => Ref_sorted_31_t hg (ip q hb), trivial⟩)
set_option maxHeartbeats 1000000 in
set_option maxRecDepth 100000 in
theorem Ref_sorted_31_r {g : (Nat × Int32 × Int32 × Nat × am_H) → Option (Int32 × am_H)} (hg : ∀ s r, g s = some r → Eqs s.2.2.2.2 r.2) {v0 : Nat} {v2 : Int32} {v3 : Int32} {h : am_H} {r : (Int32 × am_H)} (hb : Ref_sorted_31_b g v0 v2 v3 h = some r) : Eqs h r.2 := by
  unfold Ref_sorted_31_b at hb
  have w0 := Eqs.rf h
  obtain ⟨r1, e_r1, hb2⟩ := ob2 hb
  have w3 := w0.tr (Ref_canOrder_q e_r1)
  by_cases q : r1.1 = (0 : Int32)
  · have hb5 := ip q hb2
    exact w3.tr (hg _ _ hb5)
  · have hb4 := iq q hb2
    by_cases q : v2 = (0 : Int32)
    · have hb7 := ip q hb4
      obtain rfl := Option.some.inj hb7
      exact w3
    · have hb6 := iq q hb4
      by_cases q : v3 < v2
      · have hb8 := ip q hb6
        obtain rfl := Option.some.inj hb8
        exact w3
      · have hb9 := iq q hb6
        obtain ⟨x10, e_x10, hb11⟩ := ob2 hb9
        obtain ⟨x12, e_x12, hb13⟩ := ob2 hb11
        obtain rfl := Option.some.inj hb13
        exact w3
theorem Ref_sorted_31_Q : ∀ s r, fx Ref_sorted_31_F Ref_sorted_31_M s = some r → Eqs s.2.2.2.2 r.2 := fx_ind Ref_sorted_31_M (fun s r => Eqs s.2.2.2.2 r.2) (fun g hg s r hb => by
  unfold Ref_sorted_31_F at hb
  by_cases q0 : s.1 = 31
  · exact Ref_sorted_31_r hg (ip q0 hb)
  · have hb0 := iq q0 hb
    exact nomatch hb0)
noncomputable def Ref_sorted_31 (v0 : Nat) (v2 : Int32) (v3 : Int32) (h : am_H) : Option (Int32 × am_H) := fx Ref_sorted_31_F Ref_sorted_31_M (31, v2, v3, v0, h)
set_option maxHeartbeats 1000000 in
set_option maxRecDepth 100000 in
theorem Ref_sorted_31_e (v0 : Nat) (v2 : Int32) (v3 : Int32) (h : am_H) : Ref_sorted_31 v0 v2 v3 h = ((Ref_canOrder 40 v0 (0 : Int32) v3 h).bind fun r1 => if r1.1 = (0 : Int32) then Ref_sorted_31 v0 v2 (v3 + (1 : Int32)) r1.2 else if v2 = (0 : Int32) then some (v3, r1.2) else if v3 < v2 then some ((-1 : Int32), r1.2) else (gR r1.2 12 v0 45).bind fun x10 => (aI r1.2 0 x10 (v2 - (1 : Int32))).bind fun x12 => some (x12, r1.2)) := (fx_eq Ref_sorted_31_M (31, v2, v3, v0, h)).trans (if_pos rfl)
theorem Ref_sorted_31_q {v0 : Nat} {v2 : Int32} {v3 : Int32} {h : am_H} {r : (Int32 × am_H)} (hb : Ref_sorted_31 v0 v2 v3 h = some r) : Eqs h r.2 := Ref_sorted_31_Q _ _ hb
theorem Ref_sorted_31_s {v0 : Nat} {v2 : Int32} {v3 : Int32} {h : am_H} {r : (Int32 × am_H)} (hb : Ref_sorted_31 v0 v2 v3 h = some r) : Sx 42 mX12_sorted 31 [.ref v0, .retAddr 0, .int v2, .int v3] [] h (some (.int r.1)) r.2 := (Ref_sorted_31_T _ _ hb).1 rfl
set_option maxHeartbeats 1000000 in
set_option maxRecDepth 100000 in
noncomputable def Ref_sorted (v0 : Nat) (v1 : Int32) (v2 : Int32) (h : am_H) : Option (Int32 × am_H) := if isO h 12 v0 = true then (Ref_isHeap v0 v1 h).bind fun x14 => if x14 = (0 : Int32) then some ((-1 : Int32), h) else (Ref_manyIn v0 v1 h).bind fun x18 => if (7 : Int32) < x18 then some ((-1 : Int32), h) else if (0 : Int32) ≤ v2 then (Ref_takes v0 v1 h).bind fun h24 => Ref_sorted_31 v0 v2 (0 : Int32) h24 else some ((-1 : Int32), h) else none
set_option maxHeartbeats 1000000 in
set_option maxRecDepth 100000 in
theorem Ref_sorted_s {v0 : Nat} {v1 : Int32} {v2 : Int32} {h : am_H} {r : (Int32 × am_H)} (hb : Ref_sorted v0 v1 v2 h = some r) : Sx 42 mX12_sorted 0 (am_en [.ref v0, .int v1, .int v2] 4) [] h (some (.int r.1)) r.2 := by
  unfold Ref_sorted at hb
  have hb := (iz hb).2
  show Sx 42 mX12_sorted 0 [.ref v0, .int v1, .int v2, .retAddr 0] [] h (some (.int r.1)) r.2
  refine Sx.o (fun _ _ _ k => ex_aload_n dX12_sorted_0 rfl rfl k) ?_
  refine Sx.o (fun _ _ _ k => ex_iload_n dX12_sorted_1 rfl k) ?_
  obtain ⟨x14, e_x14, hb15⟩ := ob2 hb
  refine sx_callV (dc := 1) (as := [.int v1]) (stq := [.int x14]) (by omega) dX12_sorted_2 MX12_isHeap kX12_122 iX12_isHeap sX12_isHeap rfl rfl (Ref_isHeap_o e_x14) rfl rfl (Nat.le_of_ble_eq_true rfl) (Nat.le_of_ble_eq_true rfl) (Ref_isHeap_s e_x14) rfl ?_
  refine Sx.b (fun _ _ _ k1 k2 => ex_if_eq 22 dX12_sorted_5 (by decide) k1 k2) (fun q => ?_) (fun q => ?_)
  · have hb16 := ip q hb15
    refine Sx.o (fun _ _ _ k => op_iconst (-1 : Int32) dX12_sorted_22 (by decide) k) ?_
    obtain rfl := Option.some.inj hb16
    exact Sx.r (fun _ _ _ k => ex_iret rfl dX12_sorted_23 k)
  · have hb17 := iq q hb15
    refine Sx.o (fun _ _ _ k => ex_aload_n dX12_sorted_8 rfl rfl k) ?_
    refine Sx.o (fun _ _ _ k => ex_iload_n dX12_sorted_9 rfl k) ?_
    obtain ⟨x18, e_x18, hb19⟩ := ob2 hb17
    refine sx_callV (dc := 1) (as := [.int v1]) (stq := [.int x18]) (by omega) dX12_sorted_10 MX12_manyIn kX12_316 iX12_manyIn sX12_manyIn rfl rfl (Ref_manyIn_o e_x18) rfl rfl (Nat.le_of_ble_eq_true rfl) (Nat.le_of_ble_eq_true rfl) (Ref_manyIn_s e_x18) rfl ?_
    refine Sx.o (fun _ _ _ k => op_bipush (7 : Int32) dX12_sorted_13 (by decide) k) ?_
    refine Sx.b (fun _ _ _ k1 k2 => ex_icmp_gt 22 dX12_sorted_15 (by decide) k1 k2) (fun q => ?_) (fun q => ?_)
    · have hb20 := ip q hb19
      refine Sx.o (fun _ _ _ k => op_iconst (-1 : Int32) dX12_sorted_22 (by decide) k) ?_
      obtain rfl := Option.some.inj hb20
      exact Sx.r (fun _ _ _ k => ex_iret rfl dX12_sorted_23 k)
    · have hb21 := iq q hb19
      refine Sx.o (fun _ _ _ k => ex_iload_n dX12_sorted_18 rfl k) ?_
      refine Sx.b (fun _ _ _ k1 k2 => ex_if_ge 24 dX12_sorted_19 (by decide) k1 k2) (fun q => ?_) (fun q => ?_)
      · have hb22 := ip q hb21
        refine Sx.o (fun _ _ _ k => op_iconst (0 : Int32) dX12_sorted_24 (by decide) k) ?_
        refine Sx.o (L' := [.ref v0, .int v1, .int v2, .int (0 : Int32)]) (fun _ _ _ k => ex_istore_n dX12_sorted_25 (by decide) k) ?_
        refine Sx.o (fun _ _ _ k => ex_aload_n dX12_sorted_26 rfl rfl k) ?_
        refine Sx.o (fun _ _ _ k => ex_iload_n dX12_sorted_27 rfl k) ?_
        obtain ⟨h24, e_h24, hb25⟩ := ob2 hb22
        refine sx_callV (dc := 2) (as := [.int v1]) (stq := []) (by omega) dX12_sorted_28 MX12_takes kX12_126 iX12_takes sX12_takes rfl rfl (Ref_takes_o e_h24) rfl rfl (Nat.le_of_ble_eq_true rfl) (Nat.le_of_ble_eq_true rfl) (Ref_takes_s e_h24) rfl ?_
        refine Sx.fg [true, false, true, true] ?_
        exact Ref_sorted_31_s hb25
      · have hb23 := iq q hb21
        refine Sx.o (fun _ _ _ k => op_iconst (-1 : Int32) dX12_sorted_22 (by decide) k) ?_
        obtain rfl := Option.some.inj hb23
        exact Sx.r (fun _ _ _ k => ex_iret rfl dX12_sorted_23 k)
set_option maxHeartbeats 1000000 in
set_option maxRecDepth 100000 in
theorem Ref_sorted_q {v0 : Nat} {v1 : Int32} {v2 : Int32} {h : am_H} {r : (Int32 × am_H)} (hb : Ref_sorted v0 v1 v2 h = some r) : Eqs h r.2 := by
  unfold Ref_sorted at hb
  have hb := (iz hb).2
  have w0 := Eqs.rf h
  obtain ⟨x14, e_x14, hb15⟩ := ob2 hb
  by_cases q : x14 = (0 : Int32)
  · have hb16 := ip q hb15
    obtain rfl := Option.some.inj hb16
    exact w0
  · have hb17 := iq q hb15
    obtain ⟨x18, e_x18, hb19⟩ := ob2 hb17
    by_cases q : (7 : Int32) < x18
    · have hb20 := ip q hb19
      obtain rfl := Option.some.inj hb20
      exact w0
    · have hb21 := iq q hb19
      by_cases q : (0 : Int32) ≤ v2
      · have hb22 := ip q hb21
        obtain ⟨h24, e_h24, hb25⟩ := ob2 hb22
        have w26 := w0.tr (Ref_takes_q e_h24)
        exact w26.tr (Ref_sorted_31_q hb25)
      · have hb23 := iq q hb21
        obtain rfl := Option.some.inj hb23
        exact w0
theorem Ref_sorted_o {v0 : Nat} {v1 : Int32} {v2 : Int32} {h : am_H} {r : (Int32 × am_H)} (hb : Ref_sorted v0 v1 v2 h = some r) : isO h 12 v0 = true := by
  unfold Ref_sorted at hb
  exact (iz hb).1
set_option maxHeartbeats 1000000 in
set_option maxRecDepth 100000 in
noncomputable def Ref_status (v0 : Nat) (h : am_H) : Option Int32 := if isO h 12 v0 = true then (gI h 12 v0 0).bind fun x1 => some x1 else none
set_option maxHeartbeats 1000000 in
set_option maxRecDepth 100000 in
theorem Ref_status_s {v0 : Nat} {h : am_H} {r : Int32} (hb : Ref_status v0 h = some r) : Sx 0 mX12_status 0 (am_en [.ref v0] 1) [] h (some (.int r)) h := by
  unfold Ref_status at hb
  have hb := (iz hb).2
  show Sx 0 mX12_status 0 [.ref v0] [] h (some (.int r)) h
  refine Sx.o (fun _ _ _ k => ex_aload_n dX12_status_0 rfl rfl k) ?_
  obtain ⟨x1, e_x1, hb2⟩ := ob2 hb
  refine Sx.o (fun _ _ _ k => op_getI fX12_3 dX12_status_1 e_x1 k) ?_
  obtain rfl := Option.some.inj hb2
  exact Sx.r (fun _ _ _ k => ex_iret rfl dX12_status_4 k)
theorem Ref_status_o {v0 : Nat} {h : am_H} {r : Int32} (hb : Ref_status v0 h = some r) : isO h 12 v0 = true := by
  unfold Ref_status at hb
  exact (iz hb).1
set_option maxHeartbeats 1000000 in
set_option maxRecDepth 100000 in
noncomputable def Ref_step (v0 : Nat) (v1 : Int32) (h : am_H) : Option (Int32 × am_H) := if isO h 12 v0 = true then (Ref_stepsKept v0 v1 h).bind fun r1 => (Ref_goodOr v0 r1.1 r1.2).bind fun r4 => some (r4.1, r4.2) else none
set_option maxHeartbeats 1000000 in
set_option maxRecDepth 100000 in
theorem Ref_step_s {v0 : Nat} {v1 : Int32} {h : am_H} {r : (Int32 × am_H)} (hb : Ref_step v0 v1 h = some r) : Sx 90 mX12_step 0 (am_en [.ref v0, .int v1] 2) [] h (some (.int r.1)) r.2 := by
  unfold Ref_step at hb
  have hb := (iz hb).2
  show Sx 90 mX12_step 0 [.ref v0, .int v1] [] h (some (.int r.1)) r.2
  refine Sx.o (fun _ _ _ k => ex_aload_n dX12_step_0 rfl rfl k) ?_
  refine Sx.o (fun _ _ _ k => ex_aload_n dX12_step_1 rfl rfl k) ?_
  refine Sx.o (fun _ _ _ k => ex_iload_n dX12_step_2 rfl k) ?_
  obtain ⟨r1, e_r1, hb2⟩ := ob2 hb
  refine sx_callV (dc := 89) (as := [.int v1]) (stq := [.int r1.1, .ref v0]) (by omega) dX12_step_3 MX12_stepsKept kX12_365 iX12_stepsKept sX12_stepsKept rfl rfl (Ref_stepsKept_o e_r1) rfl rfl (Nat.le_of_ble_eq_true rfl) (Nat.le_of_ble_eq_true rfl) (Ref_stepsKept_s e_r1) rfl ?_
  obtain ⟨r4, e_r4, hb5⟩ := ob2 hb2
  refine sx_callV (dc := 1) (as := [.int r1.1]) (stq := [.int r4.1]) (by omega) dX12_step_6 MX12_goodOr kX12_368 iX12_goodOr sX12_goodOr rfl rfl (Ref_goodOr_o e_r4) rfl rfl (Nat.le_of_ble_eq_true rfl) (Nat.le_of_ble_eq_true rfl) (Ref_goodOr_s e_r4) rfl ?_
  obtain rfl := Option.some.inj hb5
  exact Sx.r (fun _ _ _ k => ex_iret rfl dX12_step_9 k)
set_option maxHeartbeats 1000000 in
set_option maxRecDepth 100000 in
theorem Ref_step_q {v0 : Nat} {v1 : Int32} {h : am_H} {r : (Int32 × am_H)} (hb : Ref_step v0 v1 h = some r) : Eqs h r.2 := by
  unfold Ref_step at hb
  have hb := (iz hb).2
  have w0 := Eqs.rf h
  obtain ⟨r1, e_r1, hb2⟩ := ob2 hb
  have w3 := w0.tr (Ref_stepsKept_q e_r1)
  obtain ⟨r4, e_r4, hb5⟩ := ob2 hb2
  have w6 := w3.tr (Ref_goodOr_q e_r4)
  obtain rfl := Option.some.inj hb5
  exact w6
theorem Ref_step_o {v0 : Nat} {v1 : Int32} {h : am_H} {r : (Int32 × am_H)} (hb : Ref_step v0 v1 h = some r) : isO h 12 v0 = true := by
  unfold Ref_step at hb
  exact (iz hb).1
set_option maxHeartbeats 1000000 in
set_option maxRecDepth 100000 in
noncomputable def Ref_stopped (v0 : Nat) (h : am_H) : Option Int32 := if isO h 12 v0 = true then (gI h 12 v0 46).bind fun x1 => some x1 else none
set_option maxHeartbeats 1000000 in
set_option maxRecDepth 100000 in
theorem Ref_stopped_s {v0 : Nat} {h : am_H} {r : Int32} (hb : Ref_stopped v0 h = some r) : Sx 0 mX12_stopped 0 (am_en [.ref v0] 1) [] h (some (.int r)) h := by
  unfold Ref_stopped at hb
  have hb := (iz hb).2
  show Sx 0 mX12_stopped 0 [.ref v0] [] h (some (.int r)) h
  refine Sx.o (fun _ _ _ k => ex_aload_n dX12_stopped_0 rfl rfl k) ?_
  obtain ⟨x1, e_x1, hb2⟩ := ob2 hb
  refine Sx.o (fun _ _ _ k => op_getI fX12_89 dX12_stopped_1 e_x1 k) ?_
  obtain rfl := Option.some.inj hb2
  exact Sx.r (fun _ _ _ k => ex_iret rfl dX12_stopped_4 k)
theorem Ref_stopped_o {v0 : Nat} {h : am_H} {r : Int32} (hb : Ref_stopped v0 h = some r) : isO h 12 v0 = true := by
  unfold Ref_stopped at hb
  exact (iz hb).1
set_option maxHeartbeats 1000000 in
set_option maxRecDepth 100000 in
noncomputable def Ref_swap (v0 : Nat) (v1 : Int32) (v2 : Int32) (v3 : Int32) (h : am_H) : Option (Int32 × am_H) := if isO h 12 v0 = true then (Ref_swapsKept v0 v1 v2 v3 h).bind fun r1 => (Ref_goodOr v0 r1.1 r1.2).bind fun r4 => some (r4.1, r4.2) else none
set_option maxHeartbeats 1000000 in
set_option maxRecDepth 100000 in
theorem Ref_swap_s {v0 : Nat} {v1 : Int32} {v2 : Int32} {v3 : Int32} {h : am_H} {r : (Int32 × am_H)} (hb : Ref_swap v0 v1 v2 v3 h = some r) : Sx 3 mX12_swap 0 (am_en [.ref v0, .int v1, .int v2, .int v3] 4) [] h (some (.int r.1)) r.2 := by
  unfold Ref_swap at hb
  have hb := (iz hb).2
  show Sx 3 mX12_swap 0 [.ref v0, .int v1, .int v2, .int v3] [] h (some (.int r.1)) r.2
  refine Sx.o (fun _ _ _ k => ex_aload_n dX12_swap_0 rfl rfl k) ?_
  refine Sx.o (fun _ _ _ k => ex_aload_n dX12_swap_1 rfl rfl k) ?_
  refine Sx.o (fun _ _ _ k => ex_iload_n dX12_swap_2 rfl k) ?_
  refine Sx.o (fun _ _ _ k => ex_iload_n dX12_swap_3 rfl k) ?_
  refine Sx.o (fun _ _ _ k => ex_iload_n dX12_swap_4 rfl k) ?_
  obtain ⟨r1, e_r1, hb2⟩ := ob2 hb
  refine sx_callV (dc := 2) (as := [.int v1, .int v2, .int v3]) (stq := [.int r1.1, .ref v0]) (by omega) dX12_swap_5 MX12_swapsKept kX12_371 iX12_swapsKept sX12_swapsKept rfl rfl (Ref_swapsKept_o e_r1) rfl rfl (Nat.le_of_ble_eq_true rfl) (Nat.le_of_ble_eq_true rfl) (Ref_swapsKept_s e_r1) rfl ?_
  obtain ⟨r4, e_r4, hb5⟩ := ob2 hb2
  refine sx_callV (dc := 1) (as := [.int r1.1]) (stq := [.int r4.1]) (by omega) dX12_swap_8 MX12_goodOr kX12_368 iX12_goodOr sX12_goodOr rfl rfl (Ref_goodOr_o e_r4) rfl rfl (Nat.le_of_ble_eq_true rfl) (Nat.le_of_ble_eq_true rfl) (Ref_goodOr_s e_r4) rfl ?_
  obtain rfl := Option.some.inj hb5
  exact Sx.r (fun _ _ _ k => ex_iret rfl dX12_swap_11 k)
set_option maxHeartbeats 1000000 in
set_option maxRecDepth 100000 in
theorem Ref_swap_q {v0 : Nat} {v1 : Int32} {v2 : Int32} {v3 : Int32} {h : am_H} {r : (Int32 × am_H)} (hb : Ref_swap v0 v1 v2 v3 h = some r) : Eqs h r.2 := by
  unfold Ref_swap at hb
  have hb := (iz hb).2
  have w0 := Eqs.rf h
  obtain ⟨r1, e_r1, hb2⟩ := ob2 hb
  have w3 := w0.tr (Ref_swapsKept_q e_r1)
  obtain ⟨r4, e_r4, hb5⟩ := ob2 hb2
  have w6 := w3.tr (Ref_goodOr_q e_r4)
  obtain rfl := Option.some.inj hb5
  exact w6
theorem Ref_swap_o {v0 : Nat} {v1 : Int32} {v2 : Int32} {v3 : Int32} {h : am_H} {r : (Int32 × am_H)} (hb : Ref_swap v0 v1 v2 v3 h = some r) : isO h 12 v0 = true := by
  unfold Ref_swap at hb
  exact (iz hb).1
