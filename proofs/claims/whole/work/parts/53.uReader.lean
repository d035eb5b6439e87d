/-! Reader: its methods as functions (by wip/whole/dec.py) -/
set_option maxHeartbeats 1000000 in
set_option maxRecDepth 100000 in
noncomputable def Reader_init (v0 : Nat) (v1 : Nat) (h : am_H) : Option am_H := if isO h 3 v0 = true then (some (h ++ [.inr (9, [.null, .int 0, .int 0, .null, .null, .null, .null, .null, .int 0])])).bind fun h1 => (Text_init (List.length h) h1).bind fun h3 => (pV h3 3 v0 0 (.ref (List.length h))).bind fun h5 => (pV h5 3 v0 1 (.ref v1)).bind fun h8 => some h8 else none
set_option maxHeartbeats 1000000 in
set_option maxRecDepth 100000 in
theorem Reader_init_s {v0 : Nat} {v1 : Nat} {h : am_H} {r : am_H} (hb : Reader_init v0 v1 h = some r) : Sx 2 mX3_init 0 (am_en [.ref v0, .ref v1] 2) [] h none r := by
  unfold Reader_init at hb
  have hb := (iz hb).2
  show Sx 2 mX3_init 0 [.ref v0, .ref v1] [] h none r
  refine Sx.o (fun _ _ _ k => ex_aload_n dX3_init_0 rfl rfl k) ?_
  refine Sx.o (fun _ _ _ k => op_obj (by omega) dX3_init_1 kX3_3 (Nat.le_of_ble_eq_true rfl) k) ?_
  refine Sx.o (fun _ _ _ k => ex_aload_n dX3_init_4 rfl rfl k) ?_
  obtain ⟨h1, e_h1, hb2⟩ := ob2 hb
  have e2_h1 := Option.some.inj e_h1
  refine Sx.nw (N := 9) rfl (fun _ _ _ k => ex_new nX3_9 dX3_init_5 k) ?_
  rw [e2_h1]
  refine Sx.o (fun _ _ _ k => ex_dup dX3_init_8 rfl k) ?_
  obtain ⟨h3, e_h3, hb4⟩ := ob2 hb2
  refine sx_callI (as := []) (by omega) dX3_init_9 MX9_init rfl rfl kX3_11 iX9_init rfl rfl (Nat.le_of_ble_eq_true rfl) (Nat.le_of_ble_eq_true rfl) (Text_init_s e_h3) ?_
  obtain ⟨h5, e_h5, hb6⟩ := ob2 hb4
  refine Sx.p (pV_q e_h5) (fun _ _ _ k => op_putF pX3_12 (fun r hr => by cases hr; rfl) rfl dX3_init_12 e_h5 (fun _ => rfl) (fun _ => rfl) k) ?_
  refine Sx.o (fun _ _ _ k => ex_aload_n dX3_init_15 rfl rfl k) ?_
  refine Sx.o (fun _ _ _ k => ex_aload_n dX3_init_16 rfl rfl k) ?_
  obtain ⟨h8, e_h8, hb9⟩ := ob2 hb6
  refine Sx.p (pV_q e_h8) (fun _ _ _ k => op_putF pX3_18 (fun r hr => by cases hr; rfl) rfl dX3_init_17 e_h8 (fun _ => rfl) (fun _ => rfl) k) ?_
  obtain rfl := Option.some.inj hb9
  exact Sx.r (fun _ _ _ k => ex_vret rfl dX3_init_20 k)
theorem Reader_init_o {v0 : Nat} {v1 : Nat} {h : am_H} {r : am_H} (hb : Reader_init v0 v1 h = some r) : isO h 3 v0 = true := by
  unfold Reader_init at hb
  exact (iz hb).1
set_option maxHeartbeats 1000000 in
set_option maxRecDepth 100000 in
noncomputable def Reader_take (v0 : Nat) (v1 : Nat) (h : am_H) : Option (Int32 × am_H) := if isO h 3 v0 = true then (gR h 3 v0 1).bind fun x1 => (Tape_isWord x1 v1 h).bind fun x3 => if x3 = (0 : Int32) then some ((0 : Int32), h) else (gR h 3 v0 1).bind fun x7 => (Tape_go x7 h).bind fun h9 => some ((1 : Int32), h9) else none
set_option maxHeartbeats 1000000 in
set_option maxRecDepth 100000 in
theorem Reader_take_s {v0 : Nat} {v1 : Nat} {h : am_H} {r : (Int32 × am_H)} (hb : Reader_take v0 v1 h = some r) : Sx 6 mX3_take 0 (am_en [.ref v0, am_s v1] 2) [] h (some (.int r.1)) r.2 := by
  unfold Reader_take at hb
  have hb := (iz hb).2
  show Sx 6 mX3_take 0 [.ref v0, am_s v1] [] h (some (.int r.1)) r.2
  refine Sx.o (fun _ _ _ k => ex_aload_n dX3_take_0 rfl rfl k) ?_
  obtain ⟨x1, e_x1, hb2⟩ := ob2 hb
  refine Sx.o (fun _ _ _ k => op_getR fX3_18 dX3_take_1 e_x1 k) ?_
  refine Sx.o (fun _ _ _ k => ex_aload_n dX3_take_4 rfl rfl k) ?_
  obtain ⟨x3, e_x3, hb4⟩ := ob2 hb2
  refine sx_callV (dc := 5) (as := [am_s v1]) (stq := [.int x3]) (by omega) dX3_take_5 MX8_isWord kX3_88 iX8_isWord sX8_isWord rfl rfl (Tape_isWord_o e_x3) rfl rfl (Nat.le_of_ble_eq_true rfl) (Nat.le_of_ble_eq_true rfl) (Tape_isWord_s e_x3) rfl ?_
  refine Sx.bn (fun _ _ _ k1 k2 => ex_if_ne 13 dX3_take_8 (by decide) k1 k2) (fun q => ?_) (fun q => ?_)
  · have hb5 := iq q hb4
    refine Sx.o (fun _ _ _ k => ex_aload_n dX3_take_13 rfl rfl k) ?_
    obtain ⟨x7, e_x7, hb8⟩ := ob2 hb5
    refine Sx.o (fun _ _ _ k => op_getR fX3_18 dX3_take_14 e_x7 k) ?_
    obtain ⟨h9, e_h9, hb10⟩ := ob2 hb8
    refine sx_callV (dc := 0) (as := []) (stq := []) (by omega) dX3_take_17 MX8_go kX3_65 iX8_go sX8_go rfl rfl (Tape_go_o e_h9) rfl rfl (Nat.le_of_ble_eq_true rfl) (Nat.le_of_ble_eq_true rfl) (Tape_go_s e_h9) rfl ?_
    refine Sx.o (fun _ _ _ k => op_iconst (1 : Int32) dX3_take_20 (by decide) k) ?_
    obtain rfl := Option.some.inj hb10
    exact Sx.r (fun _ _ _ k => ex_zret rfl rfl dX3_take_21 k)
  · have hb6 := ip q hb4
    refine Sx.o (fun _ _ _ k => op_iconst (0 : Int32) dX3_take_11 (by decide) k) ?_
    obtain rfl := Option.some.inj hb6
    exact Sx.r (fun _ _ _ k => ex_zret rfl rfl dX3_take_12 k)
set_option maxHeartbeats 1000000 in
set_option maxRecDepth 100000 in
theorem Reader_take_q {v0 : Nat} {v1 : Nat} {h : am_H} {r : (Int32 × am_H)} (hb : Reader_take v0 v1 h = some r) : Eqs h r.2 := by
  unfold Reader_take at hb
  have hb := (iz hb).2
  have w0 := Eqs.rf h
  obtain ⟨x1, e_x1, hb2⟩ := ob2 hb
  obtain ⟨x3, e_x3, hb4⟩ := ob2 hb2
  by_cases q : x3 = (0 : Int32)
  · have hb6 := ip q hb4
    obtain rfl := Option.some.inj hb6
    exact w0
  · have hb5 := iq q hb4
    obtain ⟨x7, e_x7, hb8⟩ := ob2 hb5
    obtain ⟨h9, e_h9, hb10⟩ := ob2 hb8
    have w11 := w0.tr (Tape_go_q e_h9)
    obtain rfl := Option.some.inj hb10
    exact w11
theorem Reader_take_o {v0 : Nat} {v1 : Nat} {h : am_H} {r : (Int32 × am_H)} (hb : Reader_take v0 v1 h = some r) : isO h 3 v0 = true := by
  unfold Reader_take at hb
  exact (iz hb).1
set_option maxHeartbeats 1000000 in
set_option maxRecDepth 100000 in
noncomputable def Reader_comparison_53 (v0 : Nat) (v1 : Int32) (h : am_H) : Option (Int32 × am_H) := if v1 = (-1 : Int32) then some (v1, h) else (gR h 3 v0 1).bind fun x3 => (Tape_go x3 h).bind fun h5 => some (v1, h5)
set_option maxHeartbeats 1000000 in
set_option maxRecDepth 100000 in
theorem Reader_comparison_53_s {v0 : Nat} {v1 : Int32} {h : am_H} {r : (Int32 × am_H)} (hb : Reader_comparison_53 v0 v1 h = some r) : Sx 1 mX3_comparison 53 [.ref v0, .int v1] [] h (some (.int r.1)) r.2 := by
  unfold Reader_comparison_53 at hb
  refine Sx.o (fun _ _ _ k => ex_iload_n dX3_comparison_53 rfl k) ?_
  refine Sx.o (fun _ _ _ k => op_iconst (-1 : Int32) dX3_comparison_54 (by decide) k) ?_
  refine Sx.b (fun _ _ _ k1 k2 => ex_icmp_eq 65 dX3_comparison_55 (by decide) k1 k2) (fun q => ?_) (fun q => ?_)
  · have hb1 := ip q hb
    refine Sx.o (fun _ _ _ k => ex_iload_n dX3_comparison_65 rfl k) ?_
    obtain rfl := Option.some.inj hb1
    exact Sx.r (fun _ _ _ k => ex_iret rfl dX3_comparison_66 k)
  · have hb2 := iq q hb
    refine Sx.o (fun _ _ _ k => ex_aload_n dX3_comparison_58 rfl rfl k) ?_
    obtain ⟨x3, e_x3, hb4⟩ := ob2 hb2
    refine Sx.o (fun _ _ _ k => op_getR fX3_18 dX3_comparison_59 e_x3 k) ?_
    obtain ⟨h5, e_h5, hb6⟩ := ob2 hb4
    refine sx_callV (dc := 0) (as := []) (stq := []) (by omega) dX3_comparison_62 MX8_go kX3_65 iX8_go sX8_go rfl rfl (Tape_go_o e_h5) rfl rfl (Nat.le_of_ble_eq_true rfl) (Nat.le_of_ble_eq_true rfl) (Tape_go_s e_h5) rfl ?_
    refine Sx.o (fun _ _ _ k => ex_iload_n dX3_comparison_65 rfl k) ?_
    obtain rfl := Option.some.inj hb6
    exact Sx.r (fun _ _ _ k => ex_iret rfl dX3_comparison_66 k)
set_option maxHeartbeats 1000000 in
set_option maxRecDepth 100000 in
theorem Reader_comparison_53_q {v0 : Nat} {v1 : Int32} {h : am_H} {r : (Int32 × am_H)} (hb : Reader_comparison_53 v0 v1 h = some r) : Eqs h r.2 := by
  unfold Reader_comparison_53 at hb
  have w0 := Eqs.rf h
  by_cases q : v1 = (-1 : Int32)
  · have hb1 := ip q hb
    obtain rfl := Option.some.inj hb1
    exact w0
  · have hb2 := iq q hb
    obtain ⟨x3, e_x3, hb4⟩ := ob2 hb2
    obtain ⟨h5, e_h5, hb6⟩ := ob2 hb4
    have w7 := w0.tr (Tape_go_q e_h5)
    obtain rfl := Option.some.inj hb6
    exact w7
set_option maxHeartbeats 1000000 in
set_option maxRecDepth 100000 in
noncomputable def Reader_comparison (v0 : Nat) (h : am_H) : Option (Int32 × am_H) := if isO h 3 v0 = true then (gR h 3 v0 1).bind fun x8 => (Tape_isSign x8 (60 : Int32) h).bind fun x10 => if x10 = (0 : Int32) then (gR h 3 v0 1).bind fun x14 => (Tape_isSign x14 (62 : Int32) h).bind fun x16 => if x16 = (0 : Int32) then (gR h 3 v0 1).bind fun x20 => (Tape_isSign x20 (61 : Int32) h).bind fun x22 => if x22 = (0 : Int32) then Reader_comparison_53 v0 (-1 : Int32) h else Reader_comparison_53 v0 (10 : Int32) h else Reader_comparison_53 v0 (9 : Int32) h else Reader_comparison_53 v0 (8 : Int32) h else none
set_option maxHeartbeats 1000000 in
set_option maxRecDepth 100000 in
theorem Reader_comparison_s {v0 : Nat} {h : am_H} {r : (Int32 × am_H)} (hb : Reader_comparison v0 h = some r) : Sx 1 mX3_comparison 0 (am_en [.ref v0] 2) [] h (some (.int r.1)) r.2 := by
  unfold Reader_comparison at hb
  have hb := (iz hb).2
  show Sx 1 mX3_comparison 0 [.ref v0, .retAddr 0] [] h (some (.int r.1)) r.2
  refine Sx.o (fun _ _ _ k => op_iconst (-1 : Int32) dX3_comparison_0 (by decide) k) ?_
  refine Sx.o (L' := [.ref v0, .int (-1 : Int32)]) (fun _ _ _ k => ex_istore_n dX3_comparison_1 (by decide) k) ?_
  refine Sx.o (fun _ _ _ k => ex_aload_n dX3_comparison_2 rfl rfl k) ?_
  obtain ⟨x8, e_x8, hb9⟩ := ob2 hb
  refine Sx.o (fun _ _ _ k => op_getR fX3_18 dX3_comparison_3 e_x8 k) ?_
  refine Sx.o (fun _ _ _ k => op_bipush (60 : Int32) dX3_comparison_6 (by decide) k) ?_
  obtain ⟨x10, e_x10, hb11⟩ := ob2 hb9
  refine sx_callV (dc := 0) (as := [.int (60 : Int32)]) (stq := [.int x10]) (by omega) dX3_comparison_8 MX8_isSign kX3_91 iX8_isSign sX8_isSign rfl rfl (Tape_isSign_o e_x10) rfl rfl (Nat.le_of_ble_eq_true rfl) (Nat.le_of_ble_eq_true rfl) (Tape_isSign_s e_x10) rfl ?_
  refine Sx.b (fun _ _ _ k1 k2 => ex_if_eq 20 dX3_comparison_11 (by decide) k1 k2) (fun q => ?_) (fun q => ?_)
  · have hb12 := ip q hb11
    refine Sx.o (fun _ _ _ k => ex_aload_n dX3_comparison_20 rfl rfl k) ?_
    obtain ⟨x14, e_x14, hb15⟩ := ob2 hb12
    refine Sx.o (fun _ _ _ k => op_getR fX3_18 dX3_comparison_21 e_x14 k) ?_
    refine Sx.o (fun _ _ _ k => op_bipush (62 : Int32) dX3_comparison_24 (by decide) k) ?_
    obtain ⟨x16, e_x16, hb17⟩ := ob2 hb15
    refine sx_callV (dc := 0) (as := [.int (62 : Int32)]) (stq := [.int x16]) (by omega) dX3_comparison_26 MX8_isSign kX3_91 iX8_isSign sX8_isSign rfl rfl (Tape_isSign_o e_x16) rfl rfl (Nat.le_of_ble_eq_true rfl) (Nat.le_of_ble_eq_true rfl) (Tape_isSign_s e_x16) rfl ?_
    refine Sx.b (fun _ _ _ k1 k2 => ex_if_eq 38 dX3_comparison_29 (by decide) k1 k2) (fun q => ?_) (fun q => ?_)
    · have hb18 := ip q hb17
      refine Sx.o (fun _ _ _ k => ex_aload_n dX3_comparison_38 rfl rfl k) ?_
      obtain ⟨x20, e_x20, hb21⟩ := ob2 hb18
      refine Sx.o (fun _ _ _ k => op_getR fX3_18 dX3_comparison_39 e_x20 k) ?_
      refine Sx.o (fun _ _ _ k => op_bipush (61 : Int32) dX3_comparison_42 (by decide) k) ?_
      obtain ⟨x22, e_x22, hb23⟩ := ob2 hb21
      refine sx_callV (dc := 0) (as := [.int (61 : Int32)]) (stq := [.int x22]) (by omega) dX3_comparison_44 MX8_isSign kX3_91 iX8_isSign sX8_isSign rfl rfl (Tape_isSign_o e_x22) rfl rfl (Nat.le_of_ble_eq_true rfl) (Nat.le_of_ble_eq_true rfl) (Tape_isSign_s e_x22) rfl ?_
      refine Sx.b (fun _ _ _ k1 k2 => ex_if_eq 53 dX3_comparison_47 (by decide) k1 k2) (fun q => ?_) (fun q => ?_)
      · have hb24 := ip q hb23
        exact Reader_comparison_53_s hb24
      · have hb25 := iq q hb23
        refine Sx.o (fun _ _ _ k => op_bipush (10 : Int32) dX3_comparison_50 (by decide) k) ?_
        refine Sx.o (L' := [.ref v0, .int (10 : Int32)]) (fun _ _ _ k => ex_istore_n dX3_comparison_52 (by decide) k) ?_
        exact Reader_comparison_53_s hb25
    · have hb19 := iq q hb17
      refine Sx.o (fun _ _ _ k => op_bipush (9 : Int32) dX3_comparison_32 (by decide) k) ?_
      refine Sx.o (L' := [.ref v0, .int (9 : Int32)]) (fun _ _ _ k => ex_istore_n dX3_comparison_34 (by decide) k) ?_
      refine Sx.o (fun _ _ _ k => ex_goto 53 dX3_comparison_35 (by decide) k) ?_
      exact Reader_comparison_53_s hb19
  · have hb13 := iq q hb11
    refine Sx.o (fun _ _ _ k => op_bipush (8 : Int32) dX3_comparison_14 (by decide) k) ?_
    refine Sx.o (L' := [.ref v0, .int (8 : Int32)]) (fun _ _ _ k => ex_istore_n dX3_comparison_16 (by decide) k) ?_
    refine Sx.o (fun _ _ _ k => ex_goto 53 dX3_comparison_17 (by decide) k) ?_
    exact Reader_comparison_53_s hb13
set_option maxHeartbeats 1000000 in
set_option maxRecDepth 100000 in
theorem Reader_comparison_q {v0 : Nat} {h : am_H} {r : (Int32 × am_H)} (hb : Reader_comparison v0 h = some r) : Eqs h r.2 := by
  unfold Reader_comparison at hb
  have hb := (iz hb).2
  have w0 := Eqs.rf h
  obtain ⟨x8, e_x8, hb9⟩ := ob2 hb
  obtain ⟨x10, e_x10, hb11⟩ := ob2 hb9
  by_cases q : x10 = (0 : Int32)
  · have hb12 := ip q hb11
    obtain ⟨x14, e_x14, hb15⟩ := ob2 hb12
    obtain ⟨x16, e_x16, hb17⟩ := ob2 hb15
    by_cases q : x16 = (0 : Int32)
    · have hb18 := ip q hb17
      obtain ⟨x20, e_x20, hb21⟩ := ob2 hb18
      obtain ⟨x22, e_x22, hb23⟩ := ob2 hb21
      by_cases q : x22 = (0 : Int32)
      · have hb24 := ip q hb23
        exact w0.tr (Reader_comparison_53_q hb24)
      · have hb25 := iq q hb23
        exact w0.tr (Reader_comparison_53_q hb25)
    · have hb19 := iq q hb17
      exact w0.tr (Reader_comparison_53_q hb19)
  · have hb13 := iq q hb11
    exact w0.tr (Reader_comparison_53_q hb13)
theorem Reader_comparison_o {v0 : Nat} {h : am_H} {r : (Int32 × am_H)} (hb : Reader_comparison v0 h = some r) : isO h 3 v0 = true := by
  unfold Reader_comparison at hb
  exact (iz hb).1
set_option maxHeartbeats 1000000 in
set_option maxRecDepth 100000 in
noncomputable def Reader_multiplying (v0 : Nat) (h : am_H) : Option Int32 := if isO h 3 v0 = true then (gR h 3 v0 1).bind fun x1 => (Tape_isSign x1 (42 : Int32) h).bind fun x3 => if x3 = (0 : Int32) then (gR h 3 v0 1).bind fun x7 => (Tape_isSign x7 (47 : Int32) h).bind fun x9 => if x9 = (0 : Int32) then (gR h 3 v0 1).bind fun x13 => (Tape_isSign x13 (37 : Int32) h).bind fun x15 => if x15 = (0 : Int32) then some (-1 : Int32) else some (7 : Int32) else some (6 : Int32) else some (5 : Int32) else none
set_option maxHeartbeats 1000000 in
set_option maxRecDepth 100000 in
theorem Reader_multiplying_s {v0 : Nat} {h : am_H} {r : Int32} (hb : Reader_multiplying v0 h = some r) : Sx 1 mX3_multiplying 0 (am_en [.ref v0] 1) [] h (some (.int r)) h := by
  unfold Reader_multiplying at hb
  have hb := (iz hb).2
  show Sx 1 mX3_multiplying 0 [.ref v0] [] h (some (.int r)) h
  refine Sx.o (fun _ _ _ k => ex_aload_n dX3_multiplying_0 rfl rfl k) ?_
  obtain ⟨x1, e_x1, hb2⟩ := ob2 hb
  refine Sx.o (fun _ _ _ k => op_getR fX3_18 dX3_multiplying_1 e_x1 k) ?_
  refine Sx.o (fun _ _ _ k => op_bipush (42 : Int32) dX3_multiplying_4 (by decide) k) ?_
  obtain ⟨x3, e_x3, hb4⟩ := ob2 hb2
  refine sx_callV (dc := 0) (as := [.int (42 : Int32)]) (stq := [.int x3]) (by omega) dX3_multiplying_6 MX8_isSign kX3_91 iX8_isSign sX8_isSign rfl rfl (Tape_isSign_o e_x3) rfl rfl (Nat.le_of_ble_eq_true rfl) (Nat.le_of_ble_eq_true rfl) (Tape_isSign_s e_x3) rfl ?_
  refine Sx.b (fun _ _ _ k1 k2 => ex_if_eq 14 dX3_multiplying_9 (by decide) k1 k2) (fun q => ?_) (fun q => ?_)
  · have hb5 := ip q hb4
    refine Sx.o (fun _ _ _ k => ex_aload_n dX3_multiplying_14 rfl rfl k) ?_
    obtain ⟨x7, e_x7, hb8⟩ := ob2 hb5
    refine Sx.o (fun _ _ _ k => op_getR fX3_18 dX3_multiplying_15 e_x7 k) ?_
    refine Sx.o (fun _ _ _ k => op_bipush (47 : Int32) dX3_multiplying_18 (by decide) k) ?_
    obtain ⟨x9, e_x9, hb10⟩ := ob2 hb8
    refine sx_callV (dc := 0) (as := [.int (47 : Int32)]) (stq := [.int x9]) (by omega) dX3_multiplying_20 MX8_isSign kX3_91 iX8_isSign sX8_isSign rfl rfl (Tape_isSign_o e_x9) rfl rfl (Nat.le_of_ble_eq_true rfl) (Nat.le_of_ble_eq_true rfl) (Tape_isSign_s e_x9) rfl ?_
    refine Sx.b (fun _ _ _ k1 k2 => ex_if_eq 29 dX3_multiplying_23 (by decide) k1 k2) (fun q => ?_) (fun q => ?_)
    · have hb11 := ip q hb10
      refine Sx.o (fun _ _ _ k => ex_aload_n dX3_multiplying_29 rfl rfl k) ?_
      obtain ⟨x13, e_x13, hb14⟩ := ob2 hb11
      refine Sx.o (fun _ _ _ k => op_getR fX3_18 dX3_multiplying_30 e_x13 k) ?_
      refine Sx.o (fun _ _ _ k => op_bipush (37 : Int32) dX3_multiplying_33 (by decide) k) ?_
      obtain ⟨x15, e_x15, hb16⟩ := ob2 hb14
      refine sx_callV (dc := 0) (as := [.int (37 : Int32)]) (stq := [.int x15]) (by omega) dX3_multiplying_35 MX8_isSign kX3_91 iX8_isSign sX8_isSign rfl rfl (Tape_isSign_o e_x15) rfl rfl (Nat.le_of_ble_eq_true rfl) (Nat.le_of_ble_eq_true rfl) (Tape_isSign_s e_x15) rfl ?_
      refine Sx.b (fun _ _ _ k1 k2 => ex_if_eq 46 dX3_multiplying_38 (by decide) k1 k2) (fun q => ?_) (fun q => ?_)
      · have hb17 := ip q hb16
        refine Sx.o (fun _ _ _ k => op_iconst (-1 : Int32) dX3_multiplying_46 (by decide) k) ?_
        obtain rfl := Option.some.inj hb17
        exact Sx.r (fun _ _ _ k => ex_iret rfl dX3_multiplying_47 k)
      · have hb18 := iq q hb16
        refine Sx.o (fun _ _ _ k => op_bipush (7 : Int32) dX3_multiplying_41 (by decide) k) ?_
        refine Sx.o (fun _ _ _ k => ex_goto 47 dX3_multiplying_43 (by decide) k) ?_
        obtain rfl := Option.some.inj hb18
        exact Sx.r (fun _ _ _ k => ex_iret rfl dX3_multiplying_47 k)
    · have hb12 := iq q hb10
      refine Sx.o (fun _ _ _ k => op_bipush (6 : Int32) dX3_multiplying_26 (by decide) k) ?_
      obtain rfl := Option.some.inj hb12
      exact Sx.r (fun _ _ _ k => ex_iret rfl dX3_multiplying_28 k)
  · have hb6 := iq q hb4
    refine Sx.o (fun _ _ _ k => op_iconst (5 : Int32) dX3_multiplying_12 (by decide) k) ?_
    obtain rfl := Option.some.inj hb6
    exact Sx.r (fun _ _ _ k => ex_iret rfl dX3_multiplying_13 k)
theorem Reader_multiplying_o {v0 : Nat} {h : am_H} {r : Int32} (hb : Reader_multiplying v0 h = some r) : isO h 3 v0 = true := by
  unfold Reader_multiplying at hb
  exact (iz hb).1
set_option maxHeartbeats 1000000 in
set_option maxRecDepth 100000 in
noncomputable def Reader_lawWord_51 (v0 : Nat) (s0 : Int32) (s1 : Nat) (h : am_H) : Option (Int32 × am_H) := (nrZ s0).bind fun u1 => (pV h 9 s1 8 (.int s0)).bind fun h3 => (gR h3 3 v0 1).bind fun x6 => (Tape_go x6 h3).bind fun h8 => some ((1 : Int32), h8)
set_option maxHeartbeats 1000000 in
set_option maxRecDepth 100000 in
theorem Reader_lawWord_51_s {v0 : Nat} {s0 : Int32} {s1 : Nat} {h : am_H} {r : (Int32 × am_H)} (hb : Reader_lawWord_51 v0 s0 s1 h = some r) : Sx 5 mX3_lawWord 51 [.ref v0, .retAddr 0] [.int s0, .ref s1] h (some (.int r.1)) r.2 := by
  unfold Reader_lawWord_51 at hb
  obtain ⟨u1, e_u1, hb2⟩ := ob2 hb
  obtain ⟨h3, e_h3, hb4⟩ := ob2 hb2
  refine Sx.p (pV_q e_h3) (fun _ _ _ k => op_put pX3_163 dX3_lawWord_51 e_h3 (fun _ => nrZ_n e_u1) (fun _ => nrZ_f e_u1) k) ?_
  refine Sx.o (fun _ _ _ k => ex_aload_n dX3_lawWord_54 rfl rfl k) ?_
  obtain ⟨x6, e_x6, hb7⟩ := ob2 hb4
  refine Sx.o (fun _ _ _ k => op_getR fX3_18 dX3_lawWord_55 e_x6 k) ?_
  obtain ⟨h8, e_h8, hb9⟩ := ob2 hb7
  refine sx_callV (dc := 0) (as := []) (stq := []) (by omega) dX3_lawWord_58 MX8_go kX3_65 iX8_go sX8_go rfl rfl (Tape_go_o e_h8) rfl rfl (Nat.le_of_ble_eq_true rfl) (Nat.le_of_ble_eq_true rfl) (Tape_go_s e_h8) rfl ?_
  refine Sx.o (fun _ _ _ k => op_iconst (1 : Int32) dX3_lawWord_61 (by decide) k) ?_
  obtain rfl := Option.some.inj hb9
  exact Sx.r (fun _ _ _ k => ex_zret rfl rfl dX3_lawWord_62 k)
set_option maxHeartbeats 1000000 in
set_option maxRecDepth 100000 in
theorem Reader_lawWord_51_q {v0 : Nat} {s0 : Int32} {s1 : Nat} {h : am_H} {r : (Int32 × am_H)} (hb : Reader_lawWord_51 v0 s0 s1 h = some r) : Eqs h r.2 := by
  unfold Reader_lawWord_51 at hb
  have w0 := Eqs.rf h
  obtain ⟨u1, e_u1, hb2⟩ := ob2 hb
  obtain ⟨h3, e_h3, hb4⟩ := ob2 hb2
  have w5 := w0.tr (pV_q e_h3)
  obtain ⟨x6, e_x6, hb7⟩ := ob2 hb4
  obtain ⟨h8, e_h8, hb9⟩ := ob2 hb7
  have w10 := w5.tr (Tape_go_q e_h8)
  obtain rfl := Option.some.inj hb9
  exact w10
set_option maxHeartbeats 1000000 in
set_option maxRecDepth 100000 in
noncomputable def Reader_lawWord_46 (v0 : Nat) (s0 : Nat) (h : am_H) : Option (Int32 × am_H) := Reader_lawWord_51 v0 (1 : Int32) s0 h
set_option maxHeartbeats 1000000 in
set_option maxRecDepth 100000 in
theorem Reader_lawWord_46_s {v0 : Nat} {s0 : Nat} {h : am_H} {r : (Int32 × am_H)} (hb : Reader_lawWord_46 v0 s0 h = some r) : Sx 5 mX3_lawWord 46 [.ref v0, .retAddr 0] [.ref s0] h (some (.int r.1)) r.2 := by
  unfold Reader_lawWord_46 at hb
  refine Sx.o (fun _ _ _ k => op_iconst (1 : Int32) dX3_lawWord_46 (by decide) k) ?_
  refine Sx.o (fun _ _ _ k => ex_goto 51 dX3_lawWord_47 (by decide) k) ?_
  exact Reader_lawWord_51_s hb
set_option maxHeartbeats 1000000 in
set_option maxRecDepth 100000 in
theorem Reader_lawWord_46_q {v0 : Nat} {s0 : Nat} {h : am_H} {r : (Int32 × am_H)} (hb : Reader_lawWord_46 v0 s0 h = some r) : Eqs h r.2 := by
  unfold Reader_lawWord_46 at hb
  have w0 := Eqs.rf h
  exact w0.tr (Reader_lawWord_51_q hb)
set_option maxHeartbeats 1000000 in
set_option maxRecDepth 100000 in
noncomputable def Reader_lawWord (v0 : Nat) (h : am_H) : Option (Int32 × am_H) := if isO h 3 v0 = true then (gR h 3 v0 1).bind fun x11 => (Tape_among x11 2 h).bind fun x13 => if x13 = (-1 : Int32) then some ((0 : Int32), h) else (gR h 3 v0 0).bind fun x17 => (Text_add x17 (2 : Int32) x13 h).bind fun r19 => (gR r19.2 3 v0 0).bind fun x22 => (gR r19.2 3 v0 0).bind fun x24 => (gI r19.2 9 x24 8).bind fun x26 => if x26 = (0 : Int32) then if x13 = (5 : Int32) then Reader_lawWord_46 v0 x22 r19.2 else Reader_lawWord_51 v0 (0 : Int32) x22 r19.2 else Reader_lawWord_46 v0 x22 r19.2 else none
set_option maxHeartbeats 1000000 in
set_option maxRecDepth 100000 in
theorem Reader_lawWord_s {v0 : Nat} {h : am_H} {r : (Int32 × am_H)} (hb : Reader_lawWord v0 h = some r) : Sx 5 mX3_lawWord 0 (am_en [.ref v0] 2) [] h (some (.int r.1)) r.2 := by
  unfold Reader_lawWord at hb
  have hb := (iz hb).2
  show Sx 5 mX3_lawWord 0 [.ref v0, .retAddr 0] [] h (some (.int r.1)) r.2
  refine Sx.o (fun _ _ _ k => ex_aload_n dX3_lawWord_0 rfl rfl k) ?_
  obtain ⟨x11, e_x11, hb12⟩ := ob2 hb
  refine Sx.o (fun _ _ _ k => op_getR fX3_18 dX3_lawWord_1 e_x11 k) ?_
  refine Sx.o (fun _ _ _ k => ex_ldcS (tx := "top second third under many last heap mood") (i := 2) (by decide) (List.mem_of_getElem? (i := 2) rfl) dX3_lawWord_4 k) ?_
  obtain ⟨x13, e_x13, hb14⟩ := ob2 hb12
  refine sx_callV (dc := 4) (as := [am_s 2]) (stq := [.int x13]) (by omega) dX3_lawWord_6 MX8_among kX3_57 iX8_among sX8_among rfl rfl (Tape_among_o e_x13) rfl rfl (Nat.le_of_ble_eq_true rfl) (Nat.le_of_ble_eq_true rfl) (Tape_among_s e_x13) rfl ?_
  refine Sx.o (L' := [.ref v0, .int x13]) (fun _ _ _ k => ex_istore_n dX3_lawWord_9 (by decide) k) ?_
  refine Sx.o (fun _ _ _ k => ex_iload_n dX3_lawWord_10 rfl k) ?_
  refine Sx.o (fun _ _ _ k => op_iconst (-1 : Int32) dX3_lawWord_11 (by decide) k) ?_
  refine Sx.bn (fun _ _ _ k1 k2 => ex_icmp_ne 17 dX3_lawWord_12 (by decide) k1 k2) (fun q => ?_) (fun q => ?_)
  · have hb15 := iq q hb14
    refine Sx.o (fun _ _ _ k => ex_aload_n dX3_lawWord_17 rfl rfl k) ?_
    obtain ⟨x17, e_x17, hb18⟩ := ob2 hb15
    refine Sx.o (fun _ _ _ k => op_getR fX3_12 dX3_lawWord_18 e_x17 k) ?_
    refine Sx.o (fun _ _ _ k => op_iconst (2 : Int32) dX3_lawWord_21 (by decide) k) ?_
    refine Sx.o (fun _ _ _ k => ex_iload_n dX3_lawWord_22 rfl k) ?_
    obtain ⟨r19, e_r19, hb20⟩ := ob2 hb18
    refine sx_callV (dc := 0) (as := [.int (2 : Int32), .int x13]) (stq := [.int r19.1]) (by omega) dX3_lawWord_23 MX9_add kX3_111 iX9_add sX9_add rfl rfl (Text_add_o e_r19) rfl rfl (Nat.le_of_ble_eq_true rfl) (Nat.le_of_ble_eq_true rfl) (Text_add_s e_r19) rfl ?_
    refine Sx.o (fun _ _ _ k => ex_pop dX3_lawWord_26 rfl k) ?_
    refine Sx.o (fun _ _ _ k => ex_aload_n dX3_lawWord_27 rfl rfl k) ?_
    obtain ⟨x22, e_x22, hb23⟩ := ob2 hb20
    refine Sx.o (fun _ _ _ k => op_getR fX3_12 dX3_lawWord_28 e_x22 k) ?_
    refine Sx.o (fun _ _ _ k => ex_aload_n dX3_lawWord_31 rfl rfl k) ?_
    obtain ⟨x24, e_x24, hb25⟩ := ob2 hb23
    refine Sx.o (fun _ _ _ k => op_getR fX3_12 dX3_lawWord_32 e_x24 k) ?_
    obtain ⟨x26, e_x26, hb27⟩ := ob2 hb25
    refine Sx.o (fun _ _ _ k => op_getI fX3_163 dX3_lawWord_35 e_x26 k) ?_
    refine Sx.bn (fun _ _ _ k1 k2 => ex_if_ne 46 dX3_lawWord_38 (by decide) k1 k2) (fun q => ?_) (fun q => ?_)
    · have hb28 := iq q hb27
      refine Sx.fg [true, false] ?_
      exact Reader_lawWord_46_s hb28
    · have hb29 := ip q hb27
      refine Sx.o (fun _ _ _ k => ex_iload_n dX3_lawWord_41 rfl k) ?_
      refine Sx.o (fun _ _ _ k => op_iconst (5 : Int32) dX3_lawWord_42 (by decide) k) ?_
      refine Sx.bn (fun _ _ _ k1 k2 => ex_icmp_ne 50 dX3_lawWord_43 (by decide) k1 k2) (fun q => ?_) (fun q => ?_)
      · have hb30 := iq q hb29
        refine Sx.o (fun _ _ _ k => op_iconst (0 : Int32) dX3_lawWord_50 (by decide) k) ?_
        refine Sx.fg [true, false] ?_
        exact Reader_lawWord_51_s hb30
      · have hb31 := ip q hb29
        refine Sx.fg [true, false] ?_
        exact Reader_lawWord_46_s hb31
  · have hb16 := ip q hb14
    refine Sx.o (fun _ _ _ k => op_iconst (0 : Int32) dX3_lawWord_15 (by decide) k) ?_
    obtain rfl := Option.some.inj hb16
    exact Sx.r (fun _ _ _ k => ex_zret rfl rfl dX3_lawWord_16 k)
set_option maxHeartbeats 1000000 in
set_option maxRecDepth 100000 in
theorem Reader_lawWord_q {v0 : Nat} {h : am_H} {r : (Int32 × am_H)} (hb : Reader_lawWord v0 h = some r) : Eqs h r.2 := by
  unfold Reader_lawWord at hb
  have hb := (iz hb).2
  have w0 := Eqs.rf h
  obtain ⟨x11, e_x11, hb12⟩ := ob2 hb
  obtain ⟨x13, e_x13, hb14⟩ := ob2 hb12
  by_cases q : x13 = (-1 : Int32)
  · have hb16 := ip q hb14
    obtain rfl := Option.some.inj hb16
    exact w0
  · have hb15 := iq q hb14
    obtain ⟨x17, e_x17, hb18⟩ := ob2 hb15
    obtain ⟨r19, e_r19, hb20⟩ := ob2 hb18
    have w21 := w0.tr (Text_add_q e_r19)
    obtain ⟨x22, e_x22, hb23⟩ := ob2 hb20
    obtain ⟨x24, e_x24, hb25⟩ := ob2 hb23
    obtain ⟨x26, e_x26, hb27⟩ := ob2 hb25
    by_cases q : x26 = (0 : Int32)
    · have hb29 := ip q hb27
      by_cases q : x13 = (5 : Int32)
      · have hb31 := ip q hb29
        exact w21.tr (Reader_lawWord_46_q hb31)
      · have hb30 := iq q hb29
        exact w21.tr (Reader_lawWord_51_q hb30)
    · have hb28 := iq q hb27
      exact w21.tr (Reader_lawWord_46_q hb28)
theorem Reader_lawWord_o {v0 : Nat} {h : am_H} {r : (Int32 × am_H)} (hb : Reader_lawWord v0 h = some r) : isO h 3 v0 = true := by
  unfold Reader_lawWord at hb
  exact (iz hb).1
set_option maxHeartbeats 1000000 in
set_option maxRecDepth 100000 in
noncomputable def Reader_number (v0 : Nat) (h : am_H) : Option (Int32 × am_H) := if isO h 3 v0 = true then (gR h 3 v0 1).bind fun x1 => (Tape_number x1 h).bind fun x3 => if x3 < (0 : Int32) then some ((0 : Int32), h) else if x3 ≤ (1000 : Int32) then (gR h 3 v0 0).bind fun x9 => (Text_add x9 (1 : Int32) x3 h).bind fun r11 => (gR r11.2 3 v0 1).bind fun x14 => (Tape_go x14 r11.2).bind fun h16 => some ((1 : Int32), h16) else some ((0 : Int32), h) else none
set_option maxHeartbeats 1000000 in
set_option maxRecDepth 100000 in
theorem Reader_number_s {v0 : Nat} {h : am_H} {r : (Int32 × am_H)} (hb : Reader_number v0 h = some r) : Sx 2 mX3_number 0 (am_en [.ref v0] 2) [] h (some (.int r.1)) r.2 := by
  unfold Reader_number at hb
  have hb := (iz hb).2
  show Sx 2 mX3_number 0 [.ref v0, .retAddr 0] [] h (some (.int r.1)) r.2
  refine Sx.o (fun _ _ _ k => ex_aload_n dX3_number_0 rfl rfl k) ?_
  obtain ⟨x1, e_x1, hb2⟩ := ob2 hb
  refine Sx.o (fun _ _ _ k => op_getR fX3_18 dX3_number_1 e_x1 k) ?_
  obtain ⟨x3, e_x3, hb4⟩ := ob2 hb2
  refine sx_callV (dc := 1) (as := []) (stq := [.int x3]) (by omega) dX3_number_4 MX8_number kX3_96 iX8_number sX8_number rfl rfl (Tape_number_o e_x3) rfl rfl (Nat.le_of_ble_eq_true rfl) (Nat.le_of_ble_eq_true rfl) (Tape_number_s e_x3) rfl ?_
  refine Sx.o (L' := [.ref v0, .int x3]) (fun _ _ _ k => ex_istore_n dX3_number_7 (by decide) k) ?_
  refine Sx.o (fun _ _ _ k => ex_iload_n dX3_number_8 rfl k) ?_
  refine Sx.b (fun _ _ _ k1 k2 => ex_if_lt 19 dX3_number_9 (by decide) k1 k2) (fun q => ?_) (fun q => ?_)
  · have hb5 := ip q hb4
    refine Sx.o (fun _ _ _ k => op_iconst (0 : Int32) dX3_number_19 (by decide) k) ?_
    obtain rfl := Option.some.inj hb5
    exact Sx.r (fun _ _ _ k => ex_zret rfl rfl dX3_number_20 k)
  · have hb6 := iq q hb4
    refine Sx.o (fun _ _ _ k => ex_iload_n dX3_number_12 rfl k) ?_
    refine Sx.o (fun _ _ _ k => op_sipush (1000 : Int32) dX3_number_13 (by decide) k) ?_
    refine Sx.b (fun _ _ _ k1 k2 => ex_icmp_le 21 dX3_number_16 (by decide) k1 k2) (fun q => ?_) (fun q => ?_)
    · have hb7 := ip q hb6
      refine Sx.o (fun _ _ _ k => ex_aload_n dX3_number_21 rfl rfl k) ?_
      obtain ⟨x9, e_x9, hb10⟩ := ob2 hb7
      refine Sx.o (fun _ _ _ k => op_getR fX3_12 dX3_number_22 e_x9 k) ?_
      refine Sx.o (fun _ _ _ k => op_iconst (1 : Int32) dX3_number_25 (by decide) k) ?_
      refine Sx.o (fun _ _ _ k => ex_iload_n dX3_number_26 rfl k) ?_
      obtain ⟨r11, e_r11, hb12⟩ := ob2 hb10
      refine sx_callV (dc := 0) (as := [.int (1 : Int32), .int x3]) (stq := [.int r11.1]) (by omega) dX3_number_27 MX9_add kX3_111 iX9_add sX9_add rfl rfl (Text_add_o e_r11) rfl rfl (Nat.le_of_ble_eq_true rfl) (Nat.le_of_ble_eq_true rfl) (Text_add_s e_r11) rfl ?_
      refine Sx.o (fun _ _ _ k => ex_pop dX3_number_30 rfl k) ?_
      refine Sx.o (fun _ _ _ k => ex_aload_n dX3_number_31 rfl rfl k) ?_
      obtain ⟨x14, e_x14, hb15⟩ := ob2 hb12
      refine Sx.o (fun _ _ _ k => op_getR fX3_18 dX3_number_32 e_x14 k) ?_
      obtain ⟨h16, e_h16, hb17⟩ := ob2 hb15
      refine sx_callV (dc := 0) (as := []) (stq := []) (by omega) dX3_number_35 MX8_go kX3_65 iX8_go sX8_go rfl rfl (Tape_go_o e_h16) rfl rfl (Nat.le_of_ble_eq_true rfl) (Nat.le_of_ble_eq_true rfl) (Tape_go_s e_h16) rfl ?_
      refine Sx.o (fun _ _ _ k => op_iconst (1 : Int32) dX3_number_38 (by decide) k) ?_
      obtain rfl := Option.some.inj hb17
      exact Sx.r (fun _ _ _ k => ex_zret rfl rfl dX3_number_39 k)
    · have hb8 := iq q hb6
      refine Sx.o (fun _ _ _ k => op_iconst (0 : Int32) dX3_number_19 (by decide) k) ?_
      obtain rfl := Option.some.inj hb8
      exact Sx.r (fun _ _ _ k => ex_zret rfl rfl dX3_number_20 k)
set_option maxHeartbeats 1000000 in
set_option maxRecDepth 100000 in
theorem Reader_number_q {v0 : Nat} {h : am_H} {r : (Int32 × am_H)} (hb : Reader_number v0 h = some r) : Eqs h r.2 := by
  unfold Reader_number at hb
  have hb := (iz hb).2
  have w0 := Eqs.rf h
  obtain ⟨x1, e_x1, hb2⟩ := ob2 hb
  obtain ⟨x3, e_x3, hb4⟩ := ob2 hb2
  by_cases q : x3 < (0 : Int32)
  · have hb5 := ip q hb4
    obtain rfl := Option.some.inj hb5
    exact w0
  · have hb6 := iq q hb4
    by_cases q : x3 ≤ (1000 : Int32)
    · have hb7 := ip q hb6
      obtain ⟨x9, e_x9, hb10⟩ := ob2 hb7
      obtain ⟨r11, e_r11, hb12⟩ := ob2 hb10
      have w13 := w0.tr (Text_add_q e_r11)
      obtain ⟨x14, e_x14, hb15⟩ := ob2 hb12
      obtain ⟨h16, e_h16, hb17⟩ := ob2 hb15
      have w18 := w13.tr (Tape_go_q e_h16)
      obtain rfl := Option.some.inj hb17
      exact w18
    · have hb8 := iq q hb6
      obtain rfl := Option.some.inj hb8
      exact w0
theorem Reader_number_o {v0 : Nat} {h : am_H} {r : (Int32 × am_H)} (hb : Reader_number v0 h = some r) : isO h 3 v0 = true := by
  unfold Reader_number at hb
  exact (iz hb).1
set_option maxHeartbeats 1000000 in
set_option maxRecDepth 100000 in
noncomputable def Reader_orderWord (v0 : Nat) (h : am_H) : Option (Int32 × am_H) := if isO h 3 v0 = true then (gR h 3 v0 1).bind fun x1 => (Tape_among x1 1 h).bind fun x3 => if x3 = (-1 : Int32) then some ((0 : Int32), h) else (gR h 3 v0 1).bind fun x7 => (Tape_go x7 h).bind fun h9 => if (3 : Int32) ≤ x3 then (gR h9 3 v0 1).bind fun x14 => (Tape_number x14 h9).bind fun x16 => if x16 < (0 : Int32) then some ((0 : Int32), h9) else if x16 < (6 : Int32) then (gR h9 3 v0 0).bind fun x22 => (Text_add x22 (2 : Int32) (((3 : Int32) + ((x3 - (3 : Int32)) * (6 : Int32))) + x16) h9).bind fun r24 => (gR r24.2 3 v0 1).bind fun x27 => (Tape_go x27 r24.2).bind fun h29 => some ((1 : Int32), h29) else some ((0 : Int32), h9) else (gR h9 3 v0 0).bind fun x32 => (Text_add x32 (2 : Int32) x3 h9).bind fun r34 => some ((1 : Int32), r34.2) else none
set_option maxHeartbeats 1000000 in
set_option maxRecDepth 100000 in
theorem Reader_orderWord_s {v0 : Nat} {h : am_H} {r : (Int32 × am_H)} (hb : Reader_orderWord v0 h = some r) : Sx 5 mX3_orderWord 0 (am_en [.ref v0] 3) [] h (some (.int r.1)) r.2 := by
  unfold Reader_orderWord at hb
  have hb := (iz hb).2
  show Sx 5 mX3_orderWord 0 [.ref v0, .retAddr 0, .retAddr 0] [] h (some (.int r.1)) r.2
  refine Sx.o (fun _ _ _ k => ex_aload_n dX3_orderWord_0 rfl rfl k) ?_
  obtain ⟨x1, e_x1, hb2⟩ := ob2 hb
  refine Sx.o (fun _ _ _ k => op_getR fX3_18 dX3_orderWord_1 e_x1 k) ?_
  refine Sx.o (fun _ _ _ k => ex_ldcS (tx := "heaps done latest top claps many") (i := 1) (by decide) (List.mem_of_getElem? (i := 1) rfl) dX3_orderWord_4 k) ?_
  obtain ⟨x3, e_x3, hb4⟩ := ob2 hb2
  refine sx_callV (dc := 4) (as := [am_s 1]) (stq := [.int x3]) (by omega) dX3_orderWord_6 MX8_among kX3_57 iX8_among sX8_among rfl rfl (Tape_among_o e_x3) rfl rfl (Nat.le_of_ble_eq_true rfl) (Nat.le_of_ble_eq_true rfl) (Tape_among_s e_x3) rfl ?_
  refine Sx.o (L' := [.ref v0, .int x3, .retAddr 0]) (fun _ _ _ k => ex_istore_n dX3_orderWord_9 (by decide) k) ?_
  refine Sx.o (fun _ _ _ k => ex_iload_n dX3_orderWord_10 rfl k) ?_
  refine Sx.o (fun _ _ _ k => op_iconst (-1 : Int32) dX3_orderWord_11 (by decide) k) ?_
  refine Sx.bn (fun _ _ _ k1 k2 => ex_icmp_ne 17 dX3_orderWord_12 (by decide) k1 k2) (fun q => ?_) (fun q => ?_)
  · have hb5 := iq q hb4
    refine Sx.o (fun _ _ _ k => ex_aload_n dX3_orderWord_17 rfl rfl k) ?_
    obtain ⟨x7, e_x7, hb8⟩ := ob2 hb5
    refine Sx.o (fun _ _ _ k => op_getR fX3_18 dX3_orderWord_18 e_x7 k) ?_
    obtain ⟨h9, e_h9, hb10⟩ := ob2 hb8
    refine sx_callV (dc := 0) (as := []) (stq := []) (by omega) dX3_orderWord_21 MX8_go kX3_65 iX8_go sX8_go rfl rfl (Tape_go_o e_h9) rfl rfl (Nat.le_of_ble_eq_true rfl) (Nat.le_of_ble_eq_true rfl) (Tape_go_s e_h9) rfl ?_
    refine Sx.o (fun _ _ _ k => ex_iload_n dX3_orderWord_24 rfl k) ?_
    refine Sx.o (fun _ _ _ k => op_iconst (3 : Int32) dX3_orderWord_25 (by decide) k) ?_
    refine Sx.b (fun _ _ _ k1 k2 => ex_icmp_ge 41 dX3_orderWord_26 (by decide) k1 k2) (fun q => ?_) (fun q => ?_)
    · have hb12 := ip q hb10
      refine Sx.o (fun _ _ _ k => ex_aload_n dX3_orderWord_41 rfl rfl k) ?_
      obtain ⟨x14, e_x14, hb15⟩ := ob2 hb12
      refine Sx.o (fun _ _ _ k => op_getR fX3_18 dX3_orderWord_42 e_x14 k) ?_
      obtain ⟨x16, e_x16, hb17⟩ := ob2 hb15
      refine sx_callV (dc := 1) (as := []) (stq := [.int x16]) (by omega) dX3_orderWord_45 MX8_number kX3_96 iX8_number sX8_number rfl rfl (Tape_number_o e_x16) rfl rfl (Nat.le_of_ble_eq_true rfl) (Nat.le_of_ble_eq_true rfl) (Tape_number_s e_x16) rfl ?_
      refine Sx.o (L' := [.ref v0, .int x3, .int x16]) (fun _ _ _ k => ex_istore_n dX3_orderWord_48 (by decide) k) ?_
      refine Sx.o (fun _ _ _ k => ex_iload_n dX3_orderWord_49 rfl k) ?_
      refine Sx.b (fun _ _ _ k1 k2 => ex_if_lt 59 dX3_orderWord_50 (by decide) k1 k2) (fun q => ?_) (fun q => ?_)
      · have hb18 := ip q hb17
        refine Sx.o (fun _ _ _ k => op_iconst (0 : Int32) dX3_orderWord_59 (by decide) k) ?_
        obtain rfl := Option.some.inj hb18
        exact Sx.r (fun _ _ _ k => ex_zret rfl rfl dX3_orderWord_60 k)
      · have hb19 := iq q hb17
        refine Sx.o (fun _ _ _ k => ex_iload_n dX3_orderWord_53 rfl k) ?_
        refine Sx.o (fun _ _ _ k => op_bipush (6 : Int32) dX3_orderWord_54 (by decide) k) ?_
        refine Sx.b (fun _ _ _ k1 k2 => ex_icmp_lt 61 dX3_orderWord_56 (by decide) k1 k2) (fun q => ?_) (fun q => ?_)
        · have hb20 := ip q hb19
          refine Sx.o (fun _ _ _ k => ex_aload_n dX3_orderWord_61 rfl rfl k) ?_
          obtain ⟨x22, e_x22, hb23⟩ := ob2 hb20
          refine Sx.o (fun _ _ _ k => op_getR fX3_12 dX3_orderWord_62 e_x22 k) ?_
          refine Sx.o (fun _ _ _ k => op_iconst (2 : Int32) dX3_orderWord_65 (by decide) k) ?_
          refine Sx.o (fun _ _ _ k => op_iconst (3 : Int32) dX3_orderWord_66 (by decide) k) ?_
          refine Sx.o (fun _ _ _ k => ex_iload_n dX3_orderWord_67 rfl k) ?_
          refine Sx.o (fun _ _ _ k => op_iconst (3 : Int32) dX3_orderWord_68 (by decide) k) ?_
          refine Sx.o (fun _ _ _ k => ex_isub dX3_orderWord_69 k) ?_
          refine Sx.o (fun _ _ _ k => op_bipush (6 : Int32) dX3_orderWord_70 (by decide) k) ?_
          refine Sx.o (fun _ _ _ k => ex_imul dX3_orderWord_72 k) ?_
          refine Sx.o (fun _ _ _ k => ex_iadd dX3_orderWord_73 k) ?_
          refine Sx.o (fun _ _ _ k => ex_iload_n dX3_orderWord_74 rfl k) ?_
          refine Sx.o (fun _ _ _ k => ex_iadd dX3_orderWord_75 k) ?_
          obtain ⟨r24, e_r24, hb25⟩ := ob2 hb23
          refine sx_callV (dc := 0) (as := [.int (2 : Int32), .int (((3 : Int32) + ((x3 - (3 : Int32)) * (6 : Int32))) + x16)]) (stq := [.int r24.1]) (by omega) dX3_orderWord_76 MX9_add kX3_111 iX9_add sX9_add rfl rfl (Text_add_o e_r24) rfl rfl (Nat.le_of_ble_eq_true rfl) (Nat.le_of_ble_eq_true rfl) (Text_add_s e_r24) rfl ?_
          refine Sx.o (fun _ _ _ k => ex_pop dX3_orderWord_79 rfl k) ?_
          refine Sx.o (fun _ _ _ k => ex_aload_n dX3_orderWord_80 rfl rfl k) ?_
          obtain ⟨x27, e_x27, hb28⟩ := ob2 hb25
          refine Sx.o (fun _ _ _ k => op_getR fX3_18 dX3_orderWord_81 e_x27 k) ?_
          obtain ⟨h29, e_h29, hb30⟩ := ob2 hb28
          refine sx_callV (dc := 0) (as := []) (stq := []) (by omega) dX3_orderWord_84 MX8_go kX3_65 iX8_go sX8_go rfl rfl (Tape_go_o e_h29) rfl rfl (Nat.le_of_ble_eq_true rfl) (Nat.le_of_ble_eq_true rfl) (Tape_go_s e_h29) rfl ?_
          refine Sx.o (fun _ _ _ k => op_iconst (1 : Int32) dX3_orderWord_87 (by decide) k) ?_
          obtain rfl := Option.some.inj hb30
          exact Sx.r (fun _ _ _ k => ex_zret rfl rfl dX3_orderWord_88 k)
        · have hb21 := iq q hb19
          refine Sx.o (fun _ _ _ k => op_iconst (0 : Int32) dX3_orderWord_59 (by decide) k) ?_
          obtain rfl := Option.some.inj hb21
          exact Sx.r (fun _ _ _ k => ex_zret rfl rfl dX3_orderWord_60 k)
    · have hb13 := iq q hb10
      refine Sx.o (fun _ _ _ k => ex_aload_n dX3_orderWord_29 rfl rfl k) ?_
      obtain ⟨x32, e_x32, hb33⟩ := ob2 hb13
      refine Sx.o (fun _ _ _ k => op_getR fX3_12 dX3_orderWord_30 e_x32 k) ?_
      refine Sx.o (fun _ _ _ k => op_iconst (2 : Int32) dX3_orderWord_33 (by decide) k) ?_
      refine Sx.o (fun _ _ _ k => ex_iload_n dX3_orderWord_34 rfl k) ?_
      obtain ⟨r34, e_r34, hb35⟩ := ob2 hb33
      refine sx_callV (dc := 0) (as := [.int (2 : Int32), .int x3]) (stq := [.int r34.1]) (by omega) dX3_orderWord_35 MX9_add kX3_111 iX9_add sX9_add rfl rfl (Text_add_o e_r34) rfl rfl (Nat.le_of_ble_eq_true rfl) (Nat.le_of_ble_eq_true rfl) (Text_add_s e_r34) rfl ?_
      refine Sx.o (fun _ _ _ k => ex_pop dX3_orderWord_38 rfl k) ?_
      refine Sx.o (fun _ _ _ k => op_iconst (1 : Int32) dX3_orderWord_39 (by decide) k) ?_
      obtain rfl := Option.some.inj hb35
      exact Sx.r (fun _ _ _ k => ex_zret rfl rfl dX3_orderWord_40 k)
  · have hb6 := ip q hb4
    refine Sx.o (fun _ _ _ k => op_iconst (0 : Int32) dX3_orderWord_15 (by decide) k) ?_
    obtain rfl := Option.some.inj hb6
    exact Sx.r (fun _ _ _ k => ex_zret rfl rfl dX3_orderWord_16 k)
set_option maxHeartbeats 1000000 in
set_option maxRecDepth 100000 in
theorem Reader_orderWord_q {v0 : Nat} {h : am_H} {r : (Int32 × am_H)} (hb : Reader_orderWord v0 h = some r) : Eqs h r.2 := by
  unfold Reader_orderWord at hb
  have hb := (iz hb).2
  have w0 := Eqs.rf h
  obtain ⟨x1, e_x1, hb2⟩ := ob2 hb
  obtain ⟨x3, e_x3, hb4⟩ := ob2 hb2
  by_cases q : x3 = (-1 : Int32)
  · have hb6 := ip q hb4
    obtain rfl := Option.some.inj hb6
    exact w0
  · have hb5 := iq q hb4
    obtain ⟨x7, e_x7, hb8⟩ := ob2 hb5
    obtain ⟨h9, e_h9, hb10⟩ := ob2 hb8
    have w11 := w0.tr (Tape_go_q e_h9)
    by_cases q : (3 : Int32) ≤ x3
    · have hb12 := ip q hb10
      obtain ⟨x14, e_x14, hb15⟩ := ob2 hb12
      obtain ⟨x16, e_x16, hb17⟩ := ob2 hb15
      by_cases q : x16 < (0 : Int32)
      · have hb18 := ip q hb17
        obtain rfl := Option.some.inj hb18
        exact w11
      · have hb19 := iq q hb17
        by_cases q : x16 < (6 : Int32)
        · have hb20 := ip q hb19
          obtain ⟨x22, e_x22, hb23⟩ := ob2 hb20
          obtain ⟨r24, e_r24, hb25⟩ := ob2 hb23
          have w26 := w11.tr (Text_add_q e_r24)
          obtain ⟨x27, e_x27, hb28⟩ := ob2 hb25
          obtain ⟨h29, e_h29, hb30⟩ := ob2 hb28
          have w31 := w26.tr (Tape_go_q e_h29)
          obtain rfl := Option.some.inj hb30
          exact w31
        · have hb21 := iq q hb19
          obtain rfl := Option.some.inj hb21
          exact w11
    · have hb13 := iq q hb10
      obtain ⟨x32, e_x32, hb33⟩ := ob2 hb13
      obtain ⟨r34, e_r34, hb35⟩ := ob2 hb33
      have w36 := w11.tr (Text_add_q e_r34)
      obtain rfl := Option.some.inj hb35
      exact w36
theorem Reader_orderWord_o {v0 : Nat} {h : am_H} {r : (Int32 × am_H)} (hb : Reader_orderWord v0 h = some r) : isO h 3 v0 = true := by
  unfold Reader_orderWord at hb
  exact (iz hb).1
set_option maxHeartbeats 1000000 in
set_option maxRecDepth 100000 in
noncomputable def Reader_takeSign (v0 : Nat) (v1 : Int32) (h : am_H) : Option (Int32 × am_H) := if isO h 3 v0 = true then (gR h 3 v0 1).bind fun x1 => (Tape_isSign x1 v1 h).bind fun x3 => if x3 = (0 : Int32) then some ((0 : Int32), h) else (gR h 3 v0 1).bind fun x7 => (Tape_go x7 h).bind fun h9 => some ((1 : Int32), h9) else none
set_option maxHeartbeats 1000000 in
set_option maxRecDepth 100000 in
theorem Reader_takeSign_s {v0 : Nat} {v1 : Int32} {h : am_H} {r : (Int32 × am_H)} (hb : Reader_takeSign v0 v1 h = some r) : Sx 1 mX3_takeSign 0 (am_en [.ref v0, .int v1] 2) [] h (some (.int r.1)) r.2 := by
  unfold Reader_takeSign at hb
  have hb := (iz hb).2
  show Sx 1 mX3_takeSign 0 [.ref v0, .int v1] [] h (some (.int r.1)) r.2
  refine Sx.o (fun _ _ _ k => ex_aload_n dX3_takeSign_0 rfl rfl k) ?_
  obtain ⟨x1, e_x1, hb2⟩ := ob2 hb
  refine Sx.o (fun _ _ _ k => op_getR fX3_18 dX3_takeSign_1 e_x1 k) ?_
  refine Sx.o (fun _ _ _ k => ex_iload_n dX3_takeSign_4 rfl k) ?_
  obtain ⟨x3, e_x3, hb4⟩ := ob2 hb2
  refine sx_callV (dc := 0) (as := [.int v1]) (stq := [.int x3]) (by omega) dX3_takeSign_5 MX8_isSign kX3_91 iX8_isSign sX8_isSign rfl rfl (Tape_isSign_o e_x3) rfl rfl (Nat.le_of_ble_eq_true rfl) (Nat.le_of_ble_eq_true rfl) (Tape_isSign_s e_x3) rfl ?_
  refine Sx.bn (fun _ _ _ k1 k2 => ex_if_ne 13 dX3_takeSign_8 (by decide) k1 k2) (fun q => ?_) (fun q => ?_)
  · have hb5 := iq q hb4
    refine Sx.o (fun _ _ _ k => ex_aload_n dX3_takeSign_13 rfl rfl k) ?_
    obtain ⟨x7, e_x7, hb8⟩ := ob2 hb5
    refine Sx.o (fun _ _ _ k => op_getR fX3_18 dX3_takeSign_14 e_x7 k) ?_
    obtain ⟨h9, e_h9, hb10⟩ := ob2 hb8
    refine sx_callV (dc := 0) (as := []) (stq := []) (by omega) dX3_takeSign_17 MX8_go kX3_65 iX8_go sX8_go rfl rfl (Tape_go_o e_h9) rfl rfl (Nat.le_of_ble_eq_true rfl) (Nat.le_of_ble_eq_true rfl) (Tape_go_s e_h9) rfl ?_
    refine Sx.o (fun _ _ _ k => op_iconst (1 : Int32) dX3_takeSign_20 (by decide) k) ?_
    obtain rfl := Option.some.inj hb10
    exact Sx.r (fun _ _ _ k => ex_zret rfl rfl dX3_takeSign_21 k)
  · have hb6 := ip q hb4
    refine Sx.o (fun _ _ _ k => op_iconst (0 : Int32) dX3_takeSign_11 (by decide) k) ?_
    obtain rfl := Option.some.inj hb6
    exact Sx.r (fun _ _ _ k => ex_zret rfl rfl dX3_takeSign_12 k)
set_option maxHeartbeats 1000000 in
set_option maxRecDepth 100000 in
theorem Reader_takeSign_q {v0 : Nat} {v1 : Int32} {h : am_H} {r : (Int32 × am_H)} (hb : Reader_takeSign v0 v1 h = some r) : Eqs h r.2 := by
  unfold Reader_takeSign at hb
  have hb := (iz hb).2
  have w0 := Eqs.rf h
  obtain ⟨x1, e_x1, hb2⟩ := ob2 hb
  obtain ⟨x3, e_x3, hb4⟩ := ob2 hb2
  by_cases q : x3 = (0 : Int32)
  · have hb6 := ip q hb4
    obtain rfl := Option.some.inj hb6
    exact w0
  · have hb5 := iq q hb4
    obtain ⟨x7, e_x7, hb8⟩ := ob2 hb5
    obtain ⟨h9, e_h9, hb10⟩ := ob2 hb8
    have w11 := w0.tr (Tape_go_q e_h9)
    obtain rfl := Option.some.inj hb10
    exact w11
theorem Reader_takeSign_o {v0 : Nat} {v1 : Int32} {h : am_H} {r : (Int32 × am_H)} (hb : Reader_takeSign v0 v1 h = some r) : isO h 3 v0 = true := by
  unfold Reader_takeSign at hb
  exact (iz hb).1
set_option maxHeartbeats 1000000 in
set_option maxRecDepth 100000 in
noncomputable def Reader_part_b (g : (Nat × Nat × Int32 × Int32 × Int32 × Int32 × Nat × am_H) → Option (Int32 × am_H)) (dd : Nat) (v0 : Nat) (v1 : Int32) (h : am_H) : Option (Int32 × am_H) := if isO h 3 v0 = true then (gR h 3 v0 1).bind fun x1 => (Tape_isSign x1 (91 : Int32) h).bind fun x3 => if x3 = (0 : Int32) then (gI h 3 v0 3).bind fun x7 => if x7 < (50 : Int32) then (gI h 3 v0 3).bind fun x11 => (pV h 3 v0 3 (.int (x11 + (1 : Int32)))).bind fun h13 => (gR h13 3 v0 1).bind fun x16 => (gI h13 8 x16 2).bind fun x18 => if x18 = (2 : Int32) then (Reader_number v0 h13).bind fun r36 => (nrZ r36.1).bind fun u39 => some (r36.1, r36.2) else (gI h13 3 v0 2).bind fun x22 => if x22 = (0 : Int32) then (Reader_lawWord v0 h13).bind fun r26 => (nrZ r26.1).bind fun u29 => some (r26.1, r26.2) else (Reader_orderWord v0 h13).bind fun r31 => (nrZ r31.1).bind fun u34 => some (r31.1, r31.2) else some ((0 : Int32), h) else if (8 : Int32) ≤ v1 then some ((0 : Int32), h) else (Reader_takeSign v0 (91 : Int32) h).bind fun r43 => if r43.1 = (0 : Int32) then some ((0 : Int32), r43.2) else (if 0 < dd then g (20000, dd - 1, (v1 + (1 : Int32)), 0, 0, 0, v0, r43.2) else none).bind fun r48 => if r48.1 = (0 : Int32) then some ((0 : Int32), r48.2) else (Reader_takeSign v0 (93 : Int32) r48.2).bind fun r53 => if r53.1 = (0 : Int32) then some ((0 : Int32), r53.2) else some ((1 : Int32), r53.2) else none
set_option maxHeartbeats 1000000 in
set_option maxRecDepth 100000 in
theorem Reader_part_m {g g2 : (Nat × Nat × Int32 × Int32 × Int32 × Int32 × Nat × am_H) → Option (Int32 × am_H)} (hg : ∀ s, Le (g s) (g2 s)) (dd : Nat) (v0 : Nat) (v1 : Int32) (h : am_H) : Le (Reader_part_b g dd v0 v1 h) (Reader_part_b g2 dd v0 v1 h) := by unfold Reader_part_b; exact le_i (le_b (le_r _) fun x1 => le_b (le_r _) fun x3 => le_i (le_r _) (le_i (le_r _) (le_b (le_r _) fun r43 => le_i (le_r _) (le_b (le_i (hg _) (le_r _)) fun r48 => le_r _)))) (le_r _)
set_option maxHeartbeats 1000000 in
set_option maxRecDepth 100000 in
noncomputable def Reader_term_b (g : (Nat × Nat × Int32 × Int32 × Int32 × Int32 × Nat × am_H) → Option (Int32 × am_H)) (dd : Nat) (v0 : Nat) (v1 : Int32) (h : am_H) : Option (Int32 × am_H) := if isO h 3 v0 = true then (if 0 < dd then g (0, dd - 1, v1, 0, 0, 0, v0, h) else none).bind fun r58 => (Reader_multiplying v0 r58.2).bind fun x61 => g (10014, dd, v1, r58.1, x61, (0 : Int32), v0, r58.2) else none
set_option maxHeartbeats 1000000 in
set_option maxRecDepth 100000 in
theorem Reader_term_m {g g2 : (Nat × Nat × Int32 × Int32 × Int32 × Int32 × Nat × am_H) → Option (Int32 × am_H)} (hg : ∀ s, Le (g s) (g2 s)) (dd : Nat) (v0 : Nat) (v1 : Int32) (h : am_H) : Le (Reader_term_b g dd v0 v1 h) (Reader_term_b g2 dd v0 v1 h) := by unfold Reader_term_b; exact le_i (le_b (le_i (hg _) (le_r _)) fun r58 => le_b (le_r _) fun x61 => hg _) (le_r _)
set_option maxHeartbeats 1000000 in
set_option maxRecDepth 100000 in
noncomputable def Reader_term_14_b (g : (Nat × Nat × Int32 × Int32 × Int32 × Int32 × Nat × am_H) → Option (Int32 × am_H)) (dd : Nat) (v0 : Nat) (v1 : Int32) (v2 : Int32) (v3 : Int32) (v4 : Int32) (h : am_H) : Option (Int32 × am_H) := if (400 : Int32) ≤ v4 then (nrZ v2).bind fun u65 => some (v2, h) else if v2 = (0 : Int32) then (nrZ v2).bind fun u69 => some (v2, h) else if v3 = (-1 : Int32) then (nrZ v2).bind fun u73 => some (v2, h) else (gR h 3 v0 1).bind fun x75 => (Tape_go x75 h).bind fun h77 => (if 0 < dd then g (0, dd - 1, v1, 0, 0, 0, v0, h77) else none).bind fun r80 => (gR r80.2 3 v0 0).bind fun x83 => (Text_add x83 v3 (0 : Int32) r80.2).bind fun r85 => (Reader_multiplying v0 r85.2).bind fun x88 => g (10014, dd, v1, r80.1, x88, (v4 + (1 : Int32)), v0, r85.2)
set_option maxHeartbeats 1000000 in
set_option maxRecDepth 100000 in
theorem Reader_term_14_m {g g2 : (Nat × Nat × Int32 × Int32 × Int32 × Int32 × Nat × am_H) → Option (Int32 × am_H)} (hg : ∀ s, Le (g s) (g2 s)) (dd : Nat) (v0 : Nat) (v1 : Int32) (v2 : Int32) (v3 : Int32) (v4 : Int32) (h : am_H) : Le (Reader_term_14_b g dd v0 v1 v2 v3 v4 h) (Reader_term_14_b g2 dd v0 v1 v2 v3 v4 h) := by unfold Reader_term_14_b; exact le_i (le_r _) (le_i (le_r _) (le_i (le_r _) (le_b (le_r _) fun x75 => le_b (le_r _) fun h77 => le_b (le_i (hg _) (le_r _)) fun r80 => le_b (le_r _) fun x83 => le_b (le_r _) fun r85 => le_b (le_r _) fun x88 => hg _)))
set_option maxHeartbeats 1000000 in
set_option maxRecDepth 100000 in
noncomputable def Reader_sum_b (g : (Nat × Nat × Int32 × Int32 × Int32 × Int32 × Nat × am_H) → Option (Int32 × am_H)) (dd : Nat) (v0 : Nat) (v1 : Int32) (h : am_H) : Option (Int32 × am_H) := if isO h 3 v0 = true then (if 0 < dd then g (10000, dd - 1, v1, 0, 0, 0, v0, h) else none).bind fun r90 => g (20008, dd, v1, r90.1, (0 : Int32), 0, v0, r90.2) else none
set_option maxHeartbeats 1000000 in
set_option maxRecDepth 100000 in
theorem Reader_sum_m {g g2 : (Nat × Nat × Int32 × Int32 × Int32 × Int32 × Nat × am_H) → Option (Int32 × am_H)} (hg : ∀ s, Le (g s) (g2 s)) (dd : Nat) (v0 : Nat) (v1 : Int32) (h : am_H) : Le (Reader_sum_b g dd v0 v1 h) (Reader_sum_b g2 dd v0 v1 h) := by unfold Reader_sum_b; exact le_i (le_b (le_i (hg _) (le_r _)) fun r90 => hg _) (le_r _)
set_option maxHeartbeats 1000000 in
set_option maxRecDepth 100000 in
noncomputable def Reader_sum_8_b (g : (Nat × Nat × Int32 × Int32 × Int32 × Int32 × Nat × am_H) → Option (Int32 × am_H)) (dd : Nat) (v0 : Nat) (v1 : Int32) (v2 : Int32) (v3 : Int32) (h : am_H) : Option (Int32 × am_H) := if (400 : Int32) ≤ v3 then (nrZ v2).bind fun u95 => some (v2, h) else if v2 = (0 : Int32) then (nrZ v2).bind fun u99 => some (v2, h) else (gR h 3 v0 1).bind fun x101 => (Tape_isSign x101 (43 : Int32) h).bind fun x103 => if x103 = (0 : Int32) then (gR h 3 v0 1).bind fun x107 => (Tape_isSign x107 (45 : Int32) h).bind fun x109 => if x109 = (0 : Int32) then (nrZ v2).bind fun u113 => some (v2, h) else g (20043, dd, v1, v3, 0, 0, v0, h) else g (20043, dd, v1, v3, 0, 0, v0, h)
set_option maxHeartbeats 1000000 in
set_option maxRecDepth 100000 in
theorem Reader_sum_8_m {g g2 : (Nat × Nat × Int32 × Int32 × Int32 × Int32 × Nat × am_H) → Option (Int32 × am_H)} (hg : ∀ s, Le (g s) (g2 s)) (dd : Nat) (v0 : Nat) (v1 : Int32) (v2 : Int32) (v3 : Int32) (h : am_H) : Le (Reader_sum_8_b g dd v0 v1 v2 v3 h) (Reader_sum_8_b g2 dd v0 v1 v2 v3 h) := by unfold Reader_sum_8_b; exact le_i (le_r _) (le_i (le_r _) (le_b (le_r _) fun x101 => le_b (le_r _) fun x103 => le_i (le_b (le_r _) fun x107 => le_b (le_r _) fun x109 => le_i (le_r _) (hg _)) (hg _)))
set_option maxHeartbeats 1000000 in
set_option maxRecDepth 100000 in
noncomputable def Reader_sum_43_b (g : (Nat × Nat × Int32 × Int32 × Int32 × Int32 × Nat × am_H) → Option (Int32 × am_H)) (dd : Nat) (v0 : Nat) (v1 : Int32) (v3 : Int32) (h : am_H) : Option (Int32 × am_H) := (gR h 3 v0 1).bind fun x115 => (Tape_isSign x115 (43 : Int32) h).bind fun x117 => if x117 = (0 : Int32) then g (20060, dd, v1, v3, (4 : Int32), 0, v0, h) else g (20060, dd, v1, v3, (3 : Int32), 0, v0, h)
set_option maxHeartbeats 1000000 in
set_option maxRecDepth 100000 in
theorem Reader_sum_43_m {g g2 : (Nat × Nat × Int32 × Int32 × Int32 × Int32 × Nat × am_H) → Option (Int32 × am_H)} (hg : ∀ s, Le (g s) (g2 s)) (dd : Nat) (v0 : Nat) (v1 : Int32) (v3 : Int32) (h : am_H) : Le (Reader_sum_43_b g dd v0 v1 v3 h) (Reader_sum_43_b g2 dd v0 v1 v3 h) := by unfold Reader_sum_43_b; exact le_b (le_r _) fun x115 => le_b (le_r _) fun x117 => le_i (hg _) (hg _)
set_option maxHeartbeats 1000000 in
set_option maxRecDepth 100000 in
noncomputable def Reader_sum_60_b (g : (Nat × Nat × Int32 × Int32 × Int32 × Int32 × Nat × am_H) → Option (Int32 × am_H)) (dd : Nat) (v0 : Nat) (v1 : Int32) (v3 : Int32) (s0 : Int32) (h : am_H) : Option (Int32 × am_H) := (gR h 3 v0 1).bind fun x121 => (Tape_go x121 h).bind fun h123 => (if 0 < dd then g (10000, dd - 1, v1, 0, 0, 0, v0, h123) else none).bind fun r126 => (gR r126.2 3 v0 0).bind fun x129 => (Text_add x129 s0 (0 : Int32) r126.2).bind fun r131 => g (20008, dd, v1, r126.1, (v3 + (1 : Int32)), 0, v0, r131.2)
set_option maxHeartbeats 1000000 in
set_option maxRecDepth 100000 in
theorem Reader_sum_60_m {g g2 : (Nat × Nat × Int32 × Int32 × Int32 × Int32 × Nat × am_H) → Option (Int32 × am_H)} (hg : ∀ s, Le (g s) (g2 s)) (dd : Nat) (v0 : Nat) (v1 : Int32) (v3 : Int32) (s0 : Int32) (h : am_H) : Le (Reader_sum_60_b g dd v0 v1 v3 s0 h) (Reader_sum_60_b g2 dd v0 v1 v3 s0 h) := by unfold Reader_sum_60_b; exact le_b (le_r _) fun x121 => le_b (le_r _) fun h123 => le_b (le_i (hg _) (le_r _)) fun r126 => le_b (le_r _) fun x129 => le_b (le_r _) fun r131 => hg _
noncomputable def Reader_partG_F (g : (Nat × Nat × Int32 × Int32 × Int32 × Int32 × Nat × am_H) → Option (Int32 × am_H)) (s : (Nat × Nat × Int32 × Int32 × Int32 × Int32 × Nat × am_H)) : Option (Int32 × am_H) := if s.1 = 0 then Reader_part_b g s.2.1 s.2.2.2.2.2.2.1 s.2.2.1 s.2.2.2.2.2.2.2 else if s.1 = 10000 then Reader_term_b g s.2.1 s.2.2.2.2.2.2.1 s.2.2.1 s.2.2.2.2.2.2.2 else if s.1 = 10014 then Reader_term_14_b g s.2.1 s.2.2.2.2.2.2.1 s.2.2.1 s.2.2.2.1 s.2.2.2.2.1 s.2.2.2.2.2.1 s.2.2.2.2.2.2.2 else if s.1 = 20000 then Reader_sum_b g s.2.1 s.2.2.2.2.2.2.1 s.2.2.1 s.2.2.2.2.2.2.2 else if s.1 = 20008 then Reader_sum_8_b g s.2.1 s.2.2.2.2.2.2.1 s.2.2.1 s.2.2.2.1 s.2.2.2.2.1 s.2.2.2.2.2.2.2 else if s.1 = 20043 then Reader_sum_43_b g s.2.1 s.2.2.2.2.2.2.1 s.2.2.1 s.2.2.2.1 s.2.2.2.2.2.2.2 else if s.1 = 20060 then Reader_sum_60_b g s.2.1 s.2.2.2.2.2.2.1 s.2.2.1 s.2.2.2.1 s.2.2.2.2.1 s.2.2.2.2.2.2.2 else none
theorem Reader_partG_M : Mn Reader_partG_F := fun g g2 hg s => by unfold Reader_partG_F; exact le_i (Reader_part_m hg s.2.1 s.2.2.2.2.2.2.1 s.2.2.1 s.2.2.2.2.2.2.2) (le_i (Reader_term_m hg s.2.1 s.2.2.2.2.2.2.1 s.2.2.1 s.2.2.2.2.2.2.2) (le_i (Reader_term_14_m hg s.2.1 s.2.2.2.2.2.2.1 s.2.2.1 s.2.2.2.1 s.2.2.2.2.1 s.2.2.2.2.2.1 s.2.2.2.2.2.2.2) (le_i (Reader_sum_m hg s.2.1 s.2.2.2.2.2.2.1 s.2.2.1 s.2.2.2.2.2.2.2) (le_i (Reader_sum_8_m hg s.2.1 s.2.2.2.2.2.2.1 s.2.2.1 s.2.2.2.1 s.2.2.2.2.1 s.2.2.2.2.2.2.2) (le_i (Reader_sum_43_m hg s.2.1 s.2.2.2.2.2.2.1 s.2.2.1 s.2.2.2.1 s.2.2.2.2.2.2.2) (le_i (Reader_sum_60_m hg s.2.1 s.2.2.2.2.2.2.1 s.2.2.1 s.2.2.2.1 s.2.2.2.2.1 s.2.2.2.2.2.2.2) (le_r _)))))))
def Reader_partG_P (s : (Nat × Nat × Int32 × Int32 × Int32 × Int32 × Nat × am_H)) (r : (Int32 × am_H)) : Prop := (s.1 = 0 → isO s.2.2.2.2.2.2.2 3 s.2.2.2.2.2.2.1 = true ∧ Sx (6 + s.2.1) mX3_part 0 (am_en [.ref s.2.2.2.2.2.2.1, .int s.2.2.1] 2) [] s.2.2.2.2.2.2.2 (some (.int r.1)) r.2) ∧ (s.1 = 10000 → isO s.2.2.2.2.2.2.2 3 s.2.2.2.2.2.2.1 = true ∧ Sx (6 + s.2.1) mX3_term 0 (am_en [.ref s.2.2.2.2.2.2.1, .int s.2.2.1] 5) [] s.2.2.2.2.2.2.2 (some (.int r.1)) r.2) ∧ (s.1 = 10014 → Sx (6 + s.2.1) mX3_term 14 [.ref s.2.2.2.2.2.2.1, .int s.2.2.1, .int s.2.2.2.1, .int s.2.2.2.2.1, .int s.2.2.2.2.2.1] [] s.2.2.2.2.2.2.2 (some (.int r.1)) r.2) ∧ (s.1 = 20000 → isO s.2.2.2.2.2.2.2 3 s.2.2.2.2.2.2.1 = true ∧ Sx (6 + s.2.1) mX3_sum 0 (am_en [.ref s.2.2.2.2.2.2.1, .int s.2.2.1] 5) [] s.2.2.2.2.2.2.2 (some (.int r.1)) r.2) ∧ (s.1 = 20008 → Sx (6 + s.2.1) mX3_sum 8 [.ref s.2.2.2.2.2.2.1, .int s.2.2.1, .int s.2.2.2.1, .int s.2.2.2.2.1, .retAddr 0] [] s.2.2.2.2.2.2.2 (some (.int r.1)) r.2) ∧ (s.1 = 20043 → Sx (6 + s.2.1) mX3_sum 43 [.ref s.2.2.2.2.2.2.1, .int s.2.2.1, .retAddr 0, .int s.2.2.2.1, .retAddr 0] [] s.2.2.2.2.2.2.2 (some (.int r.1)) r.2) ∧ (s.1 = 20060 → Sx (6 + s.2.1) mX3_sum 60 [.ref s.2.2.2.2.2.2.1, .int s.2.2.1, .retAddr 0, .int s.2.2.2.1, .retAddr 0] [.int s.2.2.2.2.1] s.2.2.2.2.2.2.2 (some (.int r.1)) r.2) ∧ True
set_option maxHeartbeats 1000000 in
set_option maxRecDepth 100000 in
theorem Reader_part_t {g : (Nat × Nat × Int32 × Int32 × Int32 × Int32 × Nat × am_H) → Option (Int32 × am_H)} (hg : ∀ s r, g s = some r → Reader_partG_P s r) {dd : Nat} {v0 : Nat} {v1 : Int32} {h : am_H} {r : (Int32 × am_H)} (hb : Reader_part_b g dd v0 v1 h = some r) : isO h 3 v0 = true ∧ Sx (6 + dd) mX3_part 0 (am_en [.ref v0, .int v1] 2) [] h (some (.int r.1)) r.2 := by
  unfold Reader_part_b at hb
  obtain ⟨ho, hb⟩ := iz hb
  refine ⟨ho, ?_⟩
  show Sx (6 + dd) mX3_part 0 [.ref v0, .int v1] [] h (some (.int r.1)) r.2
  refine Sx.o (fun _ _ _ k => ex_aload_n dX3_part_0 rfl rfl k) ?_
  obtain ⟨x1, e_x1, hb2⟩ := ob2 hb
  refine Sx.o (fun _ _ _ k => op_getR fX3_18 dX3_part_1 e_x1 k) ?_
  refine Sx.o (fun _ _ _ k => op_bipush (91 : Int32) dX3_part_4 (by decide) k) ?_
  obtain ⟨x3, e_x3, hb4⟩ := ob2 hb2
  refine sx_callV (dc := 0) (as := [.int (91 : Int32)]) (stq := [.int x3]) (by omega) dX3_part_6 MX8_isSign kX3_91 iX8_isSign sX8_isSign rfl rfl (Tape_isSign_o e_x3) rfl rfl (Nat.le_of_ble_eq_true rfl) (Nat.le_of_ble_eq_true rfl) (Tape_isSign_s e_x3) rfl ?_
  refine Sx.b (fun _ _ _ k1 k2 => ex_if_eq 52 dX3_part_9 (by decide) k1 k2) (fun q => ?_) (fun q => ?_)
  · have hb5 := ip q hb4
    refine Sx.o (fun _ _ _ k => ex_aload_n dX3_part_52 rfl rfl k) ?_
    obtain ⟨x7, e_x7, hb8⟩ := ob2 hb5
    refine Sx.o (fun _ _ _ k => op_getI fX3_26 dX3_part_53 e_x7 k) ?_
    refine Sx.o (fun _ _ _ k => op_bipush (50 : Int32) dX3_part_56 (by decide) k) ?_
    refine Sx.b (fun _ _ _ k1 k2 => ex_icmp_lt 63 dX3_part_58 (by decide) k1 k2) (fun q => ?_) (fun q => ?_)
    · have hb9 := ip q hb8
      refine Sx.o (fun _ _ _ k => ex_aload_n dX3_part_63 rfl rfl k) ?_
      refine Sx.o (fun _ _ _ k => ex_dup dX3_part_64 rfl k) ?_
      obtain ⟨x11, e_x11, hb12⟩ := ob2 hb9
      refine Sx.o (fun _ _ _ k => op_getI fX3_26 dX3_part_65 e_x11 k) ?_
      refine Sx.o (fun _ _ _ k => op_iconst (1 : Int32) dX3_part_68 (by decide) k) ?_
      refine Sx.o (fun _ _ _ k => ex_iadd dX3_part_69 k) ?_
      obtain ⟨h13, e_h13, hb14⟩ := ob2 hb12
      refine Sx.p (pV_q e_h13) (fun _ _ _ k => op_put pX3_26 dX3_part_70 e_h13 (fun _ => rfl) (fun _ => rfl) k) ?_
      refine Sx.o (fun _ _ _ k => ex_aload_n dX3_part_73 rfl rfl k) ?_
      obtain ⟨x16, e_x16, hb17⟩ := ob2 hb14
      refine Sx.o (fun _ _ _ k => op_getR fX3_18 dX3_part_74 e_x16 k) ?_
      obtain ⟨x18, e_x18, hb19⟩ := ob2 hb17
      refine Sx.o (fun _ _ _ k => op_getI fX3_45 dX3_part_77 e_x18 k) ?_
      refine Sx.o (fun _ _ _ k => op_iconst (2 : Int32) dX3_part_80 (by decide) k) ?_
      refine Sx.bn (fun _ _ _ k1 k2 => ex_icmp_ne 89 dX3_part_81 (by decide) k1 k2) (fun q => ?_) (fun q => ?_)
      · have hb20 := iq q hb19
        refine Sx.o (fun _ _ _ k => ex_aload_n dX3_part_89 rfl rfl k) ?_
        obtain ⟨x22, e_x22, hb23⟩ := ob2 hb20
        refine Sx.o (fun _ _ _ k => op_getI fX3_22 dX3_part_90 e_x22 k) ?_
        refine Sx.b (fun _ _ _ k1 k2 => ex_if_eq 103 dX3_part_93 (by decide) k1 k2) (fun q => ?_) (fun q => ?_)
        · have hb24 := ip q hb23
          refine Sx.o (fun _ _ _ k => ex_aload_n dX3_part_103 rfl rfl k) ?_
          obtain ⟨r26, e_r26, hb27⟩ := ob2 hb24
          refine sx_callV (dc := 5) (as := []) (stq := [.int r26.1]) (by omega) dX3_part_104 MX3_lawWord kX3_158 iX3_lawWord sX3_lawWord rfl rfl (Reader_lawWord_o e_r26) rfl rfl (Nat.le_of_ble_eq_true rfl) (Nat.le_of_ble_eq_true rfl) (Reader_lawWord_s e_r26) rfl ?_
          obtain ⟨u29, e_u29, hb30⟩ := ob2 hb27
          obtain rfl := Option.some.inj hb30
          exact Sx.r (fun _ _ _ k => ex_zret rfl (nrZ_n e_u29) dX3_part_107 k)
        · have hb25 := iq q hb23
          refine Sx.o (fun _ _ _ k => ex_aload_n dX3_part_96 rfl rfl k) ?_
          obtain ⟨r31, e_r31, hb32⟩ := ob2 hb25
          refine sx_callV (dc := 5) (as := []) (stq := [.int r31.1]) (by omega) dX3_part_97 MX3_orderWord kX3_155 iX3_orderWord sX3_orderWord rfl rfl (Reader_orderWord_o e_r31) rfl rfl (Nat.le_of_ble_eq_true rfl) (Nat.le_of_ble_eq_true rfl) (Reader_orderWord_s e_r31) rfl ?_
          refine Sx.o (fun _ _ _ k => ex_goto 107 dX3_part_100 (by decide) k) ?_
          obtain ⟨u34, e_u34, hb35⟩ := ob2 hb32
          obtain rfl := Option.some.inj hb35
          exact Sx.r (fun _ _ _ k => ex_zret rfl (nrZ_n e_u34) dX3_part_107 k)
      · have hb21 := ip q hb19
        refine Sx.o (fun _ _ _ k => ex_aload_n dX3_part_84 rfl rfl k) ?_
        obtain ⟨r36, e_r36, hb37⟩ := ob2 hb21
        refine sx_callV (dc := 2) (as := []) (stq := [.int r36.1]) (by omega) dX3_part_85 MX3_number kX3_153 iX3_number sX3_number rfl rfl (Reader_number_o e_r36) rfl rfl (Nat.le_of_ble_eq_true rfl) (Nat.le_of_ble_eq_true rfl) (Reader_number_s e_r36) rfl ?_
        obtain ⟨u39, e_u39, hb40⟩ := ob2 hb37
        obtain rfl := Option.some.inj hb40
        exact Sx.r (fun _ _ _ k => ex_zret rfl (nrZ_n e_u39) dX3_part_88 k)
    · have hb10 := iq q hb8
      refine Sx.o (fun _ _ _ k => op_iconst (0 : Int32) dX3_part_61 (by decide) k) ?_
      obtain rfl := Option.some.inj hb10
      exact Sx.r (fun _ _ _ k => ex_zret rfl rfl dX3_part_62 k)
  · have hb6 := iq q hb4
    refine Sx.o (fun _ _ _ k => ex_iload_n dX3_part_12 rfl k) ?_
    refine Sx.o (fun _ _ _ k => op_bipush (8 : Int32) dX3_part_13 (by decide) k) ?_
    refine Sx.b (fun _ _ _ k1 k2 => ex_icmp_ge 50 dX3_part_15 (by decide) k1 k2) (fun q => ?_) (fun q => ?_)
    · have hb41 := ip q hb6
      refine Sx.o (fun _ _ _ k => op_iconst (0 : Int32) dX3_part_50 (by decide) k) ?_
      obtain rfl := Option.some.inj hb41
      exact Sx.r (fun _ _ _ k => ex_zret rfl rfl dX3_part_51 k)
    · have hb42 := iq q hb6
      refine Sx.o (fun _ _ _ k => ex_aload_n dX3_part_18 rfl rfl k) ?_
      refine Sx.o (fun _ _ _ k => op_bipush (91 : Int32) dX3_part_19 (by decide) k) ?_
      obtain ⟨r43, e_r43, hb44⟩ := ob2 hb42
      refine sx_callV (dc := 1) (as := [.int (91 : Int32)]) (stq := [.int r43.1]) (by omega) dX3_part_21 MX3_takeSign kX3_48 iX3_takeSign sX3_takeSign rfl rfl (Reader_takeSign_o e_r43) rfl rfl (Nat.le_of_ble_eq_true rfl) (Nat.le_of_ble_eq_true rfl) (Reader_takeSign_s e_r43) rfl ?_
      refine Sx.b (fun _ _ _ k1 k2 => ex_if_eq 50 dX3_part_24 (by decide) k1 k2) (fun q => ?_) (fun q => ?_)
      · have hb46 := ip q hb44
        refine Sx.o (fun _ _ _ k => op_iconst (0 : Int32) dX3_part_50 (by decide) k) ?_
        obtain rfl := Option.some.inj hb46
        exact Sx.r (fun _ _ _ k => ex_zret rfl rfl dX3_part_51 k)
      · have hb47 := iq q hb44
        refine Sx.o (fun _ _ _ k => ex_aload_n dX3_part_27 rfl rfl k) ?_
        refine Sx.o (fun _ _ _ k => ex_iload_n dX3_part_28 rfl k) ?_
        refine Sx.o (fun _ _ _ k => op_iconst (1 : Int32) dX3_part_29 (by decide) k) ?_
        refine Sx.o (fun _ _ _ k => ex_iadd dX3_part_30 k) ?_
        obtain ⟨r48, e_r48, hb49⟩ := ob2 hb47
        obtain ⟨hdd_r48, e_r48⟩ := iz e_r48
        refine sx_callV (dc := (6 + (dd - 1))) (as := [.int (v1 + (1 : Int32))]) (stq := [.int r48.1]) (by omega) dX3_part_31 MX3_sum kX3_118 iX3_sum sX3_sum rfl rfl ((fun e => ((hg _ _ e).2.2.2.1 rfl).1) e_r48) rfl rfl (Nat.le_of_ble_eq_true rfl) (Nat.le_of_ble_eq_true rfl) ((fun e => ((hg _ _ e).2.2.2.1 rfl).2) e_r48) rfl ?_
        refine Sx.b (fun _ _ _ k1 k2 => ex_if_eq 50 dX3_part_34 (by decide) k1 k2) (fun q => ?_) (fun q => ?_)
        · have hb51 := ip q hb49
          refine Sx.o (fun _ _ _ k => op_iconst (0 : Int32) dX3_part_50 (by decide) k) ?_
          obtain rfl := Option.some.inj hb51
          exact Sx.r (fun _ _ _ k => ex_zret rfl rfl dX3_part_51 k)
        · have hb52 := iq q hb49
          refine Sx.o (fun _ _ _ k => ex_aload_n dX3_part_37 rfl rfl k) ?_
          refine Sx.o (fun _ _ _ k => op_bipush (93 : Int32) dX3_part_38 (by decide) k) ?_
          obtain ⟨r53, e_r53, hb54⟩ := ob2 hb52
          refine sx_callV (dc := 1) (as := [.int (93 : Int32)]) (stq := [.int r53.1]) (by omega) dX3_part_40 MX3_takeSign kX3_48 iX3_takeSign sX3_takeSign rfl rfl (Reader_takeSign_o e_r53) rfl rfl (Nat.le_of_ble_eq_true rfl) (Nat.le_of_ble_eq_true rfl) (Reader_takeSign_s e_r53) rfl ?_
          refine Sx.b (fun _ _ _ k1 k2 => ex_if_eq 50 dX3_part_43 (by decide) k1 k2) (fun q => ?_) (fun q => ?_)
          · have hb56 := ip q hb54
            refine Sx.o (fun _ _ _ k => op_iconst (0 : Int32) dX3_part_50 (by decide) k) ?_
            obtain rfl := Option.some.inj hb56
            exact Sx.r (fun _ _ _ k => ex_zret rfl rfl dX3_part_51 k)
          · have hb57 := iq q hb54
            refine Sx.o (fun _ _ _ k => op_iconst (1 : Int32) dX3_part_46 (by decide) k) ?_
            refine Sx.o (fun _ _ _ k => ex_goto 51 dX3_part_47 (by decide) k) ?_
            obtain rfl := Option.some.inj hb57
            exact Sx.r (fun _ _ _ k => ex_zret rfl rfl dX3_part_51 k)
set_option maxHeartbeats 1000000 in
set_option maxRecDepth 100000 in
theorem Reader_term_t {g : (Nat × Nat × Int32 × Int32 × Int32 × Int32 × Nat × am_H) → Option (Int32 × am_H)} (hg : ∀ s r, g s = some r → Reader_partG_P s r) {dd : Nat} {v0 : Nat} {v1 : Int32} {h : am_H} {r : (Int32 × am_H)} (hb : Reader_term_b g dd v0 v1 h = some r) : isO h 3 v0 = true ∧ Sx (6 + dd) mX3_term 0 (am_en [.ref v0, .int v1] 5) [] h (some (.int r.1)) r.2 := by
  unfold Reader_term_b at hb
  obtain ⟨ho, hb⟩ := iz hb
  refine ⟨ho, ?_⟩
  show Sx (6 + dd) mX3_term 0 [.ref v0, .int v1, .retAddr 0, .retAddr 0, .retAddr 0] [] h (some (.int r.1)) r.2
  refine Sx.o (fun _ _ _ k => ex_aload_n dX3_term_0 rfl rfl k) ?_
  refine Sx.o (fun _ _ _ k => ex_iload_n dX3_term_1 rfl k) ?_
  obtain ⟨r58, e_r58, hb59⟩ := ob2 hb
  obtain ⟨hdd_r58, e_r58⟩ := iz e_r58
  refine sx_callV (dc := (6 + (dd - 1))) (as := [.int v1]) (stq := [.int r58.1]) (by omega) dX3_term_2 MX3_part kX3_147 iX3_part sX3_part rfl rfl ((fun e => ((hg _ _ e).1 rfl).1) e_r58) rfl rfl (Nat.le_of_ble_eq_true rfl) (Nat.le_of_ble_eq_true rfl) ((fun e => ((hg _ _ e).1 rfl).2) e_r58) rfl ?_
  refine Sx.o (L' := [.ref v0, .int v1, .int r58.1, .retAddr 0, .retAddr 0]) (fun _ _ _ k => ex_istore_n dX3_term_5 (by decide) k) ?_
  refine Sx.o (fun _ _ _ k => ex_aload_n dX3_term_6 rfl rfl k) ?_
  obtain ⟨x61, e_x61, hb62⟩ := ob2 hb59
  refine sx_callV (dc := 1) (as := []) (stq := [.int x61]) (by omega) dX3_term_7 MX3_multiplying kX3_150 iX3_multiplying sX3_multiplying rfl rfl (Reader_multiplying_o e_x61) rfl rfl (Nat.le_of_ble_eq_true rfl) (Nat.le_of_ble_eq_true rfl) (Reader_multiplying_s e_x61) rfl ?_
  refine Sx.o (L' := [.ref v0, .int v1, .int r58.1, .int x61, .retAddr 0]) (fun _ _ _ k => ex_istore_n dX3_term_10 (by decide) k) ?_
  refine Sx.o (fun _ _ _ k => op_iconst (0 : Int32) dX3_term_11 (by decide) k) ?_
  refine Sx.o (L' := [.ref v0, .int v1, .int r58.1, .int x61, .int (0 : Int32)]) (fun _ _ _ k => ex_istore dX3_term_12 (by decide) k) ?_
  exact (hg _ _ hb62).2.2.1 rfl
set_option maxHeartbeats 1000000 in
set_option maxRecDepth 100000 in
theorem Reader_term_14_t {g : (Nat × Nat × Int32 × Int32 × Int32 × Int32 × Nat × am_H) → Option (Int32 × am_H)} (hg : ∀ s r, g s = some r → Reader_partG_P s r) {dd : Nat} {v0 : Nat} {v1 : Int32} {v2 : Int32} {v3 : Int32} {v4 : Int32} {h : am_H} {r : (Int32 × am_H)} (hb : Reader_term_14_b g dd v0 v1 v2 v3 v4 h = some r) : Sx (6 + dd) mX3_term 14 [.ref v0, .int v1, .int v2, .int v3, .int v4] [] h (some (.int r.1)) r.2 := by
  unfold Reader_term_14_b at hb
  refine Sx.o (fun _ _ _ k => ex_iload dX3_term_14 rfl k) ?_
  refine Sx.o (fun _ _ _ k => op_sipush (400 : Int32) dX3_term_16 (by decide) k) ?_
  refine Sx.b (fun _ _ _ k1 k2 => ex_icmp_ge 65 dX3_term_19 (by decide) k1 k2) (fun q => ?_) (fun q => ?_)
  · have hb63 := ip q hb
    refine Sx.o (fun _ _ _ k => ex_iload_n dX3_term_65 rfl k) ?_
    obtain ⟨u65, e_u65, hb66⟩ := ob2 hb63
    obtain rfl := Option.some.inj hb66
    exact Sx.r (fun _ _ _ k => ex_zret rfl (nrZ_n e_u65) dX3_term_66 k)
  · have hb64 := iq q hb
    refine Sx.o (fun _ _ _ k => ex_iload_n dX3_term_22 rfl k) ?_
    refine Sx.b (fun _ _ _ k1 k2 => ex_if_eq 65 dX3_term_23 (by decide) k1 k2) (fun q => ?_) (fun q => ?_)
    · have hb67 := ip q hb64
      refine Sx.o (fun _ _ _ k => ex_iload_n dX3_term_65 rfl k) ?_
      obtain ⟨u69, e_u69, hb70⟩ := ob2 hb67
      obtain rfl := Option.some.inj hb70
      exact Sx.r (fun _ _ _ k => ex_zret rfl (nrZ_n e_u69) dX3_term_66 k)
    · have hb68 := iq q hb64
      refine Sx.o (fun _ _ _ k => ex_iload_n dX3_term_26 rfl k) ?_
      refine Sx.o (fun _ _ _ k => op_iconst (-1 : Int32) dX3_term_27 (by decide) k) ?_
      refine Sx.b (fun _ _ _ k1 k2 => ex_icmp_eq 65 dX3_term_28 (by decide) k1 k2) (fun q => ?_) (fun q => ?_)
      · have hb71 := ip q hb68
        refine Sx.o (fun _ _ _ k => ex_iload_n dX3_term_65 rfl k) ?_
        obtain ⟨u73, e_u73, hb74⟩ := ob2 hb71
        obtain rfl := Option.some.inj hb74
        exact Sx.r (fun _ _ _ k => ex_zret rfl (nrZ_n e_u73) dX3_term_66 k)
      · have hb72 := iq q hb68
        refine Sx.o (fun _ _ _ k => ex_aload_n dX3_term_31 rfl rfl k) ?_
        obtain ⟨x75, e_x75, hb76⟩ := ob2 hb72
        refine Sx.o (fun _ _ _ k => op_getR fX3_18 dX3_term_32 e_x75 k) ?_
        obtain ⟨h77, e_h77, hb78⟩ := ob2 hb76
        refine sx_callV (dc := 0) (as := []) (stq := []) (by omega) dX3_term_35 MX8_go kX3_65 iX8_go sX8_go rfl rfl (Tape_go_o e_h77) rfl rfl (Nat.le_of_ble_eq_true rfl) (Nat.le_of_ble_eq_true rfl) (Tape_go_s e_h77) rfl ?_
        refine Sx.o (fun _ _ _ k => ex_aload_n dX3_term_38 rfl rfl k) ?_
        refine Sx.o (fun _ _ _ k => ex_iload_n dX3_term_39 rfl k) ?_
        obtain ⟨r80, e_r80, hb81⟩ := ob2 hb78
        obtain ⟨hdd_r80, e_r80⟩ := iz e_r80
        refine sx_callV (dc := (6 + (dd - 1))) (as := [.int v1]) (stq := [.int r80.1]) (by omega) dX3_term_40 MX3_part kX3_147 iX3_part sX3_part rfl rfl ((fun e => ((hg _ _ e).1 rfl).1) e_r80) rfl rfl (Nat.le_of_ble_eq_true rfl) (Nat.le_of_ble_eq_true rfl) ((fun e => ((hg _ _ e).1 rfl).2) e_r80) rfl ?_
        refine Sx.o (L' := [.ref v0, .int v1, .int r80.1, .int v3, .int v4]) (fun _ _ _ k => ex_istore_n dX3_term_43 (by decide) k) ?_
        refine Sx.o (fun _ _ _ k => ex_aload_n dX3_term_44 rfl rfl k) ?_
        obtain ⟨x83, e_x83, hb84⟩ := ob2 hb81
        refine Sx.o (fun _ _ _ k => op_getR fX3_12 dX3_term_45 e_x83 k) ?_
        refine Sx.o (fun _ _ _ k => ex_iload_n dX3_term_48 rfl k) ?_
        refine Sx.o (fun _ _ _ k => op_iconst (0 : Int32) dX3_term_49 (by decide) k) ?_
        obtain ⟨r85, e_r85, hb86⟩ := ob2 hb84
        refine sx_callV (dc := 0) (as := [.int v3, .int (0 : Int32)]) (stq := [.int r85.1]) (by omega) dX3_term_50 MX9_add kX3_111 iX9_add sX9_add rfl rfl (Text_add_o e_r85) rfl rfl (Nat.le_of_ble_eq_true rfl) (Nat.le_of_ble_eq_true rfl) (Text_add_s e_r85) rfl ?_
        refine Sx.o (fun _ _ _ k => ex_pop dX3_term_53 rfl k) ?_
        refine Sx.o (fun _ _ _ k => ex_aload_n dX3_term_54 rfl rfl k) ?_
        obtain ⟨x88, e_x88, hb89⟩ := ob2 hb86
        refine sx_callV (dc := 1) (as := []) (stq := [.int x88]) (by omega) dX3_term_55 MX3_multiplying kX3_150 iX3_multiplying sX3_multiplying rfl rfl (Reader_multiplying_o e_x88) rfl rfl (Nat.le_of_ble_eq_true rfl) (Nat.le_of_ble_eq_true rfl) (Reader_multiplying_s e_x88) rfl ?_
        refine Sx.o (L' := [.ref v0, .int v1, .int r80.1, .int x88, .int v4]) (fun _ _ _ k => ex_istore_n dX3_term_58 (by decide) k) ?_
        refine Sx.o (L' := [.ref v0, .int v1, .int r80.1, .int x88, .int (v4 + (1 : Int32))]) (fun _ _ _ k => op_iinc (1 : Int32) dX3_term_59 (by decide) rfl (by decide) k) ?_
        refine Sx.o (fun _ _ _ k => ex_goto 14 dX3_term_62 (by decide) k) ?_
        exact (hg _ _ hb89).2.2.1 rfl
set_option maxHeartbeats 1000000 in
set_option maxRecDepth 100000 in
theorem Reader_sum_t {g : (Nat × Nat × Int32 × Int32 × Int32 × Int32 × Nat × am_H) → Option (Int32 × am_H)} (hg : ∀ s r, g s = some r → Reader_partG_P s r) {dd : Nat} {v0 : Nat} {v1 : Int32} {h : am_H} {r : (Int32 × am_H)} (hb : Reader_sum_b g dd v0 v1 h = some r) : isO h 3 v0 = true ∧ Sx (6 + dd) mX3_sum 0 (am_en [.ref v0, .int v1] 5) [] h (some (.int r.1)) r.2 := by
  unfold Reader_sum_b at hb
  obtain ⟨ho, hb⟩ := iz hb
  refine ⟨ho, ?_⟩
  show Sx (6 + dd) mX3_sum 0 [.ref v0, .int v1, .retAddr 0, .retAddr 0, .retAddr 0] [] h (some (.int r.1)) r.2
  refine Sx.o (fun _ _ _ k => ex_aload_n dX3_sum_0 rfl rfl k) ?_
  refine Sx.o (fun _ _ _ k => ex_iload_n dX3_sum_1 rfl k) ?_
  obtain ⟨r90, e_r90, hb91⟩ := ob2 hb
  obtain ⟨hdd_r90, e_r90⟩ := iz e_r90
  refine sx_callV (dc := (6 + (dd - 1))) (as := [.int v1]) (stq := [.int r90.1]) (by omega) dX3_sum_2 MX3_term kX3_144 iX3_term sX3_term rfl rfl ((fun e => ((hg _ _ e).2.1 rfl).1) e_r90) rfl rfl (Nat.le_of_ble_eq_true rfl) (Nat.le_of_ble_eq_true rfl) ((fun e => ((hg _ _ e).2.1 rfl).2) e_r90) rfl ?_
  refine Sx.o (L' := [.ref v0, .int v1, .int r90.1, .retAddr 0, .retAddr 0]) (fun _ _ _ k => ex_istore_n dX3_sum_5 (by decide) k) ?_
  refine Sx.o (fun _ _ _ k => op_iconst (0 : Int32) dX3_sum_6 (by decide) k) ?_
  refine Sx.o (L' := [.ref v0, .int v1, .int r90.1, .int (0 : Int32), .retAddr 0]) (fun _ _ _ k => ex_istore_n dX3_sum_7 (by decide) k) ?_
  exact (hg _ _ hb91).2.2.2.2.1 rfl
set_option maxHeartbeats 1000000 in
set_option maxRecDepth 100000 in
theorem Reader_sum_8_t {g : (Nat × Nat × Int32 × Int32 × Int32 × Int32 × Nat × am_H) → Option (Int32 × am_H)} (hg : ∀ s r, g s = some r → Reader_partG_P s r) {dd : Nat} {v0 : Nat} {v1 : Int32} {v2 : Int32} {v3 : Int32} {h : am_H} {r : (Int32 × am_H)} (hb : Reader_sum_8_b g dd v0 v1 v2 v3 h = some r) : Sx (6 + dd) mX3_sum 8 [.ref v0, .int v1, .int v2, .int v3, .retAddr 0] [] h (some (.int r.1)) r.2 := by
  unfold Reader_sum_8_b at hb
  refine Sx.o (fun _ _ _ k => ex_iload_n dX3_sum_8 rfl k) ?_
  refine Sx.o (fun _ _ _ k => op_sipush (400 : Int32) dX3_sum_9 (by decide) k) ?_
  refine Sx.b (fun _ _ _ k1 k2 => ex_icmp_ge 92 dX3_sum_12 (by decide) k1 k2) (fun q => ?_) (fun q => ?_)
  · have hb93 := ip q hb
    refine Sx.o (fun _ _ _ k => ex_iload_n dX3_sum_92 rfl k) ?_
    obtain ⟨u95, e_u95, hb96⟩ := ob2 hb93
    obtain rfl := Option.some.inj hb96
    exact Sx.r (fun _ _ _ k => ex_zret rfl (nrZ_n e_u95) dX3_sum_93 k)
  · have hb94 := iq q hb
    refine Sx.o (fun _ _ _ k => ex_iload_n dX3_sum_15 rfl k) ?_
    refine Sx.b (fun _ _ _ k1 k2 => ex_if_eq 92 dX3_sum_16 (by decide) k1 k2) (fun q => ?_) (fun q => ?_)
    · have hb97 := ip q hb94
      refine Sx.o (fun _ _ _ k => ex_iload_n dX3_sum_92 rfl k) ?_
      obtain ⟨u99, e_u99, hb100⟩ := ob2 hb97
      obtain rfl := Option.some.inj hb100
      exact Sx.r (fun _ _ _ k => ex_zret rfl (nrZ_n e_u99) dX3_sum_93 k)
    · have hb98 := iq q hb94
      refine Sx.o (fun _ _ _ k => ex_aload_n dX3_sum_19 rfl rfl k) ?_
      obtain ⟨x101, e_x101, hb102⟩ := ob2 hb98
      refine Sx.o (fun _ _ _ k => op_getR fX3_18 dX3_sum_20 e_x101 k) ?_
      refine Sx.o (fun _ _ _ k => op_bipush (43 : Int32) dX3_sum_23 (by decide) k) ?_
      obtain ⟨x103, e_x103, hb104⟩ := ob2 hb102
      refine sx_callV (dc := 0) (as := [.int (43 : Int32)]) (stq := [.int x103]) (by omega) dX3_sum_25 MX8_isSign kX3_91 iX8_isSign sX8_isSign rfl rfl (Tape_isSign_o e_x103) rfl rfl (Nat.le_of_ble_eq_true rfl) (Nat.le_of_ble_eq_true rfl) (Tape_isSign_s e_x103) rfl ?_
      refine Sx.bn (fun _ _ _ k1 k2 => ex_if_ne 43 dX3_sum_28 (by decide) k1 k2) (fun q => ?_) (fun q => ?_)
      · have hb105 := iq q hb104
        refine Sx.fg [true, true, false, true, true] ?_
        exact (hg _ _ hb105).2.2.2.2.2.1 rfl
      · have hb106 := ip q hb104
        refine Sx.o (fun _ _ _ k => ex_aload_n dX3_sum_31 rfl rfl k) ?_
        obtain ⟨x107, e_x107, hb108⟩ := ob2 hb106
        refine Sx.o (fun _ _ _ k => op_getR fX3_18 dX3_sum_32 e_x107 k) ?_
        refine Sx.o (fun _ _ _ k => op_bipush (45 : Int32) dX3_sum_35 (by decide) k) ?_
        obtain ⟨x109, e_x109, hb110⟩ := ob2 hb108
        refine sx_callV (dc := 0) (as := [.int (45 : Int32)]) (stq := [.int x109]) (by omega) dX3_sum_37 MX8_isSign kX3_91 iX8_isSign sX8_isSign rfl rfl (Tape_isSign_o e_x109) rfl rfl (Nat.le_of_ble_eq_true rfl) (Nat.le_of_ble_eq_true rfl) (Tape_isSign_s e_x109) rfl ?_
        refine Sx.b (fun _ _ _ k1 k2 => ex_if_eq 92 dX3_sum_40 (by decide) k1 k2) (fun q => ?_) (fun q => ?_)
        · have hb111 := ip q hb110
          refine Sx.o (fun _ _ _ k => ex_iload_n dX3_sum_92 rfl k) ?_
          obtain ⟨u113, e_u113, hb114⟩ := ob2 hb111
          obtain rfl := Option.some.inj hb114
          exact Sx.r (fun _ _ _ k => ex_zret rfl (nrZ_n e_u113) dX3_sum_93 k)
        · have hb112 := iq q hb110
          refine Sx.fg [true, true, false, true, true] ?_
          exact (hg _ _ hb112).2.2.2.2.2.1 rfl
set_option maxHeartbeats 1000000 in
set_option maxRecDepth 100000 in
theorem Reader_sum_43_t {g : (Nat × Nat × Int32 × Int32 × Int32 × Int32 × Nat × am_H) → Option (Int32 × am_H)} (hg : ∀ s r, g s = some r → Reader_partG_P s r) {dd : Nat} {v0 : Nat} {v1 : Int32} {v3 : Int32} {h : am_H} {r : (Int32 × am_H)} (hb : Reader_sum_43_b g dd v0 v1 v3 h = some r) : Sx (6 + dd) mX3_sum 43 [.ref v0, .int v1, .retAddr 0, .int v3, .retAddr 0] [] h (some (.int r.1)) r.2 := by
  unfold Reader_sum_43_b at hb
  refine Sx.o (fun _ _ _ k => ex_aload_n dX3_sum_43 rfl rfl k) ?_
  obtain ⟨x115, e_x115, hb116⟩ := ob2 hb
  refine Sx.o (fun _ _ _ k => op_getR fX3_18 dX3_sum_44 e_x115 k) ?_
  refine Sx.o (fun _ _ _ k => op_bipush (43 : Int32) dX3_sum_47 (by decide) k) ?_
  obtain ⟨x117, e_x117, hb118⟩ := ob2 hb116
  refine sx_callV (dc := 0) (as := [.int (43 : Int32)]) (stq := [.int x117]) (by omega) dX3_sum_49 MX8_isSign kX3_91 iX8_isSign sX8_isSign rfl rfl (Tape_isSign_o e_x117) rfl rfl (Nat.le_of_ble_eq_true rfl) (Nat.le_of_ble_eq_true rfl) (Tape_isSign_s e_x117) rfl ?_
  refine Sx.b (fun _ _ _ k1 k2 => ex_if_eq 59 dX3_sum_52 (by decide) k1 k2) (fun q => ?_) (fun q => ?_)
  · have hb119 := ip q hb118
    refine Sx.o (fun _ _ _ k => op_iconst (4 : Int32) dX3_sum_59 (by decide) k) ?_
    exact (hg _ _ hb119).2.2.2.2.2.2.1 rfl
  · have hb120 := iq q hb118
    refine Sx.o (fun _ _ _ k => op_iconst (3 : Int32) dX3_sum_55 (by decide) k) ?_
    refine Sx.o (fun _ _ _ k => ex_goto 60 dX3_sum_56 (by decide) k) ?_
    exact (hg _ _ hb120).2.2.2.2.2.2.1 rfl
set_option maxHeartbeats 1000000 in
set_option maxRecDepth 100000 in
theorem Reader_sum_60_t {g : (Nat × Nat × Int32 × Int32 × Int32 × Int32 × Nat × am_H) → Option (Int32 × am_H)} (hg : ∀ s r, g s = some r → Reader_partG_P s r) {dd : Nat} {v0 : Nat} {v1 : Int32} {v3 : Int32} {s0 : Int32} {h : am_H} {r : (Int32 × am_H)} (hb : Reader_sum_60_b g dd v0 v1 v3 s0 h = some r) : Sx (6 + dd) mX3_sum 60 [.ref v0, .int v1, .retAddr 0, .int v3, .retAddr 0] [.int s0] h (some (.int r.1)) r.2 := by
  unfold Reader_sum_60_b at hb
  refine Sx.o (L' := [.ref v0, .int v1, .retAddr 0, .int v3, .int s0]) (fun _ _ _ k => ex_istore dX3_sum_60 (by decide) k) ?_
  refine Sx.o (fun _ _ _ k => ex_aload_n dX3_sum_62 rfl rfl k) ?_
  obtain ⟨x121, e_x121, hb122⟩ := ob2 hb
  refine Sx.o (fun _ _ _ k => op_getR fX3_18 dX3_sum_63 e_x121 k) ?_
  obtain ⟨h123, e_h123, hb124⟩ := ob2 hb122
  refine sx_callV (dc := 0) (as := []) (stq := []) (by omega) dX3_sum_66 MX8_go kX3_65 iX8_go sX8_go rfl rfl (Tape_go_o e_h123) rfl rfl (Nat.le_of_ble_eq_true rfl) (Nat.le_of_ble_eq_true rfl) (Tape_go_s e_h123) rfl ?_
  refine Sx.o (fun _ _ _ k => ex_aload_n dX3_sum_69 rfl rfl k) ?_
  refine Sx.o (fun _ _ _ k => ex_iload_n dX3_sum_70 rfl k) ?_
  obtain ⟨r126, e_r126, hb127⟩ := ob2 hb124
  obtain ⟨hdd_r126, e_r126⟩ := iz e_r126
  refine sx_callV (dc := (6 + (dd - 1))) (as := [.int v1]) (stq := [.int r126.1]) (by omega) dX3_sum_71 MX3_term kX3_144 iX3_term sX3_term rfl rfl ((fun e => ((hg _ _ e).2.1 rfl).1) e_r126) rfl rfl (Nat.le_of_ble_eq_true rfl) (Nat.le_of_ble_eq_true rfl) ((fun e => ((hg _ _ e).2.1 rfl).2) e_r126) rfl ?_
  refine Sx.o (L' := [.ref v0, .int v1, .int r126.1, .int v3, .int s0]) (fun _ _ _ k => ex_istore_n dX3_sum_74 (by decide) k) ?_
  refine Sx.o (fun _ _ _ k => ex_aload_n dX3_sum_75 rfl rfl k) ?_
  obtain ⟨x129, e_x129, hb130⟩ := ob2 hb127
  refine Sx.o (fun _ _ _ k => op_getR fX3_12 dX3_sum_76 e_x129 k) ?_
  refine Sx.o (fun _ _ _ k => ex_iload dX3_sum_79 rfl k) ?_
  refine Sx.o (fun _ _ _ k => op_iconst (0 : Int32) dX3_sum_81 (by decide) k) ?_
  obtain ⟨r131, e_r131, hb132⟩ := ob2 hb130
  refine sx_callV (dc := 0) (as := [.int s0, .int (0 : Int32)]) (stq := [.int r131.1]) (by omega) dX3_sum_82 MX9_add kX3_111 iX9_add sX9_add rfl rfl (Text_add_o e_r131) rfl rfl (Nat.le_of_ble_eq_true rfl) (Nat.le_of_ble_eq_true rfl) (Text_add_s e_r131) rfl ?_
  refine Sx.o (fun _ _ _ k => ex_pop dX3_sum_85 rfl k) ?_
  refine Sx.o (L' := [.ref v0, .int v1, .int r126.1, .int (v3 + (1 : Int32)), .int s0]) (fun _ _ _ k => op_iinc (1 : Int32) dX3_sum_86 (by decide) rfl (by decide) k) ?_
  refine Sx.o (fun _ _ _ k => ex_goto 8 dX3_sum_89 (by decide) k) ?_
  refine Sx.fg [true, true, true, true, false] ?_
  exact (hg _ _ hb132).2.2.2.2.1 rfl
theorem Reader_partG_T : ∀ s r, fx Reader_partG_F Reader_partG_M s = some r → Reader_partG_P s r := fx_ind Reader_partG_M Reader_partG_P (fun g hg s r hb => by
  unfold Reader_partG_F at hb
  exact ⟨fun q => Reader_part_t hg (ip q hb), fun q => Reader_term_t hg (ip q (iq (by rw [q]; decide) hb)), fun q => Reader_term_14_t hg (ip q (iq (by rw [q]; decide) (iq (by rw [q]; decide) hb))), fun q => Reader_sum_t hg (ip q (iq (by rw [q]; decide) (iq (by rw [q]; decide) (iq (by rw [q]; decide) hb)))), fun q => Reader_sum_8_t hg (ip q (iq (by rw [q]; decide) (iq (by rw [q]; decide) (iq (by rw [q]; decide) (iq (by rw [q]; decide) hb))))), fun q => Reader_sum_43_t hg (ip q (iq (by rw [q]; decide) (iq (by rw [q]; decide) (iq (by rw [q]; decide) (iq (by rw [q]; decide) (iq (by rw [q]; decide) hb)))))), fun q => Reader_sum_60_t hg (ip q (iq (by rw [q]; decide) (iq (by rw [q]; decide) (iq (by rw [q]; decide) (iq (by rw [q]; decide) (iq (by rw [q]; decide) (iq (by rw [q]; decide) hb))))))), trivial⟩)
set_option maxHeartbeats 1000000 in
set_option maxRecDepth 100000 in
theorem Reader_part_r {g : (Nat × Nat × Int32 × Int32 × Int32 × Int32 × Nat × am_H) → Option (Int32 × am_H)} (hg : ∀ s r, g s = some r → Eqs s.2.2.2.2.2.2.2 r.2) {dd : Nat} {v0 : Nat} {v1 : Int32} {h : am_H} {r : (Int32 × am_H)} (hb : Reader_part_b g dd v0 v1 h = some r) : Eqs h r.2 := by
  unfold Reader_part_b at hb
  have w0 := Eqs.rf h
  obtain ⟨ho, hb⟩ := iz hb
  obtain ⟨x1, e_x1, hb2⟩ := ob2 hb
  obtain ⟨x3, e_x3, hb4⟩ := ob2 hb2
  by_cases q : x3 = (0 : Int32)
  · have hb5 := ip q hb4
    obtain ⟨x7, e_x7, hb8⟩ := ob2 hb5
    by_cases q : x7 < (50 : Int32)
    · have hb9 := ip q hb8
      obtain ⟨x11, e_x11, hb12⟩ := ob2 hb9
      obtain ⟨h13, e_h13, hb14⟩ := ob2 hb12
      have w15 := w0.tr (pV_q e_h13)
      obtain ⟨x16, e_x16, hb17⟩ := ob2 hb14
      obtain ⟨x18, e_x18, hb19⟩ := ob2 hb17
      by_cases q : x18 = (2 : Int32)
      · have hb21 := ip q hb19
        obtain ⟨r36, e_r36, hb37⟩ := ob2 hb21
        have w38 := w15.tr (Reader_number_q e_r36)
        obtain ⟨u39, e_u39, hb40⟩ := ob2 hb37
        obtain rfl := Option.some.inj hb40
        exact w38
      · have hb20 := iq q hb19
        obtain ⟨x22, e_x22, hb23⟩ := ob2 hb20
        by_cases q : x22 = (0 : Int32)
        · have hb24 := ip q hb23
          obtain ⟨r26, e_r26, hb27⟩ := ob2 hb24
          have w28 := w15.tr (Reader_lawWord_q e_r26)
          obtain ⟨u29, e_u29, hb30⟩ := ob2 hb27
          obtain rfl := Option.some.inj hb30
          exact w28
        · have hb25 := iq q hb23
          obtain ⟨r31, e_r31, hb32⟩ := ob2 hb25
          have w33 := w15.tr (Reader_orderWord_q e_r31)
          obtain ⟨u34, e_u34, hb35⟩ := ob2 hb32
          obtain rfl := Option.some.inj hb35
          exact w33
    · have hb10 := iq q hb8
      obtain rfl := Option.some.inj hb10
      exact w0
  · have hb6 := iq q hb4
    by_cases q : (8 : Int32) ≤ v1
    · have hb41 := ip q hb6
      obtain rfl := Option.some.inj hb41
      exact w0
    · have hb42 := iq q hb6
      obtain ⟨r43, e_r43, hb44⟩ := ob2 hb42
      have w45 := w0.tr (Reader_takeSign_q e_r43)
      by_cases q : r43.1 = (0 : Int32)
      · have hb46 := ip q hb44
        obtain rfl := Option.some.inj hb46
        exact w45
      · have hb47 := iq q hb44
        obtain ⟨r48, e_r48, hb49⟩ := ob2 hb47
        obtain ⟨hdd_r48, e_r48⟩ := iz e_r48
        have w50 := w45.tr (hg _ _ e_r48)
        by_cases q : r48.1 = (0 : Int32)
        · have hb51 := ip q hb49
          obtain rfl := Option.some.inj hb51
          exact w50
        · have hb52 := iq q hb49
          obtain ⟨r53, e_r53, hb54⟩ := ob2 hb52
          have w55 := w50.tr (Reader_takeSign_q e_r53)
          by_cases q : r53.1 = (0 : Int32)
          · have hb56 := ip q hb54
            obtain rfl := Option.some.inj hb56
            exact w55
          · have hb57 := iq q hb54
            obtain rfl := Option.some.inj hb57
            exact w55
set_option maxHeartbeats 1000000 in
set_option maxRecDepth 100000 in
theorem Reader_term_r {g : (Nat × Nat × Int32 × Int32 × Int32 × Int32 × Nat × am_H) → Option (Int32 × am_H)} (hg : ∀ s r, g s = some r → Eqs s.2.2.2.2.2.2.2 r.2) {dd : Nat} {v0 : Nat} {v1 : Int32} {h : am_H} {r : (Int32 × am_H)} (hb : Reader_term_b g dd v0 v1 h = some r) : Eqs h r.2 := by
  unfold Reader_term_b at hb
  have w0 := Eqs.rf h
  obtain ⟨ho, hb⟩ := iz hb
  obtain ⟨r58, e_r58, hb59⟩ := ob2 hb
  obtain ⟨hdd_r58, e_r58⟩ := iz e_r58
  have w60 := w0.tr (hg _ _ e_r58)
  obtain ⟨x61, e_x61, hb62⟩ := ob2 hb59
  exact w60.tr (hg _ _ hb62)
set_option maxHeartbeats 1000000 in
set_option maxRecDepth 100000 in
theorem Reader_term_14_r {g : (Nat × Nat × Int32 × Int32 × Int32 × Int32 × Nat × am_H) → Option (Int32 × am_H)} (hg : ∀ s r, g s = some r → Eqs s.2.2.2.2.2.2.2 r.2) {dd : Nat} {v0 : Nat} {v1 : Int32} {v2 : Int32} {v3 : Int32} {v4 : Int32} {h : am_H} {r : (Int32 × am_H)} (hb : Reader_term_14_b g dd v0 v1 v2 v3 v4 h = some r) : Eqs h r.2 := by
  unfold Reader_term_14_b at hb
  have w0 := Eqs.rf h
  by_cases q : (400 : Int32) ≤ v4
  · have hb63 := ip q hb
    obtain ⟨u65, e_u65, hb66⟩ := ob2 hb63
    obtain rfl := Option.some.inj hb66
    exact w0
  · have hb64 := iq q hb
    by_cases q : v2 = (0 : Int32)
    · have hb67 := ip q hb64
      obtain ⟨u69, e_u69, hb70⟩ := ob2 hb67
      obtain rfl := Option.some.inj hb70
      exact w0
    · have hb68 := iq q hb64
      by_cases q : v3 = (-1 : Int32)
      · have hb71 := ip q hb68
        obtain ⟨u73, e_u73, hb74⟩ := ob2 hb71
        obtain rfl := Option.some.inj hb74
        exact w0
      · have hb72 := iq q hb68
        obtain ⟨x75, e_x75, hb76⟩ := ob2 hb72
        obtain ⟨h77, e_h77, hb78⟩ := ob2 hb76
        have w79 := w0.tr (Tape_go_q e_h77)
        obtain ⟨r80, e_r80, hb81⟩ := ob2 hb78
        obtain ⟨hdd_r80, e_r80⟩ := iz e_r80
        have w82 := w79.tr (hg _ _ e_r80)
        obtain ⟨x83, e_x83, hb84⟩ := ob2 hb81
        obtain ⟨r85, e_r85, hb86⟩ := ob2 hb84
        have w87 := w82.tr (Text_add_q e_r85)
        obtain ⟨x88, e_x88, hb89⟩ := ob2 hb86
        exact w87.tr (hg _ _ hb89)
set_option maxHeartbeats 1000000 in
set_option maxRecDepth 100000 in
theorem Reader_sum_r {g : (Nat × Nat × Int32 × Int32 × Int32 × Int32 × Nat × am_H) → Option (Int32 × am_H)} (hg : ∀ s r, g s = some r → Eqs s.2.2.2.2.2.2.2 r.2) {dd : Nat} {v0 : Nat} {v1 : Int32} {h : am_H} {r : (Int32 × am_H)} (hb : Reader_sum_b g dd v0 v1 h = some r) : Eqs h r.2 := by
  unfold Reader_sum_b at hb
  have w0 := Eqs.rf h
  obtain ⟨ho, hb⟩ := iz hb
  obtain ⟨r90, e_r90, hb91⟩ := ob2 hb
  obtain ⟨hdd_r90, e_r90⟩ := iz e_r90
  have w92 := w0.tr (hg _ _ e_r90)
  exact w92.tr (hg _ _ hb91)
set_option maxHeartbeats 1000000 in
set_option maxRecDepth 100000 in
theorem Reader_sum_8_r {g : (Nat × Nat × Int32 × Int32 × Int32 × Int32 × Nat × am_H) → Option (Int32 × am_H)} (hg : ∀ s r, g s = some r → Eqs s.2.2.2.2.2.2.2 r.2) {dd : Nat} {v0 : Nat} {v1 : Int32} {v2 : Int32} {v3 : Int32} {h : am_H} {r : (Int32 × am_H)} (hb : Reader_sum_8_b g dd v0 v1 v2 v3 h = some r) : Eqs h r.2 := by
  unfold Reader_sum_8_b at hb
  have w0 := Eqs.rf h
  by_cases q : (400 : Int32) ≤ v3
  · have hb93 := ip q hb
    obtain ⟨u95, e_u95, hb96⟩ := ob2 hb93
    obtain rfl := Option.some.inj hb96
    exact w0
  · have hb94 := iq q hb
    by_cases q : v2 = (0 : Int32)
    · have hb97 := ip q hb94
      obtain ⟨u99, e_u99, hb100⟩ := ob2 hb97
      obtain rfl := Option.some.inj hb100
      exact w0
    · have hb98 := iq q hb94
      obtain ⟨x101, e_x101, hb102⟩ := ob2 hb98
      obtain ⟨x103, e_x103, hb104⟩ := ob2 hb102
      by_cases q : x103 = (0 : Int32)
      · have hb106 := ip q hb104
        obtain ⟨x107, e_x107, hb108⟩ := ob2 hb106
        obtain ⟨x109, e_x109, hb110⟩ := ob2 hb108
        by_cases q : x109 = (0 : Int32)
        · have hb111 := ip q hb110
          obtain ⟨u113, e_u113, hb114⟩ := ob2 hb111
          obtain rfl := Option.some.inj hb114
          exact w0
        · have hb112 := iq q hb110
          exact w0.tr (hg _ _ hb112)
      · have hb105 := iq q hb104
        exact w0.tr (hg _ _ hb105)
set_option maxHeartbeats 1000000 in
set_option maxRecDepth 100000 in
theorem Reader_sum_43_r {g : (Nat × Nat × Int32 × Int32 × Int32 × Int32 × Nat × am_H) → Option (Int32 × am_H)} (hg : ∀ s r, g s = some r → Eqs s.2.2.2.2.2.2.2 r.2) {dd : Nat} {v0 : Nat} {v1 : Int32} {v3 : Int32} {h : am_H} {r : (Int32 × am_H)} (hb : Reader_sum_43_b g dd v0 v1 v3 h = some r) : Eqs h r.2 := by
  unfold Reader_sum_43_b at hb
  have w0 := Eqs.rf h
  obtain ⟨x115, e_x115, hb116⟩ := ob2 hb
  obtain ⟨x117, e_x117, hb118⟩ := ob2 hb116
  by_cases q : x117 = (0 : Int32)
  · have hb119 := ip q hb118
    exact w0.tr (hg _ _ hb119)
  · have hb120 := iq q hb118
    exact w0.tr (hg _ _ hb120)
set_option maxHeartbeats 1000000 in
set_option maxRecDepth 100000 in
theorem Reader_sum_60_r {g : (Nat × Nat × Int32 × Int32 × Int32 × Int32 × Nat × am_H) → Option (Int32 × am_H)} (hg : ∀ s r, g s = some r → Eqs s.2.2.2.2.2.2.2 r.2) {dd : Nat} {v0 : Nat} {v1 : Int32} {v3 : Int32} {s0 : Int32} {h : am_H} {r : (Int32 × am_H)} (hb : Reader_sum_60_b g dd v0 v1 v3 s0 h = some r) : Eqs h r.2 := by
  unfold Reader_sum_60_b at hb
  have w0 := Eqs.rf h
  obtain ⟨x121, e_x121, hb122⟩ := ob2 hb
  obtain ⟨h123, e_h123, hb124⟩ := ob2 hb122
  have w125 := w0.tr (Tape_go_q e_h123)
  obtain ⟨r126, e_r126, hb127⟩ := ob2 hb124
  obtain ⟨hdd_r126, e_r126⟩ := iz e_r126
  have w128 := w125.tr (hg _ _ e_r126)
  obtain ⟨x129, e_x129, hb130⟩ := ob2 hb127
  obtain ⟨r131, e_r131, hb132⟩ := ob2 hb130
  have w133 := w128.tr (Text_add_q e_r131)
  exact w133.tr (hg _ _ hb132)
theorem Reader_partG_Q : ∀ s r, fx Reader_partG_F Reader_partG_M s = some r → Eqs s.2.2.2.2.2.2.2 r.2 := fx_ind Reader_partG_M (fun s r => Eqs s.2.2.2.2.2.2.2 r.2) (fun g hg s r hb => by
  unfold Reader_partG_F at hb
  by_cases q0 : s.1 = 0
  · exact Reader_part_r hg (ip q0 hb)
  · have hb0 := iq q0 hb
    by_cases q1 : s.1 = 10000
    · exact Reader_term_r hg (ip q1 hb0)
    · have hb1 := iq q1 hb0
      by_cases q2 : s.1 = 10014
      · exact Reader_term_14_r hg (ip q2 hb1)
      · have hb2 := iq q2 hb1
        by_cases q3 : s.1 = 20000
        · exact Reader_sum_r hg (ip q3 hb2)
        · have hb3 := iq q3 hb2
          by_cases q4 : s.1 = 20008
          · exact Reader_sum_8_r hg (ip q4 hb3)
          · have hb4 := iq q4 hb3
            by_cases q5 : s.1 = 20043
            · exact Reader_sum_43_r hg (ip q5 hb4)
            · have hb5 := iq q5 hb4
              by_cases q6 : s.1 = 20060
              · exact Reader_sum_60_r hg (ip q6 hb5)
              · have hb6 := iq q6 hb5
                exact nomatch hb6)
noncomputable def Reader_part (dd : Nat) (v0 : Nat) (v1 : Int32) (h : am_H) : Option (Int32 × am_H) := fx Reader_partG_F Reader_partG_M (0, dd, v1, 0, 0, 0, v0, h)
noncomputable def Reader_term (dd : Nat) (v0 : Nat) (v1 : Int32) (h : am_H) : Option (Int32 × am_H) := fx Reader_partG_F Reader_partG_M (10000, dd, v1, 0, 0, 0, v0, h)
noncomputable def Reader_term_14 (dd : Nat) (v0 : Nat) (v1 : Int32) (v2 : Int32) (v3 : Int32) (v4 : Int32) (h : am_H) : Option (Int32 × am_H) := fx Reader_partG_F Reader_partG_M (10014, dd, v1, v2, v3, v4, v0, h)
noncomputable def Reader_sum (dd : Nat) (v0 : Nat) (v1 : Int32) (h : am_H) : Option (Int32 × am_H) := fx Reader_partG_F Reader_partG_M (20000, dd, v1, 0, 0, 0, v0, h)
noncomputable def Reader_sum_8 (dd : Nat) (v0 : Nat) (v1 : Int32) (v2 : Int32) (v3 : Int32) (h : am_H) : Option (Int32 × am_H) := fx Reader_partG_F Reader_partG_M (20008, dd, v1, v2, v3, 0, v0, h)
noncomputable def Reader_sum_43 (dd : Nat) (v0 : Nat) (v1 : Int32) (v3 : Int32) (h : am_H) : Option (Int32 × am_H) := fx Reader_partG_F Reader_partG_M (20043, dd, v1, v3, 0, 0, v0, h)
noncomputable def Reader_sum_60 (dd : Nat) (v0 : Nat) (v1 : Int32) (v3 : Int32) (s0 : Int32) (h : am_H) : Option (Int32 × am_H) := fx Reader_partG_F Reader_partG_M (20060, dd, v1, v3, s0, 0, v0, h)
set_option maxHeartbeats 1000000 in
set_option maxRecDepth 100000 in
theorem Reader_part_e (dd : Nat) (v0 : Nat) (v1 : Int32) (h : am_H) : Reader_part dd v0 v1 h = (if isO h 3 v0 = true then (gR h 3 v0 1).bind fun x1 => (Tape_isSign x1 (91 : Int32) h).bind fun x3 => if x3 = (0 : Int32) then (gI h 3 v0 3).bind fun x7 => if x7 < (50 : Int32) then (gI h 3 v0 3).bind fun x11 => (pV h 3 v0 3 (.int (x11 + (1 : Int32)))).bind fun h13 => (gR h13 3 v0 1).bind fun x16 => (gI h13 8 x16 2).bind fun x18 => if x18 = (2 : Int32) then (Reader_number v0 h13).bind fun r36 => (nrZ r36.1).bind fun u39 => some (r36.1, r36.2) else (gI h13 3 v0 2).bind fun x22 => if x22 = (0 : Int32) then (Reader_lawWord v0 h13).bind fun r26 => (nrZ r26.1).bind fun u29 => some (r26.1, r26.2) else (Reader_orderWord v0 h13).bind fun r31 => (nrZ r31.1).bind fun u34 => some (r31.1, r31.2) else some ((0 : Int32), h) else if (8 : Int32) ≤ v1 then some ((0 : Int32), h) else (Reader_takeSign v0 (91 : Int32) h).bind fun r43 => if r43.1 = (0 : Int32) then some ((0 : Int32), r43.2) else (if 0 < dd then Reader_sum (dd - 1) v0 (v1 + (1 : Int32)) r43.2 else none).bind fun r48 => if r48.1 = (0 : Int32) then some ((0 : Int32), r48.2) else (Reader_takeSign v0 (93 : Int32) r48.2).bind fun r53 => if r53.1 = (0 : Int32) then some ((0 : Int32), r53.2) else some ((1 : Int32), r53.2) else none) := (fx_eq Reader_partG_M (0, dd, v1, 0, 0, 0, v0, h)).trans (if_pos rfl)
theorem Reader_part_q {dd : Nat} {v0 : Nat} {v1 : Int32} {h : am_H} {r : (Int32 × am_H)} (hb : Reader_part dd v0 v1 h = some r) : Eqs h r.2 := Reader_partG_Q _ _ hb
theorem Reader_part_s {dd : Nat} {v0 : Nat} {v1 : Int32} {h : am_H} {r : (Int32 × am_H)} (hb : Reader_part dd v0 v1 h = some r) : Sx (6 + dd) mX3_part 0 (am_en [.ref v0, .int v1] 2) [] h (some (.int r.1)) r.2 := ((Reader_partG_T _ _ hb).1 rfl).2
theorem Reader_part_o {dd : Nat} {v0 : Nat} {v1 : Int32} {h : am_H} {r : (Int32 × am_H)} (hb : Reader_part dd v0 v1 h = some r) : isO h 3 v0 = true := ((Reader_partG_T _ _ hb).1 rfl).1
set_option maxHeartbeats 1000000 in
set_option maxRecDepth 100000 in
theorem Reader_term_e (dd : Nat) (v0 : Nat) (v1 : Int32) (h : am_H) : Reader_term dd v0 v1 h = (if isO h 3 v0 = true then (if 0 < dd then Reader_part (dd - 1) v0 v1 h else none).bind fun r58 => (Reader_multiplying v0 r58.2).bind fun x61 => Reader_term_14 dd v0 v1 r58.1 x61 (0 : Int32) r58.2 else none) := (fx_eq Reader_partG_M (10000, dd, v1, 0, 0, 0, v0, h)).trans ((if_neg (show ¬ (10000 : Nat) = 0 by decide)).trans (if_pos rfl))
theorem Reader_term_q {dd : Nat} {v0 : Nat} {v1 : Int32} {h : am_H} {r : (Int32 × am_H)} (hb : Reader_term dd v0 v1 h = some r) : Eqs h r.2 := Reader_partG_Q _ _ hb
theorem Reader_term_s {dd : Nat} {v0 : Nat} {v1 : Int32} {h : am_H} {r : (Int32 × am_H)} (hb : Reader_term dd v0 v1 h = some r) : Sx (6 + dd) mX3_term 0 (am_en [.ref v0, .int v1] 5) [] h (some (.int r.1)) r.2 := ((Reader_partG_T _ _ hb).2.1 rfl).2
theorem Reader_term_o {dd : Nat} {v0 : Nat} {v1 : Int32} {h : am_H} {r : (Int32 × am_H)} (hb : Reader_term dd v0 v1 h = some r) : isO h 3 v0 = true := ((Reader_partG_T _ _ hb).2.1 rfl).1
set_option maxHeartbeats 1000000 in
set_option maxRecDepth 100000 in
theorem Reader_term_14_e (dd : Nat) (v0 : Nat) (v1 : Int32) (v2 : Int32) (v3 : Int32) (v4 : Int32) (h : am_H) : Reader_term_14 dd v0 v1 v2 v3 v4 h = (if (400 : Int32) ≤ v4 then (nrZ v2).bind fun u65 => some (v2, h) else if v2 = (0 : Int32) then (nrZ v2).bind fun u69 => some (v2, h) else if v3 = (-1 : Int32) then (nrZ v2).bind fun u73 => some (v2, h) else (gR h 3 v0 1).bind fun x75 => (Tape_go x75 h).bind fun h77 => (if 0 < dd then Reader_part (dd - 1) v0 v1 h77 else none).bind fun r80 => (gR r80.2 3 v0 0).bind fun x83 => (Text_add x83 v3 (0 : Int32) r80.2).bind fun r85 => (Reader_multiplying v0 r85.2).bind fun x88 => Reader_term_14 dd v0 v1 r80.1 x88 (v4 + (1 : Int32)) r85.2) := (fx_eq Reader_partG_M (10014, dd, v1, v2, v3, v4, v0, h)).trans ((if_neg (show ¬ (10014 : Nat) = 0 by decide)).trans ((if_neg (show ¬ (10014 : Nat) = 10000 by decide)).trans (if_pos rfl)))
theorem Reader_term_14_q {dd : Nat} {v0 : Nat} {v1 : Int32} {v2 : Int32} {v3 : Int32} {v4 : Int32} {h : am_H} {r : (Int32 × am_H)} (hb : Reader_term_14 dd v0 v1 v2 v3 v4 h = some r) : Eqs h r.2 := Reader_partG_Q _ _ hb
theorem Reader_term_14_s {dd : Nat} {v0 : Nat} {v1 : Int32} {v2 : Int32} {v3 : Int32} {v4 : Int32} {h : am_H} {r : (Int32 × am_H)} (hb : Reader_term_14 dd v0 v1 v2 v3 v4 h = some r) : Sx (6 + dd) mX3_term 14 [.ref v0, .int v1, .int v2, .int v3, .int v4] [] h (some (.int r.1)) r.2 := (Reader_partG_T _ _ hb).2.2.1 rfl
set_option maxHeartbeats 1000000 in
set_option maxRecDepth 100000 in
theorem Reader_sum_e (dd : Nat) (v0 : Nat) (v1 : Int32) (h : am_H) : Reader_sum dd v0 v1 h = (if isO h 3 v0 = true then (if 0 < dd then Reader_term (dd - 1) v0 v1 h else none).bind fun r90 => Reader_sum_8 dd v0 v1 r90.1 (0 : Int32) r90.2 else none) := (fx_eq Reader_partG_M (20000, dd, v1, 0, 0, 0, v0, h)).trans ((if_neg (show ¬ (20000 : Nat) = 0 by decide)).trans ((if_neg (show ¬ (20000 : Nat) = 10000 by decide)).trans ((if_neg (show ¬ (20000 : Nat) = 10014 by decide)).trans (if_pos rfl))))
theorem Reader_sum_q {dd : Nat} {v0 : Nat} {v1 : Int32} {h : am_H} {r : (Int32 × am_H)} (hb : Reader_sum dd v0 v1 h = some r) : Eqs h r.2 := Reader_partG_Q _ _ hb
theorem Reader_sum_s {dd : Nat} {v0 : Nat} {v1 : Int32} {h : am_H} {r : (Int32 × am_H)} (hb : Reader_sum dd v0 v1 h = some r) : Sx (6 + dd) mX3_sum 0 (am_en [.ref v0, .int v1] 5) [] h (some (.int r.1)) r.2 := ((Reader_partG_T _ _ hb).2.2.2.1 rfl).2
theorem Reader_sum_o {dd : Nat} {v0 : Nat} {v1 : Int32} {h : am_H} {r : (Int32 × am_H)} (hb : Reader_sum dd v0 v1 h = some r) : isO h 3 v0 = true := ((Reader_partG_T _ _ hb).2.2.2.1 rfl).1
set_option maxHeartbeats 1000000 in
set_option maxRecDepth 100000 in
theorem Reader_sum_8_e (dd : Nat) (v0 : Nat) (v1 : Int32) (v2 : Int32) (v3 : Int32) (h : am_H) : Reader_sum_8 dd v0 v1 v2 v3 h = (if (400 : Int32) ≤ v3 then (nrZ v2).bind fun u95 => some (v2, h) else if v2 = (0 : Int32) then (nrZ v2).bind fun u99 => some (v2, h) else (gR h 3 v0 1).bind fun x101 => (Tape_isSign x101 (43 : Int32) h).bind fun x103 => if x103 = (0 : Int32) then (gR h 3 v0 1).bind fun x107 => (Tape_isSign x107 (45 : Int32) h).bind fun x109 => if x109 = (0 : Int32) then (nrZ v2).bind fun u113 => some (v2, h) else Reader_sum_43 dd v0 v1 v3 h else Reader_sum_43 dd v0 v1 v3 h) := (fx_eq Reader_partG_M (20008, dd, v1, v2, v3, 0, v0, h)).trans ((if_neg (show ¬ (20008 : Nat) = 0 by decide)).trans ((if_neg (show ¬ (20008 : Nat) = 10000 by decide)).trans ((if_neg (show ¬ (20008 : Nat) = 10014 by decide)).trans ((if_neg (show ¬ (20008 : Nat) = 20000 by decide)).trans (if_pos rfl)))))
theorem Reader_sum_8_q {dd : Nat} {v0 : Nat} {v1 : Int32} {v2 : Int32} {v3 : Int32} {h : am_H} {r : (Int32 × am_H)} (hb : Reader_sum_8 dd v0 v1 v2 v3 h = some r) : Eqs h r.2 := Reader_partG_Q _ _ hb
theorem Reader_sum_8_s {dd : Nat} {v0 : Nat} {v1 : Int32} {v2 : Int32} {v3 : Int32} {h : am_H} {r : (Int32 × am_H)} (hb : Reader_sum_8 dd v0 v1 v2 v3 h = some r) : Sx (6 + dd) mX3_sum 8 [.ref v0, .int v1, .int v2, .int v3, .retAddr 0] [] h (some (.int r.1)) r.2 := (Reader_partG_T _ _ hb).2.2.2.2.1 rfl
set_option maxHeartbeats 1000000 in
set_option maxRecDepth 100000 in
theorem Reader_sum_43_e (dd : Nat) (v0 : Nat) (v1 : Int32) (v3 : Int32) (h : am_H) : Reader_sum_43 dd v0 v1 v3 h = ((gR h 3 v0 1).bind fun x115 => (Tape_isSign x115 (43 : Int32) h).bind fun x117 => if x117 = (0 : Int32) then Reader_sum_60 dd v0 v1 v3 (4 : Int32) h else Reader_sum_60 dd v0 v1 v3 (3 : Int32) h) := (fx_eq Reader_partG_M (20043, dd, v1, v3, 0, 0, v0, h)).trans ((if_neg (show ¬ (20043 : Nat) = 0 by decide)).trans ((if_neg (show ¬ (20043 : Nat) = 10000 by decide)).trans ((if_neg (show ¬ (20043 : Nat) = 10014 by decide)).trans ((if_neg (show ¬ (20043 : Nat) = 20000 by decide)).trans ((if_neg (show ¬ (20043 : Nat) = 20008 by decide)).trans (if_pos rfl))))))
theorem Reader_sum_43_q {dd : Nat} {v0 : Nat} {v1 : Int32} {v3 : Int32} {h : am_H} {r : (Int32 × am_H)} (hb : Reader_sum_43 dd v0 v1 v3 h = some r) : Eqs h r.2 := Reader_partG_Q _ _ hb
theorem Reader_sum_43_s {dd : Nat} {v0 : Nat} {v1 : Int32} {v3 : Int32} {h : am_H} {r : (Int32 × am_H)} (hb : Reader_sum_43 dd v0 v1 v3 h = some r) : Sx (6 + dd) mX3_sum 43 [.ref v0, .int v1, .retAddr 0, .int v3, .retAddr 0] [] h (some (.int r.1)) r.2 := (Reader_partG_T _ _ hb).2.2.2.2.2.1 rfl
set_option maxHeartbeats 1000000 in
set_option maxRecDepth 100000 in
theorem Reader_sum_60_e (dd : Nat) (v0 : Nat) (v1 : Int32) (v3 : Int32) (s0 : Int32) (h : am_H) : Reader_sum_60 dd v0 v1 v3 s0 h = ((gR h 3 v0 1).bind fun x121 => (Tape_go x121 h).bind fun h123 => (if 0 < dd then Reader_term (dd - 1) v0 v1 h123 else none).bind fun r126 => (gR r126.2 3 v0 0).bind fun x129 => (Text_add x129 s0 (0 : Int32) r126.2).bind fun r131 => Reader_sum_8 dd v0 v1 r126.1 (v3 + (1 : Int32)) r131.2) := (fx_eq Reader_partG_M (20060, dd, v1, v3, s0, 0, v0, h)).trans ((if_neg (show ¬ (20060 : Nat) = 0 by decide)).trans ((if_neg (show ¬ (20060 : Nat) = 10000 by decide)).trans ((if_neg (show ¬ (20060 : Nat) = 10014 by decide)).trans ((if_neg (show ¬ (20060 : Nat) = 20000 by decide)).trans ((if_neg (show ¬ (20060 : Nat) = 20008 by decide)).trans ((if_neg (show ¬ (20060 : Nat) = 20043 by decide)).trans (if_pos rfl)))))))
theorem Reader_sum_60_q {dd : Nat} {v0 : Nat} {v1 : Int32} {v3 : Int32} {s0 : Int32} {h : am_H} {r : (Int32 × am_H)} (hb : Reader_sum_60 dd v0 v1 v3 s0 h = some r) : Eqs h r.2 := Reader_partG_Q _ _ hb
theorem Reader_sum_60_s {dd : Nat} {v0 : Nat} {v1 : Int32} {v3 : Int32} {s0 : Int32} {h : am_H} {r : (Int32 × am_H)} (hb : Reader_sum_60 dd v0 v1 v3 s0 h = some r) : Sx (6 + dd) mX3_sum 60 [.ref v0, .int v1, .retAddr 0, .int v3, .retAddr 0] [.int s0] h (some (.int r.1)) r.2 := (Reader_partG_T _ _ hb).2.2.2.2.2.2.1 rfl
set_option maxHeartbeats 1000000 in
set_option maxRecDepth 100000 in
noncomputable def Reader_plain_b (g : (Nat × Nat × Int32 × Int32 × Int32 × Nat × am_H) → Option (Int32 × am_H)) (dd : Nat) (v0 : Nat) (v1 : Int32) (h : am_H) : Option (Int32 × am_H) := if isO h 3 v0 = true then g (4, dd, v1, (0 : Int32), (0 : Int32), v0, h) else none
set_option maxHeartbeats 1000000 in
set_option maxRecDepth 100000 in
theorem Reader_plain_m {g g2 : (Nat × Nat × Int32 × Int32 × Int32 × Nat × am_H) → Option (Int32 × am_H)} (hg : ∀ s, Le (g s) (g2 s)) (dd : Nat) (v0 : Nat) (v1 : Int32) (h : am_H) : Le (Reader_plain_b g dd v0 v1 h) (Reader_plain_b g2 dd v0 v1 h) := by unfold Reader_plain_b; exact le_i (hg _) (le_r _)
set_option maxHeartbeats 1000000 in
set_option maxRecDepth 100000 in
noncomputable def Reader_plain_4_b (g : (Nat × Nat × Int32 × Int32 × Int32 × Nat × am_H) → Option (Int32 × am_H)) (dd : Nat) (v0 : Nat) (v1 : Int32) (v2 : Int32) (v3 : Int32) (h : am_H) : Option (Int32 × am_H) := if (400 : Int32) ≤ v3 then g (46, dd, v1, v2, 0, v0, h) else (gR h 3 v0 1).bind fun x3 => (Tape_isWord x3 7 h).bind fun x5 => if x5 = (0 : Int32) then g (46, dd, v1, v2, 0, v0, h) else if v2 = (0 : Int32) then g (32, dd, v1, v3, (1 : Int32), v0, h) else g (32, dd, v1, v3, (0 : Int32), v0, h)
set_option maxHeartbeats 1000000 in
set_option maxRecDepth 100000 in
theorem Reader_plain_4_m {g g2 : (Nat × Nat × Int32 × Int32 × Int32 × Nat × am_H) → Option (Int32 × am_H)} (hg : ∀ s, Le (g s) (g2 s)) (dd : Nat) (v0 : Nat) (v1 : Int32) (v2 : Int32) (v3 : Int32) (h : am_H) : Le (Reader_plain_4_b g dd v0 v1 v2 v3 h) (Reader_plain_4_b g2 dd v0 v1 v2 v3 h) := by unfold Reader_plain_4_b; exact le_i (hg _) (le_b (le_r _) fun x3 => le_b (le_r _) fun x5 => le_i (hg _) (le_i (hg _) (hg _)))
set_option maxHeartbeats 1000000 in
set_option maxRecDepth 100000 in
noncomputable def Reader_plain_32_b (g : (Nat × Nat × Int32 × Int32 × Int32 × Nat × am_H) → Option (Int32 × am_H)) (dd : Nat) (v0 : Nat) (v1 : Int32) (v3 : Int32) (s0 : Int32) (h : am_H) : Option (Int32 × am_H) := (gR h 3 v0 1).bind fun x11 => (Tape_go x11 h).bind fun h13 => g (4, dd, v1, s0, (v3 + (1 : Int32)), v0, h13)
set_option maxHeartbeats 1000000 in
set_option maxRecDepth 100000 in
theorem Reader_plain_32_m {g g2 : (Nat × Nat × Int32 × Int32 × Int32 × Nat × am_H) → Option (Int32 × am_H)} (hg : ∀ s, Le (g s) (g2 s)) (dd : Nat) (v0 : Nat) (v1 : Int32) (v3 : Int32) (s0 : Int32) (h : am_H) : Le (Reader_plain_32_b g dd v0 v1 v3 s0 h) (Reader_plain_32_b g2 dd v0 v1 v3 s0 h) := by unfold Reader_plain_32_b; exact le_b (le_r _) fun x11 => le_b (le_r _) fun h13 => hg _
set_option maxHeartbeats 1000000 in
set_option maxRecDepth 100000 in
noncomputable def Reader_plain_46_b (g : (Nat × Nat × Int32 × Int32 × Int32 × Nat × am_H) → Option (Int32 × am_H)) (dd : Nat) (v0 : Nat) (v1 : Int32) (v2 : Int32) (h : am_H) : Option (Int32 × am_H) := (gR h 3 v0 1).bind fun x16 => (Tape_isSign x16 (40 : Int32) h).bind fun x18 => if x18 = (0 : Int32) then (Reader_sum 40 v0 v1 h).bind fun r22 => if r22.1 = (0 : Int32) then g (117, dd, v1, v2, (-1 : Int32), v0, r22.2) else (Reader_comparison v0 r22.2).bind fun r27 => g (117, dd, v1, v2, r27.1, v0, r27.2) else if (8 : Int32) ≤ v1 then g (96, dd, v2, 0, 0, v0, h) else (Reader_takeSign v0 (40 : Int32) h).bind fun r32 => if r32.1 = (0 : Int32) then g (96, dd, v2, 0, 0, v0, r32.2) else (if 0 < dd then g (20000, dd - 1, (v1 + (1 : Int32)), 0, 0, v0, r32.2) else none).bind fun r37 => if r37.1 = (0 : Int32) then g (96, dd, v2, 0, 0, v0, r37.2) else (Reader_takeSign v0 (41 : Int32) r37.2).bind fun r42 => if r42.1 = (0 : Int32) then g (96, dd, v2, 0, 0, v0, r42.2) else g (97, dd, v2, (1 : Int32), 0, v0, r42.2)
set_option maxHeartbeats 1000000 in
set_option maxRecDepth 100000 in
theorem Reader_plain_46_m {g g2 : (Nat × Nat × Int32 × Int32 × Int32 × Nat × am_H) → Option (Int32 × am_H)} (hg : ∀ s, Le (g s) (g2 s)) (dd : Nat) (v0 : Nat) (v1 : Int32) (v2 : Int32) (h : am_H) : Le (Reader_plain_46_b g dd v0 v1 v2 h) (Reader_plain_46_b g2 dd v0 v1 v2 h) := by unfold Reader_plain_46_b; exact le_b (le_r _) fun x16 => le_b (le_r _) fun x18 => le_i (le_b (le_r _) fun r22 => le_i (hg _) (le_b (le_r _) fun r27 => hg _)) (le_i (hg _) (le_b (le_r _) fun r32 => le_i (hg _) (le_b (le_i (hg _) (le_r _)) fun r37 => le_i (hg _) (le_b (le_r _) fun r42 => le_i (hg _) (hg _)))))
set_option maxHeartbeats 1000000 in
set_option maxRecDepth 100000 in
noncomputable def Reader_plain_96_b (g : (Nat × Nat × Int32 × Int32 × Int32 × Nat × am_H) → Option (Int32 × am_H)) (dd : Nat) (v0 : Nat) (v2 : Int32) (h : am_H) : Option (Int32 × am_H) := g (97, dd, v2, (0 : Int32), 0, v0, h)
set_option maxHeartbeats 1000000 in
set_option maxRecDepth 100000 in
theorem Reader_plain_96_m {g g2 : (Nat × Nat × Int32 × Int32 × Int32 × Nat × am_H) → Option (Int32 × am_H)} (hg : ∀ s, Le (g s) (g2 s)) (dd : Nat) (v0 : Nat) (v2 : Int32) (h : am_H) : Le (Reader_plain_96_b g dd v0 v2 h) (Reader_plain_96_b g2 dd v0 v2 h) := by unfold Reader_plain_96_b; exact hg _
set_option maxHeartbeats 1000000 in
set_option maxRecDepth 100000 in
noncomputable def Reader_plain_97_b (g : (Nat × Nat × Int32 × Int32 × Int32 × Nat × am_H) → Option (Int32 × am_H)) (dd : Nat) (v0 : Nat) (v2 : Int32) (s0 : Int32) (h : am_H) : Option (Int32 × am_H) := g (154, dd, v2, s0, 0, v0, h)
set_option maxHeartbeats 1000000 in
set_option maxRecDepth 100000 in
theorem Reader_plain_97_m {g g2 : (Nat × Nat × Int32 × Int32 × Int32 × Nat × am_H) → Option (Int32 × am_H)} (hg : ∀ s, Le (g s) (g2 s)) (dd : Nat) (v0 : Nat) (v2 : Int32) (s0 : Int32) (h : am_H) : Le (Reader_plain_97_b g dd v0 v2 s0 h) (Reader_plain_97_b g2 dd v0 v2 s0 h) := by unfold Reader_plain_97_b; exact hg _
set_option maxHeartbeats 1000000 in
set_option maxRecDepth 100000 in
noncomputable def Reader_plain_117_b (g : (Nat × Nat × Int32 × Int32 × Int32 × Nat × am_H) → Option (Int32 × am_H)) (dd : Nat) (v0 : Nat) (v1 : Int32) (v2 : Int32) (s0 : Int32) (h : am_H) : Option (Int32 × am_H) := if s0 = (-1 : Int32) then g (137, dd, v2, s0, 0, v0, h) else (Reader_sum 40 v0 v1 h).bind fun r49 => if r49.1 = (0 : Int32) then g (137, dd, v2, s0, 0, v0, r49.2) else g (138, dd, v2, s0, (1 : Int32), v0, r49.2)
set_option maxHeartbeats 1000000 in
set_option maxRecDepth 100000 in
theorem Reader_plain_117_m {g g2 : (Nat × Nat × Int32 × Int32 × Int32 × Nat × am_H) → Option (Int32 × am_H)} (hg : ∀ s, Le (g s) (g2 s)) (dd : Nat) (v0 : Nat) (v1 : Int32) (v2 : Int32) (s0 : Int32) (h : am_H) : Le (Reader_plain_117_b g dd v0 v1 v2 s0 h) (Reader_plain_117_b g2 dd v0 v1 v2 s0 h) := by unfold Reader_plain_117_b; exact le_i (hg _) (le_b (le_r _) fun r49 => le_i (hg _) (hg _))
set_option maxHeartbeats 1000000 in
set_option maxRecDepth 100000 in
noncomputable def Reader_plain_137_b (g : (Nat × Nat × Int32 × Int32 × Int32 × Nat × am_H) → Option (Int32 × am_H)) (dd : Nat) (v0 : Nat) (v2 : Int32) (v4 : Int32) (h : am_H) : Option (Int32 × am_H) := g (138, dd, v2, v4, (0 : Int32), v0, h)
set_option maxHeartbeats 1000000 in
set_option maxRecDepth 100000 in
theorem Reader_plain_137_m {g g2 : (Nat × Nat × Int32 × Int32 × Int32 × Nat × am_H) → Option (Int32 × am_H)} (hg : ∀ s, Le (g s) (g2 s)) (dd : Nat) (v0 : Nat) (v2 : Int32) (v4 : Int32) (h : am_H) : Le (Reader_plain_137_b g dd v0 v2 v4 h) (Reader_plain_137_b g2 dd v0 v2 v4 h) := by unfold Reader_plain_137_b; exact hg _
set_option maxHeartbeats 1000000 in
set_option maxRecDepth 100000 in
noncomputable def Reader_plain_138_b (g : (Nat × Nat × Int32 × Int32 × Int32 × Nat × am_H) → Option (Int32 × am_H)) (dd : Nat) (v0 : Nat) (v2 : Int32) (v4 : Int32) (s0 : Int32) (h : am_H) : Option (Int32 × am_H) := (gR h 3 v0 0).bind fun x54 => (Text_add x54 (if v4 < (0 : Int32) then (0 : Int32) else v4) (0 : Int32) h).bind fun r56 => g (154, dd, v2, s0, 0, v0, r56.2)
set_option maxHeartbeats 1000000 in
set_option maxRecDepth 100000 in
theorem Reader_plain_138_m {g g2 : (Nat × Nat × Int32 × Int32 × Int32 × Nat × am_H) → Option (Int32 × am_H)} (hg : ∀ s, Le (g s) (g2 s)) (dd : Nat) (v0 : Nat) (v2 : Int32) (v4 : Int32) (s0 : Int32) (h : am_H) : Le (Reader_plain_138_b g dd v0 v2 v4 s0 h) (Reader_plain_138_b g2 dd v0 v2 v4 s0 h) := by unfold Reader_plain_138_b; exact le_b (le_r _) fun x54 => le_b (le_r _) fun r56 => hg _
set_option maxHeartbeats 1000000 in
set_option maxRecDepth 100000 in
noncomputable def Reader_plain_154_b (g : (Nat × Nat × Int32 × Int32 × Int32 × Nat × am_H) → Option (Int32 × am_H)) (dd : Nat) (v0 : Nat) (v2 : Int32) (v3 : Int32) (h : am_H) : Option (Int32 × am_H) := if v2 = (0 : Int32) then (nrZ v3).bind fun u61 => some (v3, h) else (gR h 3 v0 0).bind fun x63 => (Text_add x63 (11 : Int32) (0 : Int32) h).bind fun r65 => (nrZ v3).bind fun u68 => some (v3, r65.2)
set_option maxHeartbeats 1000000 in
set_option maxRecDepth 100000 in
theorem Reader_plain_154_m {g g2 : (Nat × Nat × Int32 × Int32 × Int32 × Nat × am_H) → Option (Int32 × am_H)} (hg : ∀ s, Le (g s) (g2 s)) (dd : Nat) (v0 : Nat) (v2 : Int32) (v3 : Int32) (h : am_H) : Le (Reader_plain_154_b g dd v0 v2 v3 h) (Reader_plain_154_b g2 dd v0 v2 v3 h) := by unfold Reader_plain_154_b; exact le_r _
set_option maxHeartbeats 1000000 in
set_option maxRecDepth 100000 in
noncomputable def Reader_both_b (g : (Nat × Nat × Int32 × Int32 × Int32 × Nat × am_H) → Option (Int32 × am_H)) (dd : Nat) (v0 : Nat) (v1 : Int32) (h : am_H) : Option (Int32 × am_H) := if isO h 3 v0 = true then (if 0 < dd then g (0, dd - 1, v1, 0, 0, v0, h) else none).bind fun r70 => g (10008, dd, v1, r70.1, (0 : Int32), v0, r70.2) else none
set_option maxHeartbeats 1000000 in
set_option maxRecDepth 100000 in
theorem Reader_both_m {g g2 : (Nat × Nat × Int32 × Int32 × Int32 × Nat × am_H) → Option (Int32 × am_H)} (hg : ∀ s, Le (g s) (g2 s)) (dd : Nat) (v0 : Nat) (v1 : Int32) (h : am_H) : Le (Reader_both_b g dd v0 v1 h) (Reader_both_b g2 dd v0 v1 h) := by unfold Reader_both_b; exact le_i (le_b (le_i (hg _) (le_r _)) fun r70 => hg _) (le_r _)
set_option maxHeartbeats 1000000 in
set_option maxRecDepth 100000 in
noncomputable def Reader_both_8_b (g : (Nat × Nat × Int32 × Int32 × Int32 × Nat × am_H) → Option (Int32 × am_H)) (dd : Nat) (v0 : Nat) (v1 : Int32) (v2 : Int32) (v3 : Int32) (h : am_H) : Option (Int32 × am_H) := if (400 : Int32) ≤ v3 then (nrZ v2).bind fun u75 => some (v2, h) else if v2 = (0 : Int32) then (nrZ v2).bind fun u79 => some (v2, h) else (gR h 3 v0 1).bind fun x81 => (Tape_isWord x81 8 h).bind fun x83 => if x83 = (0 : Int32) then (nrZ v2).bind fun u87 => some (v2, h) else (gR h 3 v0 1).bind fun x89 => (Tape_go x89 h).bind fun h91 => (gR h91 3 v0 0).bind fun x94 => (Text_add x94 (13 : Int32) (0 : Int32) h91).bind fun r96 => (if 0 < dd then g (0, dd - 1, v1, 0, 0, v0, r96.2) else none).bind fun r99 => (gR r99.2 3 v0 0).bind fun x102 => (Text_land x102 r96.1 r99.2).bind fun h104 => g (10008, dd, v1, r99.1, (v3 + (1 : Int32)), v0, h104)
set_option maxHeartbeats 1000000 in
set_option maxRecDepth 100000 in
theorem Reader_both_8_m {g g2 : (Nat × Nat × Int32 × Int32 × Int32 × Nat × am_H) → Option (Int32 × am_H)} (hg : ∀ s, Le (g s) (g2 s)) (dd : Nat) (v0 : Nat) (v1 : Int32) (v2 : Int32) (v3 : Int32) (h : am_H) : Le (Reader_both_8_b g dd v0 v1 v2 v3 h) (Reader_both_8_b g2 dd v0 v1 v2 v3 h) := by unfold Reader_both_8_b; exact le_i (le_r _) (le_i (le_r _) (le_b (le_r _) fun x81 => le_b (le_r _) fun x83 => le_i (le_r _) (le_b (le_r _) fun x89 => le_b (le_r _) fun h91 => le_b (le_r _) fun x94 => le_b (le_r _) fun r96 => le_b (le_i (hg _) (le_r _)) fun r99 => le_b (le_r _) fun x102 => le_b (le_r _) fun h104 => hg _)))
set_option maxHeartbeats 1000000 in
set_option maxRecDepth 100000 in
noncomputable def Reader_test_b (g : (Nat × Nat × Int32 × Int32 × Int32 × Nat × am_H) → Option (Int32 × am_H)) (dd : Nat) (v0 : Nat) (v1 : Int32) (h : am_H) : Option (Int32 × am_H) := if isO h 3 v0 = true then (if 0 < dd then g (10000, dd - 1, v1, 0, 0, v0, h) else none).bind fun r107 => g (20008, dd, v1, r107.1, (0 : Int32), v0, r107.2) else none
set_option maxHeartbeats 1000000 in
set_option maxRecDepth 100000 in
theorem Reader_test_m {g g2 : (Nat × Nat × Int32 × Int32 × Int32 × Nat × am_H) → Option (Int32 × am_H)} (hg : ∀ s, Le (g s) (g2 s)) (dd : Nat) (v0 : Nat) (v1 : Int32) (h : am_H) : Le (Reader_test_b g dd v0 v1 h) (Reader_test_b g2 dd v0 v1 h) := by unfold Reader_test_b; exact le_i (le_b (le_i (hg _) (le_r _)) fun r107 => hg _) (le_r _)
set_option maxHeartbeats 1000000 in
set_option maxRecDepth 100000 in
noncomputable def Reader_test_8_b (g : (Nat × Nat × Int32 × Int32 × Int32 × Nat × am_H) → Option (Int32 × am_H)) (dd : Nat) (v0 : Nat) (v1 : Int32) (v2 : Int32) (v3 : Int32) (h : am_H) : Option (Int32 × am_H) := if (400 : Int32) ≤ v3 then (nrZ v2).bind fun u112 => some (v2, h) else if v2 = (0 : Int32) then (nrZ v2).bind fun u116 => some (v2, h) else (gR h 3 v0 1).bind fun x118 => (Tape_isWord x118 9 h).bind fun x120 => if x120 = (0 : Int32) then (nrZ v2).bind fun u124 => some (v2, h) else (gR h 3 v0 1).bind fun x126 => (Tape_go x126 h).bind fun h128 => (gR h128 3 v0 0).bind fun x131 => (Text_add x131 (12 : Int32) (0 : Int32) h128).bind fun r133 => (if 0 < dd then g (10000, dd - 1, v1, 0, 0, v0, r133.2) else none).bind fun r136 => (gR r136.2 3 v0 0).bind fun x139 => (Text_land x139 r133.1 r136.2).bind fun h141 => g (20008, dd, v1, r136.1, (v3 + (1 : Int32)), v0, h141)
set_option maxHeartbeats 1000000 in
set_option maxRecDepth 100000 in
theorem Reader_test_8_m {g g2 : (Nat × Nat × Int32 × Int32 × Int32 × Nat × am_H) → Option (Int32 × am_H)} (hg : ∀ s, Le (g s) (g2 s)) (dd : Nat) (v0 : Nat) (v1 : Int32) (v2 : Int32) (v3 : Int32) (h : am_H) : Le (Reader_test_8_b g dd v0 v1 v2 v3 h) (Reader_test_8_b g2 dd v0 v1 v2 v3 h) := by unfold Reader_test_8_b; exact le_i (le_r _) (le_i (le_r _) (le_b (le_r _) fun x118 => le_b (le_r _) fun x120 => le_i (le_r _) (le_b (le_r _) fun x126 => le_b (le_r _) fun h128 => le_b (le_r _) fun x131 => le_b (le_r _) fun r133 => le_b (le_i (hg _) (le_r _)) fun r136 => le_b (le_r _) fun x139 => le_b (le_r _) fun h141 => hg _)))
noncomputable def Reader_plainG_F (g : (Nat × Nat × Int32 × Int32 × Int32 × Nat × am_H) → Option (Int32 × am_H)) (s : (Nat × Nat × Int32 × Int32 × Int32 × Nat × am_H)) : Option (Int32 × am_H) := if s.1 = 0 then Reader_plain_b g s.2.1 s.2.2.2.2.2.1 s.2.2.1 s.2.2.2.2.2.2 else if s.1 = 4 then Reader_plain_4_b g s.2.1 s.2.2.2.2.2.1 s.2.2.1 s.2.2.2.1 s.2.2.2.2.1 s.2.2.2.2.2.2 else if s.1 = 32 then Reader_plain_32_b g s.2.1 s.2.2.2.2.2.1 s.2.2.1 s.2.2.2.1 s.2.2.2.2.1 s.2.2.2.2.2.2 else if s.1 = 46 then Reader_plain_46_b g s.2.1 s.2.2.2.2.2.1 s.2.2.1 s.2.2.2.1 s.2.2.2.2.2.2 else if s.1 = 96 then Reader_plain_96_b g s.2.1 s.2.2.2.2.2.1 s.2.2.1 s.2.2.2.2.2.2 else if s.1 = 97 then Reader_plain_97_b g s.2.1 s.2.2.2.2.2.1 s.2.2.1 s.2.2.2.1 s.2.2.2.2.2.2 else if s.1 = 117 then Reader_plain_117_b g s.2.1 s.2.2.2.2.2.1 s.2.2.1 s.2.2.2.1 s.2.2.2.2.1 s.2.2.2.2.2.2 else if s.1 = 137 then Reader_plain_137_b g s.2.1 s.2.2.2.2.2.1 s.2.2.1 s.2.2.2.1 s.2.2.2.2.2.2 else if s.1 = 138 then Reader_plain_138_b g s.2.1 s.2.2.2.2.2.1 s.2.2.1 s.2.2.2.1 s.2.2.2.2.1 s.2.2.2.2.2.2 else if s.1 = 154 then Reader_plain_154_b g s.2.1 s.2.2.2.2.2.1 s.2.2.1 s.2.2.2.1 s.2.2.2.2.2.2 else if s.1 = 10000 then Reader_both_b g s.2.1 s.2.2.2.2.2.1 s.2.2.1 s.2.2.2.2.2.2 else if s.1 = 10008 then Reader_both_8_b g s.2.1 s.2.2.2.2.2.1 s.2.2.1 s.2.2.2.1 s.2.2.2.2.1 s.2.2.2.2.2.2 else if s.1 = 20000 then Reader_test_b g s.2.1 s.2.2.2.2.2.1 s.2.2.1 s.2.2.2.2.2.2 else if s.1 = 20008 then Reader_test_8_b g s.2.1 s.2.2.2.2.2.1 s.2.2.1 s.2.2.2.1 s.2.2.2.2.1 s.2.2.2.2.2.2 else none
theorem Reader_plainG_M : Mn Reader_plainG_F := fun g g2 hg s => by unfold Reader_plainG_F; exact le_i (Reader_plain_m hg s.2.1 s.2.2.2.2.2.1 s.2.2.1 s.2.2.2.2.2.2) (le_i (Reader_plain_4_m hg s.2.1 s.2.2.2.2.2.1 s.2.2.1 s.2.2.2.1 s.2.2.2.2.1 s.2.2.2.2.2.2) (le_i (Reader_plain_32_m hg s.2.1 s.2.2.2.2.2.1 s.2.2.1 s.2.2.2.1 s.2.2.2.2.1 s.2.2.2.2.2.2) (le_i (Reader_plain_46_m hg s.2.1 s.2.2.2.2.2.1 s.2.2.1 s.2.2.2.1 s.2.2.2.2.2.2) (le_i (Reader_plain_96_m hg s.2.1 s.2.2.2.2.2.1 s.2.2.1 s.2.2.2.2.2.2) (le_i (Reader_plain_97_m hg s.2.1 s.2.2.2.2.2.1 s.2.2.1 s.2.2.2.1 s.2.2.2.2.2.2) (le_i (Reader_plain_117_m hg s.2.1 s.2.2.2.2.2.1 s.2.2.1 s.2.2.2.1 s.2.2.2.2.1 s.2.2.2.2.2.2) (le_i (Reader_plain_137_m hg s.2.1 s.2.2.2.2.2.1 s.2.2.1 s.2.2.2.1 s.2.2.2.2.2.2) (le_i (Reader_plain_138_m hg s.2.1 s.2.2.2.2.2.1 s.2.2.1 s.2.2.2.1 s.2.2.2.2.1 s.2.2.2.2.2.2) (le_i (Reader_plain_154_m hg s.2.1 s.2.2.2.2.2.1 s.2.2.1 s.2.2.2.1 s.2.2.2.2.2.2) (le_i (Reader_both_m hg s.2.1 s.2.2.2.2.2.1 s.2.2.1 s.2.2.2.2.2.2) (le_i (Reader_both_8_m hg s.2.1 s.2.2.2.2.2.1 s.2.2.1 s.2.2.2.1 s.2.2.2.2.1 s.2.2.2.2.2.2) (le_i (Reader_test_m hg s.2.1 s.2.2.2.2.2.1 s.2.2.1 s.2.2.2.2.2.2) (le_i (Reader_test_8_m hg s.2.1 s.2.2.2.2.2.1 s.2.2.1 s.2.2.2.1 s.2.2.2.2.1 s.2.2.2.2.2.2) (le_r _))))))))))))))
def Reader_plainG_P (s : (Nat × Nat × Int32 × Int32 × Int32 × Nat × am_H)) (r : (Int32 × am_H)) : Prop := (s.1 = 0 → isO s.2.2.2.2.2.2 3 s.2.2.2.2.2.1 = true ∧ Sx (47 + s.2.1) mX3_plain 0 (am_en [.ref s.2.2.2.2.2.1, .int s.2.2.1] 5) [] s.2.2.2.2.2.2 (some (.int r.1)) r.2) ∧ (s.1 = 4 → Sx (47 + s.2.1) mX3_plain 4 [.ref s.2.2.2.2.2.1, .int s.2.2.1, .int s.2.2.2.1, .int s.2.2.2.2.1, .retAddr 0] [] s.2.2.2.2.2.2 (some (.int r.1)) r.2) ∧ (s.1 = 32 → Sx (47 + s.2.1) mX3_plain 32 [.ref s.2.2.2.2.2.1, .int s.2.2.1, .retAddr 0, .int s.2.2.2.1, .retAddr 0] [.int s.2.2.2.2.1] s.2.2.2.2.2.2 (some (.int r.1)) r.2) ∧ (s.1 = 46 → Sx (47 + s.2.1) mX3_plain 46 [.ref s.2.2.2.2.2.1, .int s.2.2.1, .int s.2.2.2.1, .retAddr 0, .retAddr 0] [] s.2.2.2.2.2.2 (some (.int r.1)) r.2) ∧ (s.1 = 96 → Sx (47 + s.2.1) mX3_plain 96 [.ref s.2.2.2.2.2.1, .retAddr 0, .int s.2.2.1, .retAddr 0, .retAddr 0] [] s.2.2.2.2.2.2 (some (.int r.1)) r.2) ∧ (s.1 = 97 → Sx (47 + s.2.1) mX3_plain 97 [.ref s.2.2.2.2.2.1, .retAddr 0, .int s.2.2.1, .retAddr 0, .retAddr 0] [.int s.2.2.2.1] s.2.2.2.2.2.2 (some (.int r.1)) r.2) ∧ (s.1 = 117 → Sx (47 + s.2.1) mX3_plain 117 [.ref s.2.2.2.2.2.1, .int s.2.2.1, .int s.2.2.2.1, .retAddr 0, .retAddr 0] [.int s.2.2.2.2.1] s.2.2.2.2.2.2 (some (.int r.1)) r.2) ∧ (s.1 = 137 → Sx (47 + s.2.1) mX3_plain 137 [.ref s.2.2.2.2.2.1, .retAddr 0, .int s.2.2.1, .retAddr 0, .int s.2.2.2.1] [] s.2.2.2.2.2.2 (some (.int r.1)) r.2) ∧ (s.1 = 138 → Sx (47 + s.2.1) mX3_plain 138 [.ref s.2.2.2.2.2.1, .retAddr 0, .int s.2.2.1, .retAddr 0, .int s.2.2.2.1] [.int s.2.2.2.2.1] s.2.2.2.2.2.2 (some (.int r.1)) r.2) ∧ (s.1 = 154 → Sx (47 + s.2.1) mX3_plain 154 [.ref s.2.2.2.2.2.1, .retAddr 0, .int s.2.2.1, .int s.2.2.2.1, .retAddr 0] [] s.2.2.2.2.2.2 (some (.int r.1)) r.2) ∧ (s.1 = 10000 → isO s.2.2.2.2.2.2 3 s.2.2.2.2.2.1 = true ∧ Sx (47 + s.2.1) mX3_both 0 (am_en [.ref s.2.2.2.2.2.1, .int s.2.2.1] 5) [] s.2.2.2.2.2.2 (some (.int r.1)) r.2) ∧ (s.1 = 10008 → Sx (47 + s.2.1) mX3_both 8 [.ref s.2.2.2.2.2.1, .int s.2.2.1, .int s.2.2.2.1, .int s.2.2.2.2.1, .retAddr 0] [] s.2.2.2.2.2.2 (some (.int r.1)) r.2) ∧ (s.1 = 20000 → isO s.2.2.2.2.2.2 3 s.2.2.2.2.2.1 = true ∧ Sx (47 + s.2.1) mX3_test 0 (am_en [.ref s.2.2.2.2.2.1, .int s.2.2.1] 5) [] s.2.2.2.2.2.2 (some (.int r.1)) r.2) ∧ (s.1 = 20008 → Sx (47 + s.2.1) mX3_test 8 [.ref s.2.2.2.2.2.1, .int s.2.2.1, .int s.2.2.2.1, .int s.2.2.2.2.1, .retAddr 0] [] s.2.2.2.2.2.2 (some (.int r.1)) r.2) ∧ True
set_option maxHeartbeats 1000000 in
set_option maxRecDepth 100000 in
theorem Reader_plain_t {g : (Nat × Nat × Int32 × Int32 × Int32 × Nat × am_H) → Option (Int32 × am_H)} (hg : ∀ s r, g s = some r → Reader_plainG_P s r) {dd : Nat} {v0 : Nat} {v1 : Int32} {h : am_H} {r : (Int32 × am_H)} (hb : Reader_plain_b g dd v0 v1 h = some r) : isO h 3 v0 = true ∧ Sx (47 + dd) mX3_plain 0 (am_en [.ref v0, .int v1] 5) [] h (some (.int r.1)) r.2 := by
  unfold Reader_plain_b at hb
  obtain ⟨ho, hb⟩ := iz hb
  refine ⟨ho, ?_⟩
  show Sx (47 + dd) mX3_plain 0 [.ref v0, .int v1, .retAddr 0, .retAddr 0, .retAddr 0] [] h (some (.int r.1)) r.2
  refine Sx.o (fun _ _ _ k => op_iconst (0 : Int32) dX3_plain_0 (by decide) k) ?_
  refine Sx.o (L' := [.ref v0, .int v1, .int (0 : Int32), .retAddr 0, .retAddr 0]) (fun _ _ _ k => ex_istore_n dX3_plain_1 (by decide) k) ?_
  refine Sx.o (fun _ _ _ k => op_iconst (0 : Int32) dX3_plain_2 (by decide) k) ?_
  refine Sx.o (L' := [.ref v0, .int v1, .int (0 : Int32), .int (0 : Int32), .retAddr 0]) (fun _ _ _ k => ex_istore_n dX3_plain_3 (by decide) k) ?_
  exact (hg _ _ hb).2.1 rfl
set_option maxHeartbeats 1000000 in
set_option maxRecDepth 100000 in
theorem Reader_plain_4_t {g : (Nat × Nat × Int32 × Int32 × Int32 × Nat × am_H) → Option (Int32 × am_H)} (hg : ∀ s r, g s = some r → Reader_plainG_P s r) {dd : Nat} {v0 : Nat} {v1 : Int32} {v2 : Int32} {v3 : Int32} {h : am_H} {r : (Int32 × am_H)} (hb : Reader_plain_4_b g dd v0 v1 v2 v3 h = some r) : Sx (47 + dd) mX3_plain 4 [.ref v0, .int v1, .int v2, .int v3, .retAddr 0] [] h (some (.int r.1)) r.2 := by
  unfold Reader_plain_4_b at hb
  refine Sx.o (fun _ _ _ k => ex_iload_n dX3_plain_4 rfl k) ?_
  refine Sx.o (fun _ _ _ k => op_sipush (400 : Int32) dX3_plain_5 (by decide) k) ?_
  refine Sx.b (fun _ _ _ k1 k2 => ex_icmp_ge 46 dX3_plain_8 (by decide) k1 k2) (fun q => ?_) (fun q => ?_)
  · have hb1 := ip q hb
    refine Sx.fg [true, true, true, false, true] ?_
    exact (hg _ _ hb1).2.2.2.1 rfl
  · have hb2 := iq q hb
    refine Sx.o (fun _ _ _ k => ex_aload_n dX3_plain_11 rfl rfl k) ?_
    obtain ⟨x3, e_x3, hb4⟩ := ob2 hb2
    refine Sx.o (fun _ _ _ k => op_getR fX3_18 dX3_plain_12 e_x3 k) ?_
    refine Sx.o (fun _ _ _ k => ex_ldcS (tx := "not") (i := 7) (by decide) (List.mem_of_getElem? (i := 7) rfl) dX3_plain_15 k) ?_
    obtain ⟨x5, e_x5, hb6⟩ := ob2 hb4
    refine sx_callV (dc := 5) (as := [am_s 7]) (stq := [.int x5]) (by omega) dX3_plain_17 MX8_isWord kX3_88 iX8_isWord sX8_isWord rfl rfl (Tape_isWord_o e_x5) rfl rfl (Nat.le_of_ble_eq_true rfl) (Nat.le_of_ble_eq_true rfl) (Tape_isWord_s e_x5) rfl ?_
    refine Sx.b (fun _ _ _ k1 k2 => ex_if_eq 46 dX3_plain_20 (by decide) k1 k2) (fun q => ?_) (fun q => ?_)
    · have hb7 := ip q hb6
      refine Sx.fg [true, true, true, false, true] ?_
      exact (hg _ _ hb7).2.2.2.1 rfl
    · have hb8 := iq q hb6
      refine Sx.o (fun _ _ _ k => ex_iload_n dX3_plain_23 rfl k) ?_
      refine Sx.bn (fun _ _ _ k1 k2 => ex_if_ne 31 dX3_plain_24 (by decide) k1 k2) (fun q => ?_) (fun q => ?_)
      · have hb9 := iq q hb8
        refine Sx.o (fun _ _ _ k => op_iconst (0 : Int32) dX3_plain_31 (by decide) k) ?_
        refine Sx.fg [true, true, false, true, true] ?_
        exact (hg _ _ hb9).2.2.1 rfl
      · have hb10 := ip q hb8
        refine Sx.o (fun _ _ _ k => op_iconst (1 : Int32) dX3_plain_27 (by decide) k) ?_
        refine Sx.o (fun _ _ _ k => ex_goto 32 dX3_plain_28 (by decide) k) ?_
        refine Sx.fg [true, true, false, true, true] ?_
        exact (hg _ _ hb10).2.2.1 rfl
set_option maxHeartbeats 1000000 in
set_option maxRecDepth 100000 in
theorem Reader_plain_32_t {g : (Nat × Nat × Int32 × Int32 × Int32 × Nat × am_H) → Option (Int32 × am_H)} (hg : ∀ s r, g s = some r → Reader_plainG_P s r) {dd : Nat} {v0 : Nat} {v1 : Int32} {v3 : Int32} {s0 : Int32} {h : am_H} {r : (Int32 × am_H)} (hb : Reader_plain_32_b g dd v0 v1 v3 s0 h = some r) : Sx (47 + dd) mX3_plain 32 [.ref v0, .int v1, .retAddr 0, .int v3, .retAddr 0] [.int s0] h (some (.int r.1)) r.2 := by
  unfold Reader_plain_32_b at hb
  refine Sx.o (L' := [.ref v0, .int v1, .int s0, .int v3, .retAddr 0]) (fun _ _ _ k => ex_istore_n dX3_plain_32 (by decide) k) ?_
  refine Sx.o (fun _ _ _ k => ex_aload_n dX3_plain_33 rfl rfl k) ?_
  obtain ⟨x11, e_x11, hb12⟩ := ob2 hb
  refine Sx.o (fun _ _ _ k => op_getR fX3_18 dX3_plain_34 e_x11 k) ?_
  obtain ⟨h13, e_h13, hb14⟩ := ob2 hb12
  refine sx_callV (dc := 0) (as := []) (stq := []) (by omega) dX3_plain_37 MX8_go kX3_65 iX8_go sX8_go rfl rfl (Tape_go_o e_h13) rfl rfl (Nat.le_of_ble_eq_true rfl) (Nat.le_of_ble_eq_true rfl) (Tape_go_s e_h13) rfl ?_
  refine Sx.o (L' := [.ref v0, .int v1, .int s0, .int (v3 + (1 : Int32)), .retAddr 0]) (fun _ _ _ k => op_iinc (1 : Int32) dX3_plain_40 (by decide) rfl (by decide) k) ?_
  refine Sx.o (fun _ _ _ k => ex_goto 4 dX3_plain_43 (by decide) k) ?_
  exact (hg _ _ hb14).2.1 rfl
set_option maxHeartbeats 1000000 in
set_option maxRecDepth 100000 in
theorem Reader_plain_46_t {g : (Nat × Nat × Int32 × Int32 × Int32 × Nat × am_H) → Option (Int32 × am_H)} (hg : ∀ s r, g s = some r → Reader_plainG_P s r) {dd : Nat} {v0 : Nat} {v1 : Int32} {v2 : Int32} {h : am_H} {r : (Int32 × am_H)} (hb : Reader_plain_46_b g dd v0 v1 v2 h = some r) : Sx (47 + dd) mX3_plain 46 [.ref v0, .int v1, .int v2, .retAddr 0, .retAddr 0] [] h (some (.int r.1)) r.2 := by
  unfold Reader_plain_46_b at hb
  refine Sx.o (fun _ _ _ k => ex_aload_n dX3_plain_46 rfl rfl k) ?_
  obtain ⟨x16, e_x16, hb17⟩ := ob2 hb
  refine Sx.o (fun _ _ _ k => op_getR fX3_18 dX3_plain_47 e_x16 k) ?_
  refine Sx.o (fun _ _ _ k => op_bipush (40 : Int32) dX3_plain_50 (by decide) k) ?_
  obtain ⟨x18, e_x18, hb19⟩ := ob2 hb17
  refine sx_callV (dc := 0) (as := [.int (40 : Int32)]) (stq := [.int x18]) (by omega) dX3_plain_52 MX8_isSign kX3_91 iX8_isSign sX8_isSign rfl rfl (Tape_isSign_o e_x18) rfl rfl (Nat.le_of_ble_eq_true rfl) (Nat.le_of_ble_eq_true rfl) (Tape_isSign_s e_x18) rfl ?_
  refine Sx.b (fun _ _ _ k1 k2 => ex_if_eq 101 dX3_plain_55 (by decide) k1 k2) (fun q => ?_) (fun q => ?_)
  · have hb20 := ip q hb19
    refine Sx.o (fun _ _ _ k => ex_aload_n dX3_plain_101 rfl rfl k) ?_
    refine Sx.o (fun _ _ _ k => ex_iload_n dX3_plain_102 rfl k) ?_
    obtain ⟨r22, e_r22, hb23⟩ := ob2 hb20
    refine sx_callV (dc := (6 + 40)) (as := [.int v1]) (stq := [.int r22.1]) (by omega) dX3_plain_103 MX3_sum kX3_118 iX3_sum sX3_sum rfl rfl (Reader_sum_o e_r22) rfl rfl (Nat.le_of_ble_eq_true rfl) (Nat.le_of_ble_eq_true rfl) (Reader_sum_s e_r22) rfl ?_
    refine Sx.b (fun _ _ _ k1 k2 => ex_if_eq 116 dX3_plain_106 (by decide) k1 k2) (fun q => ?_) (fun q => ?_)
    · have hb25 := ip q hb23
      refine Sx.o (fun _ _ _ k => op_iconst (-1 : Int32) dX3_plain_116 (by decide) k) ?_
      exact (hg _ _ hb25).2.2.2.2.2.2.1 rfl
    · have hb26 := iq q hb23
      refine Sx.o (fun _ _ _ k => ex_aload_n dX3_plain_109 rfl rfl k) ?_
      obtain ⟨r27, e_r27, hb28⟩ := ob2 hb26
      refine sx_callV (dc := 1) (as := []) (stq := [.int r27.1]) (by omega) dX3_plain_110 MX3_comparison kX3_136 iX3_comparison sX3_comparison rfl rfl (Reader_comparison_o e_r27) rfl rfl (Nat.le_of_ble_eq_true rfl) (Nat.le_of_ble_eq_true rfl) (Reader_comparison_s e_r27) rfl ?_
      refine Sx.o (fun _ _ _ k => ex_goto 117 dX3_plain_113 (by decide) k) ?_
      exact (hg _ _ hb28).2.2.2.2.2.2.1 rfl
  · have hb21 := iq q hb19
    refine Sx.o (fun _ _ _ k => ex_iload_n dX3_plain_58 rfl k) ?_
    refine Sx.o (fun _ _ _ k => op_bipush (8 : Int32) dX3_plain_59 (by decide) k) ?_
    refine Sx.b (fun _ _ _ k1 k2 => ex_icmp_ge 96 dX3_plain_61 (by decide) k1 k2) (fun q => ?_) (fun q => ?_)
    · have hb30 := ip q hb21
      refine Sx.fg [true, false, true, true, true] ?_
      exact (hg _ _ hb30).2.2.2.2.1 rfl
    · have hb31 := iq q hb21
      refine Sx.o (fun _ _ _ k => ex_aload_n dX3_plain_64 rfl rfl k) ?_
      refine Sx.o (fun _ _ _ k => op_bipush (40 : Int32) dX3_plain_65 (by decide) k) ?_
      obtain ⟨r32, e_r32, hb33⟩ := ob2 hb31
      refine sx_callV (dc := 1) (as := [.int (40 : Int32)]) (stq := [.int r32.1]) (by omega) dX3_plain_67 MX3_takeSign kX3_48 iX3_takeSign sX3_takeSign rfl rfl (Reader_takeSign_o e_r32) rfl rfl (Nat.le_of_ble_eq_true rfl) (Nat.le_of_ble_eq_true rfl) (Reader_takeSign_s e_r32) rfl ?_
      refine Sx.b (fun _ _ _ k1 k2 => ex_if_eq 96 dX3_plain_70 (by decide) k1 k2) (fun q => ?_) (fun q => ?_)
      · have hb35 := ip q hb33
        refine Sx.fg [true, false, true, true, true] ?_
        exact (hg _ _ hb35).2.2.2.2.1 rfl
      · have hb36 := iq q hb33
        refine Sx.o (fun _ _ _ k => ex_aload_n dX3_plain_73 rfl rfl k) ?_
        refine Sx.o (fun _ _ _ k => ex_iload_n dX3_plain_74 rfl k) ?_
        refine Sx.o (fun _ _ _ k => op_iconst (1 : Int32) dX3_plain_75 (by decide) k) ?_
        refine Sx.o (fun _ _ _ k => ex_iadd dX3_plain_76 k) ?_
        obtain ⟨r37, e_r37, hb38⟩ := ob2 hb36
        obtain ⟨hdd_r37, e_r37⟩ := iz e_r37
        refine sx_callV (dc := (47 + (dd - 1))) (as := [.int (v1 + (1 : Int32))]) (stq := [.int r37.1]) (by omega) dX3_plain_77 MX3_test kX3_108 iX3_test sX3_test rfl rfl ((fun e => ((hg _ _ e).2.2.2.2.2.2.2.2.2.2.2.2.1 rfl).1) e_r37) rfl rfl (Nat.le_of_ble_eq_true rfl) (Nat.le_of_ble_eq_true rfl) ((fun e => ((hg _ _ e).2.2.2.2.2.2.2.2.2.2.2.2.1 rfl).2) e_r37) rfl ?_
        refine Sx.b (fun _ _ _ k1 k2 => ex_if_eq 96 dX3_plain_80 (by decide) k1 k2) (fun q => ?_) (fun q => ?_)
        · have hb40 := ip q hb38
          refine Sx.fg [true, false, true, true, true] ?_
          exact (hg _ _ hb40).2.2.2.2.1 rfl
        · have hb41 := iq q hb38
          refine Sx.o (fun _ _ _ k => ex_aload_n dX3_plain_83 rfl rfl k) ?_
          refine Sx.o (fun _ _ _ k => op_bipush (41 : Int32) dX3_plain_84 (by decide) k) ?_
          obtain ⟨r42, e_r42, hb43⟩ := ob2 hb41
          refine sx_callV (dc := 1) (as := [.int (41 : Int32)]) (stq := [.int r42.1]) (by omega) dX3_plain_86 MX3_takeSign kX3_48 iX3_takeSign sX3_takeSign rfl rfl (Reader_takeSign_o e_r42) rfl rfl (Nat.le_of_ble_eq_true rfl) (Nat.le_of_ble_eq_true rfl) (Reader_takeSign_s e_r42) rfl ?_
          refine Sx.b (fun _ _ _ k1 k2 => ex_if_eq 96 dX3_plain_89 (by decide) k1 k2) (fun q => ?_) (fun q => ?_)
          · have hb45 := ip q hb43
            refine Sx.fg [true, false, true, true, true] ?_
            exact (hg _ _ hb45).2.2.2.2.1 rfl
          · have hb46 := iq q hb43
            refine Sx.o (fun _ _ _ k => op_iconst (1 : Int32) dX3_plain_92 (by decide) k) ?_
            refine Sx.o (fun _ _ _ k => ex_goto 97 dX3_plain_93 (by decide) k) ?_
            refine Sx.fg [true, false, true, true, true] ?_
            exact (hg _ _ hb46).2.2.2.2.2.1 rfl
set_option maxHeartbeats 1000000 in
set_option maxRecDepth 100000 in
theorem Reader_plain_96_t {g : (Nat × Nat × Int32 × Int32 × Int32 × Nat × am_H) → Option (Int32 × am_H)} (hg : ∀ s r, g s = some r → Reader_plainG_P s r) {dd : Nat} {v0 : Nat} {v2 : Int32} {h : am_H} {r : (Int32 × am_H)} (hb : Reader_plain_96_b g dd v0 v2 h = some r) : Sx (47 + dd) mX3_plain 96 [.ref v0, .retAddr 0, .int v2, .retAddr 0, .retAddr 0] [] h (some (.int r.1)) r.2 := by
  unfold Reader_plain_96_b at hb
  refine Sx.o (fun _ _ _ k => op_iconst (0 : Int32) dX3_plain_96 (by decide) k) ?_
  exact (hg _ _ hb).2.2.2.2.2.1 rfl
set_option maxHeartbeats 1000000 in
set_option maxRecDepth 100000 in
theorem Reader_plain_97_t {g : (Nat × Nat × Int32 × Int32 × Int32 × Nat × am_H) → Option (Int32 × am_H)} (hg : ∀ s r, g s = some r → Reader_plainG_P s r) {dd : Nat} {v0 : Nat} {v2 : Int32} {s0 : Int32} {h : am_H} {r : (Int32 × am_H)} (hb : Reader_plain_97_b g dd v0 v2 s0 h = some r) : Sx (47 + dd) mX3_plain 97 [.ref v0, .retAddr 0, .int v2, .retAddr 0, .retAddr 0] [.int s0] h (some (.int r.1)) r.2 := by
  unfold Reader_plain_97_b at hb
  refine Sx.o (L' := [.ref v0, .retAddr 0, .int v2, .int s0, .retAddr 0]) (fun _ _ _ k => ex_istore_n dX3_plain_97 (by decide) k) ?_
  refine Sx.o (fun _ _ _ k => ex_goto 154 dX3_plain_98 (by decide) k) ?_
  exact (hg _ _ hb).2.2.2.2.2.2.2.2.2.1 rfl
set_option maxHeartbeats 1000000 in
set_option maxRecDepth 100000 in
theorem Reader_plain_117_t {g : (Nat × Nat × Int32 × Int32 × Int32 × Nat × am_H) → Option (Int32 × am_H)} (hg : ∀ s r, g s = some r → Reader_plainG_P s r) {dd : Nat} {v0 : Nat} {v1 : Int32} {v2 : Int32} {s0 : Int32} {h : am_H} {r : (Int32 × am_H)} (hb : Reader_plain_117_b g dd v0 v1 v2 s0 h = some r) : Sx (47 + dd) mX3_plain 117 [.ref v0, .int v1, .int v2, .retAddr 0, .retAddr 0] [.int s0] h (some (.int r.1)) r.2 := by
  unfold Reader_plain_117_b at hb
  refine Sx.o (L' := [.ref v0, .int v1, .int v2, .retAddr 0, .int s0]) (fun _ _ _ k => ex_istore dX3_plain_117 (by decide) k) ?_
  refine Sx.o (fun _ _ _ k => ex_iload dX3_plain_119 rfl k) ?_
  refine Sx.o (fun _ _ _ k => op_iconst (-1 : Int32) dX3_plain_121 (by decide) k) ?_
  refine Sx.b (fun _ _ _ k1 k2 => ex_icmp_eq 137 dX3_plain_122 (by decide) k1 k2) (fun q => ?_) (fun q => ?_)
  · have hb47 := ip q hb
    refine Sx.fg [true, false, true, true, true] ?_
    exact (hg _ _ hb47).2.2.2.2.2.2.2.1 rfl
  · have hb48 := iq q hb
    refine Sx.o (fun _ _ _ k => ex_aload_n dX3_plain_125 rfl rfl k) ?_
    refine Sx.o (fun _ _ _ k => ex_iload_n dX3_plain_126 rfl k) ?_
    obtain ⟨r49, e_r49, hb50⟩ := ob2 hb48
    refine sx_callV (dc := (6 + 40)) (as := [.int v1]) (stq := [.int r49.1]) (by omega) dX3_plain_127 MX3_sum kX3_118 iX3_sum sX3_sum rfl rfl (Reader_sum_o e_r49) rfl rfl (Nat.le_of_ble_eq_true rfl) (Nat.le_of_ble_eq_true rfl) (Reader_sum_s e_r49) rfl ?_
    refine Sx.b (fun _ _ _ k1 k2 => ex_if_eq 137 dX3_plain_130 (by decide) k1 k2) (fun q => ?_) (fun q => ?_)
    · have hb52 := ip q hb50
      refine Sx.fg [true, false, true, true, true] ?_
      exact (hg _ _ hb52).2.2.2.2.2.2.2.1 rfl
    · have hb53 := iq q hb50
      refine Sx.o (fun _ _ _ k => op_iconst (1 : Int32) dX3_plain_133 (by decide) k) ?_
      refine Sx.o (fun _ _ _ k => ex_goto 138 dX3_plain_134 (by decide) k) ?_
      refine Sx.fg [true, false, true, true, true] ?_
      exact (hg _ _ hb53).2.2.2.2.2.2.2.2.1 rfl
set_option maxHeartbeats 1000000 in
set_option maxRecDepth 100000 in
theorem Reader_plain_137_t {g : (Nat × Nat × Int32 × Int32 × Int32 × Nat × am_H) → Option (Int32 × am_H)} (hg : ∀ s r, g s = some r → Reader_plainG_P s r) {dd : Nat} {v0 : Nat} {v2 : Int32} {v4 : Int32} {h : am_H} {r : (Int32 × am_H)} (hb : Reader_plain_137_b g dd v0 v2 v4 h = some r) : Sx (47 + dd) mX3_plain 137 [.ref v0, .retAddr 0, .int v2, .retAddr 0, .int v4] [] h (some (.int r.1)) r.2 := by
  unfold Reader_plain_137_b at hb
  refine Sx.o (fun _ _ _ k => op_iconst (0 : Int32) dX3_plain_137 (by decide) k) ?_
  exact (hg _ _ hb).2.2.2.2.2.2.2.2.1 rfl
set_option maxHeartbeats 1000000 in
set_option maxRecDepth 100000 in
theorem Reader_plain_138_t {g : (Nat × Nat × Int32 × Int32 × Int32 × Nat × am_H) → Option (Int32 × am_H)} (hg : ∀ s r, g s = some r → Reader_plainG_P s r) {dd : Nat} {v0 : Nat} {v2 : Int32} {v4 : Int32} {s0 : Int32} {h : am_H} {r : (Int32 × am_H)} (hb : Reader_plain_138_b g dd v0 v2 v4 s0 h = some r) : Sx (47 + dd) mX3_plain 138 [.ref v0, .retAddr 0, .int v2, .retAddr 0, .int v4] [.int s0] h (some (.int r.1)) r.2 := by
  unfold Reader_plain_138_b at hb
  refine Sx.o (L' := [.ref v0, .retAddr 0, .int v2, .int s0, .int v4]) (fun _ _ _ k => ex_istore_n dX3_plain_138 (by decide) k) ?_
  refine Sx.o (fun _ _ _ k => ex_aload_n dX3_plain_139 rfl rfl k) ?_
  obtain ⟨x54, e_x54, hb55⟩ := ob2 hb
  refine Sx.o (fun _ _ _ k => op_getR fX3_12 dX3_plain_140 e_x54 k) ?_
  refine Sx.o (fun _ _ _ k => ex_iload dX3_plain_143 rfl k) ?_
  refine Sx.o (fun _ _ _ k => op_iconst (0 : Int32) dX3_plain_145 (by decide) k) ?_
  refine Sx.o (fun _ _ _ k => op_mmax (by omega) dX3_plain_146 kX3_139 (Nat.le_of_ble_eq_true rfl) k) ?_
  refine Sx.o (fun _ _ _ k => op_iconst (0 : Int32) dX3_plain_149 (by decide) k) ?_
  obtain ⟨r56, e_r56, hb57⟩ := ob2 hb55
  refine sx_callV (dc := 0) (as := [.int (if v4 < (0 : Int32) then (0 : Int32) else v4), .int (0 : Int32)]) (stq := [.int r56.1]) (by omega) dX3_plain_150 MX9_add kX3_111 iX9_add sX9_add rfl rfl (Text_add_o e_r56) rfl rfl (Nat.le_of_ble_eq_true rfl) (Nat.le_of_ble_eq_true rfl) (Text_add_s e_r56) rfl ?_
  refine Sx.o (fun _ _ _ k => ex_pop dX3_plain_153 rfl k) ?_
  refine Sx.fg [true, true, true, true, false] ?_
  exact (hg _ _ hb57).2.2.2.2.2.2.2.2.2.1 rfl
set_option maxHeartbeats 1000000 in
set_option maxRecDepth 100000 in
theorem Reader_plain_154_t {g : (Nat × Nat × Int32 × Int32 × Int32 × Nat × am_H) → Option (Int32 × am_H)} (hg : ∀ s r, g s = some r → Reader_plainG_P s r) {dd : Nat} {v0 : Nat} {v2 : Int32} {v3 : Int32} {h : am_H} {r : (Int32 × am_H)} (hb : Reader_plain_154_b g dd v0 v2 v3 h = some r) : Sx (47 + dd) mX3_plain 154 [.ref v0, .retAddr 0, .int v2, .int v3, .retAddr 0] [] h (some (.int r.1)) r.2 := by
  unfold Reader_plain_154_b at hb
  refine Sx.o (fun _ _ _ k => ex_iload_n dX3_plain_154 rfl k) ?_
  refine Sx.b (fun _ _ _ k1 k2 => ex_if_eq 169 dX3_plain_155 (by decide) k1 k2) (fun q => ?_) (fun q => ?_)
  · have hb59 := ip q hb
    refine Sx.o (fun _ _ _ k => ex_iload_n dX3_plain_169 rfl k) ?_
    obtain ⟨u61, e_u61, hb62⟩ := ob2 hb59
    obtain rfl := Option.some.inj hb62
    exact Sx.r (fun _ _ _ k => ex_zret rfl (nrZ_n e_u61) dX3_plain_170 k)
  · have hb60 := iq q hb
    refine Sx.o (fun _ _ _ k => ex_aload_n dX3_plain_158 rfl rfl k) ?_
    obtain ⟨x63, e_x63, hb64⟩ := ob2 hb60
    refine Sx.o (fun _ _ _ k => op_getR fX3_12 dX3_plain_159 e_x63 k) ?_
    refine Sx.o (fun _ _ _ k => op_bipush (11 : Int32) dX3_plain_162 (by decide) k) ?_
    refine Sx.o (fun _ _ _ k => op_iconst (0 : Int32) dX3_plain_164 (by decide) k) ?_
    obtain ⟨r65, e_r65, hb66⟩ := ob2 hb64
    refine sx_callV (dc := 0) (as := [.int (11 : Int32), .int (0 : Int32)]) (stq := [.int r65.1]) (by omega) dX3_plain_165 MX9_add kX3_111 iX9_add sX9_add rfl rfl (Text_add_o e_r65) rfl rfl (Nat.le_of_ble_eq_true rfl) (Nat.le_of_ble_eq_true rfl) (Text_add_s e_r65) rfl ?_
    refine Sx.o (fun _ _ _ k => ex_pop dX3_plain_168 rfl k) ?_
    refine Sx.o (fun _ _ _ k => ex_iload_n dX3_plain_169 rfl k) ?_
    obtain ⟨u68, e_u68, hb69⟩ := ob2 hb66
    obtain rfl := Option.some.inj hb69
    exact Sx.r (fun _ _ _ k => ex_zret rfl (nrZ_n e_u68) dX3_plain_170 k)
set_option maxHeartbeats 1000000 in
set_option maxRecDepth 100000 in
theorem Reader_both_t {g : (Nat × Nat × Int32 × Int32 × Int32 × Nat × am_H) → Option (Int32 × am_H)} (hg : ∀ s r, g s = some r → Reader_plainG_P s r) {dd : Nat} {v0 : Nat} {v1 : Int32} {h : am_H} {r : (Int32 × am_H)} (hb : Reader_both_b g dd v0 v1 h = some r) : isO h 3 v0 = true ∧ Sx (47 + dd) mX3_both 0 (am_en [.ref v0, .int v1] 5) [] h (some (.int r.1)) r.2 := by
  unfold Reader_both_b at hb
  obtain ⟨ho, hb⟩ := iz hb
  refine ⟨ho, ?_⟩
  show Sx (47 + dd) mX3_both 0 [.ref v0, .int v1, .retAddr 0, .retAddr 0, .retAddr 0] [] h (some (.int r.1)) r.2
  refine Sx.o (fun _ _ _ k => ex_aload_n dX3_both_0 rfl rfl k) ?_
  refine Sx.o (fun _ _ _ k => ex_iload_n dX3_both_1 rfl k) ?_
  obtain ⟨r70, e_r70, hb71⟩ := ob2 hb
  obtain ⟨hdd_r70, e_r70⟩ := iz e_r70
  refine sx_callV (dc := (47 + (dd - 1))) (as := [.int v1]) (stq := [.int r70.1]) (by omega) dX3_both_2 MX3_plain kX3_129 iX3_plain sX3_plain rfl rfl ((fun e => ((hg _ _ e).1 rfl).1) e_r70) rfl rfl (Nat.le_of_ble_eq_true rfl) (Nat.le_of_ble_eq_true rfl) ((fun e => ((hg _ _ e).1 rfl).2) e_r70) rfl ?_
  refine Sx.o (L' := [.ref v0, .int v1, .int r70.1, .retAddr 0, .retAddr 0]) (fun _ _ _ k => ex_istore_n dX3_both_5 (by decide) k) ?_
  refine Sx.o (fun _ _ _ k => op_iconst (0 : Int32) dX3_both_6 (by decide) k) ?_
  refine Sx.o (L' := [.ref v0, .int v1, .int r70.1, .int (0 : Int32), .retAddr 0]) (fun _ _ _ k => ex_istore_n dX3_both_7 (by decide) k) ?_
  exact (hg _ _ hb71).2.2.2.2.2.2.2.2.2.2.2.1 rfl
set_option maxHeartbeats 1000000 in
set_option maxRecDepth 100000 in
theorem Reader_both_8_t {g : (Nat × Nat × Int32 × Int32 × Int32 × Nat × am_H) → Option (Int32 × am_H)} (hg : ∀ s r, g s = some r → Reader_plainG_P s r) {dd : Nat} {v0 : Nat} {v1 : Int32} {v2 : Int32} {v3 : Int32} {h : am_H} {r : (Int32 × am_H)} (hb : Reader_both_8_b g dd v0 v1 v2 v3 h = some r) : Sx (47 + dd) mX3_both 8 [.ref v0, .int v1, .int v2, .int v3, .retAddr 0] [] h (some (.int r.1)) r.2 := by
  unfold Reader_both_8_b at hb
  refine Sx.o (fun _ _ _ k => ex_iload_n dX3_both_8 rfl k) ?_
  refine Sx.o (fun _ _ _ k => op_sipush (400 : Int32) dX3_both_9 (by decide) k) ?_
  refine Sx.b (fun _ _ _ k1 k2 => ex_icmp_ge 71 dX3_both_12 (by decide) k1 k2) (fun q => ?_) (fun q => ?_)
  · have hb73 := ip q hb
    refine Sx.o (fun _ _ _ k => ex_iload_n dX3_both_71 rfl k) ?_
    obtain ⟨u75, e_u75, hb76⟩ := ob2 hb73
    obtain rfl := Option.some.inj hb76
    exact Sx.r (fun _ _ _ k => ex_zret rfl (nrZ_n e_u75) dX3_both_72 k)
  · have hb74 := iq q hb
    refine Sx.o (fun _ _ _ k => ex_iload_n dX3_both_15 rfl k) ?_
    refine Sx.b (fun _ _ _ k1 k2 => ex_if_eq 71 dX3_both_16 (by decide) k1 k2) (fun q => ?_) (fun q => ?_)
    · have hb77 := ip q hb74
      refine Sx.o (fun _ _ _ k => ex_iload_n dX3_both_71 rfl k) ?_
      obtain ⟨u79, e_u79, hb80⟩ := ob2 hb77
      obtain rfl := Option.some.inj hb80
      exact Sx.r (fun _ _ _ k => ex_zret rfl (nrZ_n e_u79) dX3_both_72 k)
    · have hb78 := iq q hb74
      refine Sx.o (fun _ _ _ k => ex_aload_n dX3_both_19 rfl rfl k) ?_
      obtain ⟨x81, e_x81, hb82⟩ := ob2 hb78
      refine Sx.o (fun _ _ _ k => op_getR fX3_18 dX3_both_20 e_x81 k) ?_
      refine Sx.o (fun _ _ _ k => ex_ldcS (tx := "and") (i := 8) (by decide) (List.mem_of_getElem? (i := 8) rfl) dX3_both_23 k) ?_
      obtain ⟨x83, e_x83, hb84⟩ := ob2 hb82
      refine sx_callV (dc := 5) (as := [am_s 8]) (stq := [.int x83]) (by omega) dX3_both_25 MX8_isWord kX3_88 iX8_isWord sX8_isWord rfl rfl (Tape_isWord_o e_x83) rfl rfl (Nat.le_of_ble_eq_true rfl) (Nat.le_of_ble_eq_true rfl) (Tape_isWord_s e_x83) rfl ?_
      refine Sx.b (fun _ _ _ k1 k2 => ex_if_eq 71 dX3_both_28 (by decide) k1 k2) (fun q => ?_) (fun q => ?_)
      · have hb85 := ip q hb84
        refine Sx.o (fun _ _ _ k => ex_iload_n dX3_both_71 rfl k) ?_
        obtain ⟨u87, e_u87, hb88⟩ := ob2 hb85
        obtain rfl := Option.some.inj hb88
        exact Sx.r (fun _ _ _ k => ex_zret rfl (nrZ_n e_u87) dX3_both_72 k)
      · have hb86 := iq q hb84
        refine Sx.o (fun _ _ _ k => ex_aload_n dX3_both_31 rfl rfl k) ?_
        obtain ⟨x89, e_x89, hb90⟩ := ob2 hb86
        refine Sx.o (fun _ _ _ k => op_getR fX3_18 dX3_both_32 e_x89 k) ?_
        obtain ⟨h91, e_h91, hb92⟩ := ob2 hb90
        refine sx_callV (dc := 0) (as := []) (stq := []) (by omega) dX3_both_35 MX8_go kX3_65 iX8_go sX8_go rfl rfl (Tape_go_o e_h91) rfl rfl (Nat.le_of_ble_eq_true rfl) (Nat.le_of_ble_eq_true rfl) (Tape_go_s e_h91) rfl ?_
        refine Sx.o (fun _ _ _ k => ex_aload_n dX3_both_38 rfl rfl k) ?_
        obtain ⟨x94, e_x94, hb95⟩ := ob2 hb92
        refine Sx.o (fun _ _ _ k => op_getR fX3_12 dX3_both_39 e_x94 k) ?_
        refine Sx.o (fun _ _ _ k => op_bipush (13 : Int32) dX3_both_42 (by decide) k) ?_
        refine Sx.o (fun _ _ _ k => op_iconst (0 : Int32) dX3_both_44 (by decide) k) ?_
        obtain ⟨r96, e_r96, hb97⟩ := ob2 hb95
        refine sx_callV (dc := 0) (as := [.int (13 : Int32), .int (0 : Int32)]) (stq := [.int r96.1]) (by omega) dX3_both_45 MX9_add kX3_111 iX9_add sX9_add rfl rfl (Text_add_o e_r96) rfl rfl (Nat.le_of_ble_eq_true rfl) (Nat.le_of_ble_eq_true rfl) (Text_add_s e_r96) rfl ?_
        refine Sx.o (L' := [.ref v0, .int v1, .int v2, .int v3, .int r96.1]) (fun _ _ _ k => ex_istore dX3_both_48 (by decide) k) ?_
        refine Sx.o (fun _ _ _ k => ex_aload_n dX3_both_50 rfl rfl k) ?_
        refine Sx.o (fun _ _ _ k => ex_iload_n dX3_both_51 rfl k) ?_
        obtain ⟨r99, e_r99, hb100⟩ := ob2 hb97
        obtain ⟨hdd_r99, e_r99⟩ := iz e_r99
        refine sx_callV (dc := (47 + (dd - 1))) (as := [.int v1]) (stq := [.int r99.1]) (by omega) dX3_both_52 MX3_plain kX3_129 iX3_plain sX3_plain rfl rfl ((fun e => ((hg _ _ e).1 rfl).1) e_r99) rfl rfl (Nat.le_of_ble_eq_true rfl) (Nat.le_of_ble_eq_true rfl) ((fun e => ((hg _ _ e).1 rfl).2) e_r99) rfl ?_
        refine Sx.o (L' := [.ref v0, .int v1, .int r99.1, .int v3, .int r96.1]) (fun _ _ _ k => ex_istore_n dX3_both_55 (by decide) k) ?_
        refine Sx.o (fun _ _ _ k => ex_aload_n dX3_both_56 rfl rfl k) ?_
        obtain ⟨x102, e_x102, hb103⟩ := ob2 hb100
        refine Sx.o (fun _ _ _ k => op_getR fX3_12 dX3_both_57 e_x102 k) ?_
        refine Sx.o (fun _ _ _ k => ex_iload dX3_both_60 rfl k) ?_
        obtain ⟨h104, e_h104, hb105⟩ := ob2 hb103
        refine sx_callV (dc := 0) (as := [.int r96.1]) (stq := []) (by omega) dX3_both_62 MX9_land kX3_126 iX9_land sX9_land rfl rfl (Text_land_o e_h104) rfl rfl (Nat.le_of_ble_eq_true rfl) (Nat.le_of_ble_eq_true rfl) (Text_land_s e_h104) rfl ?_
        refine Sx.o (L' := [.ref v0, .int v1, .int r99.1, .int (v3 + (1 : Int32)), .int r96.1]) (fun _ _ _ k => op_iinc (1 : Int32) dX3_both_65 (by decide) rfl (by decide) k) ?_
        refine Sx.o (fun _ _ _ k => ex_goto 8 dX3_both_68 (by decide) k) ?_
        refine Sx.fg [true, true, true, true, false] ?_
        exact (hg _ _ hb105).2.2.2.2.2.2.2.2.2.2.2.1 rfl
set_option maxHeartbeats 1000000 in
set_option maxRecDepth 100000 in
theorem Reader_test_t {g : (Nat × Nat × Int32 × Int32 × Int32 × Nat × am_H) → Option (Int32 × am_H)} (hg : ∀ s r, g s = some r → Reader_plainG_P s r) {dd : Nat} {v0 : Nat} {v1 : Int32} {h : am_H} {r : (Int32 × am_H)} (hb : Reader_test_b g dd v0 v1 h = some r) : isO h 3 v0 = true ∧ Sx (47 + dd) mX3_test 0 (am_en [.ref v0, .int v1] 5) [] h (some (.int r.1)) r.2 := by
  unfold Reader_test_b at hb
  obtain ⟨ho, hb⟩ := iz hb
  refine ⟨ho, ?_⟩
  show Sx (47 + dd) mX3_test 0 [.ref v0, .int v1, .retAddr 0, .retAddr 0, .retAddr 0] [] h (some (.int r.1)) r.2
  refine Sx.o (fun _ _ _ k => ex_aload_n dX3_test_0 rfl rfl k) ?_
  refine Sx.o (fun _ _ _ k => ex_iload_n dX3_test_1 rfl k) ?_
  obtain ⟨r107, e_r107, hb108⟩ := ob2 hb
  obtain ⟨hdd_r107, e_r107⟩ := iz e_r107
  refine sx_callV (dc := (47 + (dd - 1))) (as := [.int v1]) (stq := [.int r107.1]) (by omega) dX3_test_2 MX3_both kX3_121 iX3_both sX3_both rfl rfl ((fun e => ((hg _ _ e).2.2.2.2.2.2.2.2.2.2.1 rfl).1) e_r107) rfl rfl (Nat.le_of_ble_eq_true rfl) (Nat.le_of_ble_eq_true rfl) ((fun e => ((hg _ _ e).2.2.2.2.2.2.2.2.2.2.1 rfl).2) e_r107) rfl ?_
  refine Sx.o (L' := [.ref v0, .int v1, .int r107.1, .retAddr 0, .retAddr 0]) (fun _ _ _ k => ex_istore_n dX3_test_5 (by decide) k) ?_
  refine Sx.o (fun _ _ _ k => op_iconst (0 : Int32) dX3_test_6 (by decide) k) ?_
  refine Sx.o (L' := [.ref v0, .int v1, .int r107.1, .int (0 : Int32), .retAddr 0]) (fun _ _ _ k => ex_istore_n dX3_test_7 (by decide) k) ?_
  exact (hg _ _ hb108).2.2.2.2.2.2.2.2.2.2.2.2.2.1 rfl
set_option maxHeartbeats 1000000 in
set_option maxRecDepth 100000 in
theorem Reader_test_8_t {g : (Nat × Nat × Int32 × Int32 × Int32 × Nat × am_H) → Option (Int32 × am_H)} (hg : ∀ s r, g s = some r → Reader_plainG_P s r) {dd : Nat} {v0 : Nat} {v1 : Int32} {v2 : Int32} {v3 : Int32} {h : am_H} {r : (Int32 × am_H)} (hb : Reader_test_8_b g dd v0 v1 v2 v3 h = some r) : Sx (47 + dd) mX3_test 8 [.ref v0, .int v1, .int v2, .int v3, .retAddr 0] [] h (some (.int r.1)) r.2 := by
  unfold Reader_test_8_b at hb
  refine Sx.o (fun _ _ _ k => ex_iload_n dX3_test_8 rfl k) ?_
  refine Sx.o (fun _ _ _ k => op_sipush (400 : Int32) dX3_test_9 (by decide) k) ?_
  refine Sx.b (fun _ _ _ k1 k2 => ex_icmp_ge 71 dX3_test_12 (by decide) k1 k2) (fun q => ?_) (fun q => ?_)
  · have hb110 := ip q hb
    refine Sx.o (fun _ _ _ k => ex_iload_n dX3_test_71 rfl k) ?_
    obtain ⟨u112, e_u112, hb113⟩ := ob2 hb110
    obtain rfl := Option.some.inj hb113
    exact Sx.r (fun _ _ _ k => ex_zret rfl (nrZ_n e_u112) dX3_test_72 k)
  · have hb111 := iq q hb
    refine Sx.o (fun _ _ _ k => ex_iload_n dX3_test_15 rfl k) ?_
    refine Sx.b (fun _ _ _ k1 k2 => ex_if_eq 71 dX3_test_16 (by decide) k1 k2) (fun q => ?_) (fun q => ?_)
    · have hb114 := ip q hb111
      refine Sx.o (fun _ _ _ k => ex_iload_n dX3_test_71 rfl k) ?_
      obtain ⟨u116, e_u116, hb117⟩ := ob2 hb114
      obtain rfl := Option.some.inj hb117
      exact Sx.r (fun _ _ _ k => ex_zret rfl (nrZ_n e_u116) dX3_test_72 k)
    · have hb115 := iq q hb111
      refine Sx.o (fun _ _ _ k => ex_aload_n dX3_test_19 rfl rfl k) ?_
      obtain ⟨x118, e_x118, hb119⟩ := ob2 hb115
      refine Sx.o (fun _ _ _ k => op_getR fX3_18 dX3_test_20 e_x118 k) ?_
      refine Sx.o (fun _ _ _ k => ex_ldcS (tx := "or") (i := 9) (by decide) (List.mem_of_getElem? (i := 9) rfl) dX3_test_23 k) ?_
      obtain ⟨x120, e_x120, hb121⟩ := ob2 hb119
      refine sx_callV (dc := 5) (as := [am_s 9]) (stq := [.int x120]) (by omega) dX3_test_25 MX8_isWord kX3_88 iX8_isWord sX8_isWord rfl rfl (Tape_isWord_o e_x120) rfl rfl (Nat.le_of_ble_eq_true rfl) (Nat.le_of_ble_eq_true rfl) (Tape_isWord_s e_x120) rfl ?_
      refine Sx.b (fun _ _ _ k1 k2 => ex_if_eq 71 dX3_test_28 (by decide) k1 k2) (fun q => ?_) (fun q => ?_)
      · have hb122 := ip q hb121
        refine Sx.o (fun _ _ _ k => ex_iload_n dX3_test_71 rfl k) ?_
        obtain ⟨u124, e_u124, hb125⟩ := ob2 hb122
        obtain rfl := Option.some.inj hb125
        exact Sx.r (fun _ _ _ k => ex_zret rfl (nrZ_n e_u124) dX3_test_72 k)
      · have hb123 := iq q hb121
        refine Sx.o (fun _ _ _ k => ex_aload_n dX3_test_31 rfl rfl k) ?_
        obtain ⟨x126, e_x126, hb127⟩ := ob2 hb123
        refine Sx.o (fun _ _ _ k => op_getR fX3_18 dX3_test_32 e_x126 k) ?_
        obtain ⟨h128, e_h128, hb129⟩ := ob2 hb127
        refine sx_callV (dc := 0) (as := []) (stq := []) (by omega) dX3_test_35 MX8_go kX3_65 iX8_go sX8_go rfl rfl (Tape_go_o e_h128) rfl rfl (Nat.le_of_ble_eq_true rfl) (Nat.le_of_ble_eq_true rfl) (Tape_go_s e_h128) rfl ?_
        refine Sx.o (fun _ _ _ k => ex_aload_n dX3_test_38 rfl rfl k) ?_
        obtain ⟨x131, e_x131, hb132⟩ := ob2 hb129
        refine Sx.o (fun _ _ _ k => op_getR fX3_12 dX3_test_39 e_x131 k) ?_
        refine Sx.o (fun _ _ _ k => op_bipush (12 : Int32) dX3_test_42 (by decide) k) ?_
        refine Sx.o (fun _ _ _ k => op_iconst (0 : Int32) dX3_test_44 (by decide) k) ?_
        obtain ⟨r133, e_r133, hb134⟩ := ob2 hb132
        refine sx_callV (dc := 0) (as := [.int (12 : Int32), .int (0 : Int32)]) (stq := [.int r133.1]) (by omega) dX3_test_45 MX9_add kX3_111 iX9_add sX9_add rfl rfl (Text_add_o e_r133) rfl rfl (Nat.le_of_ble_eq_true rfl) (Nat.le_of_ble_eq_true rfl) (Text_add_s e_r133) rfl ?_
        refine Sx.o (L' := [.ref v0, .int v1, .int v2, .int v3, .int r133.1]) (fun _ _ _ k => ex_istore dX3_test_48 (by decide) k) ?_
        refine Sx.o (fun _ _ _ k => ex_aload_n dX3_test_50 rfl rfl k) ?_
        refine Sx.o (fun _ _ _ k => ex_iload_n dX3_test_51 rfl k) ?_
        obtain ⟨r136, e_r136, hb137⟩ := ob2 hb134
        obtain ⟨hdd_r136, e_r136⟩ := iz e_r136
        refine sx_callV (dc := (47 + (dd - 1))) (as := [.int v1]) (stq := [.int r136.1]) (by omega) dX3_test_52 MX3_both kX3_121 iX3_both sX3_both rfl rfl ((fun e => ((hg _ _ e).2.2.2.2.2.2.2.2.2.2.1 rfl).1) e_r136) rfl rfl (Nat.le_of_ble_eq_true rfl) (Nat.le_of_ble_eq_true rfl) ((fun e => ((hg _ _ e).2.2.2.2.2.2.2.2.2.2.1 rfl).2) e_r136) rfl ?_
        refine Sx.o (L' := [.ref v0, .int v1, .int r136.1, .int v3, .int r133.1]) (fun _ _ _ k => ex_istore_n dX3_test_55 (by decide) k) ?_
        refine Sx.o (fun _ _ _ k => ex_aload_n dX3_test_56 rfl rfl k) ?_
        obtain ⟨x139, e_x139, hb140⟩ := ob2 hb137
        refine Sx.o (fun _ _ _ k => op_getR fX3_12 dX3_test_57 e_x139 k) ?_
        refine Sx.o (fun _ _ _ k => ex_iload dX3_test_60 rfl k) ?_
        obtain ⟨h141, e_h141, hb142⟩ := ob2 hb140
        refine sx_callV (dc := 0) (as := [.int r133.1]) (stq := []) (by omega) dX3_test_62 MX9_land kX3_126 iX9_land sX9_land rfl rfl (Text_land_o e_h141) rfl rfl (Nat.le_of_ble_eq_true rfl) (Nat.le_of_ble_eq_true rfl) (Text_land_s e_h141) rfl ?_
        refine Sx.o (L' := [.ref v0, .int v1, .int r136.1, .int (v3 + (1 : Int32)), .int r133.1]) (fun _ _ _ k => op_iinc (1 : Int32) dX3_test_65 (by decide) rfl (by decide) k) ?_
        refine Sx.o (fun _ _ _ k => ex_goto 8 dX3_test_68 (by decide) k) ?_
        refine Sx.fg [true, true, true, true, false] ?_
        exact (hg _ _ hb142).2.2.2.2.2.2.2.2.2.2.2.2.2.1 rfl
theorem Reader_plainG_T : ∀ s r, fx Reader_plainG_F Reader_plainG_M s = some r → Reader_plainG_P s r := fx_ind Reader_plainG_M Reader_plainG_P (fun g hg s r hb => by
  unfold Reader_plainG_F at hb
  exact ⟨fun q => Reader_plain_t hg (ip q hb), fun q => Reader_plain_4_t hg (ip q (iq (by rw [q]; decide) hb)), fun q => Reader_plain_32_t hg (ip q (iq (by rw [q]; decide) (iq (by rw [q]; decide) hb))), fun q => Reader_plain_46_t hg (ip q (iq (by rw [q]; decide) (iq (by rw [q]; decide) (iq (by rw [q]; decide) hb)))), fun q => Reader_plain_96_t hg (ip q (iq (by rw [q]; decide) (iq (by rw [q]; decide) (iq (by rw [q]; decide) (iq (by rw [q]; decide) hb))))), fun q => Reader_plain_97_t hg (ip q (iq (by rw [q]; decide) (iq (by rw [q]; decide) (iq (by rw [q]; decide) (iq (by rw [q]; decide) (iq (by rw [q]; decide) hb)))))), fun q => Reader_plain_117_t hg (ip q (iq (by rw [q]; decide) (iq (by rw [q]; decide) (iq (by rw [q]; decide) (iq (by rw [q]; decide) (iq (by rw [q]; decide) (iq (by rw [q]; decide) hb))))))), fun q => Reader_plain_137_t hg (ip q (iq (by rw [q]; decide) (iq (by rw [q]; decide) (iq (by rw [q]; decide) (iq (by rw [q]; decide) (iq (by rw [q]; decide) (iq (by rw [q]; decide) (iq (by rw [q]; decide) hb)))))))), fun q => Reader_plain_138_t hg (ip q (iq (by rw [q]; decide) (iq (by rw [q]; decide) (iq (by rw [q]; decide) (iq (by rw [q]; decide) (iq (by rw [q]; decide) (iq (by rw [q]; decide) (iq (by rw [q]; decide) (iq (by rw [q]; decide) hb))))))))), fun q => Reader_plain_154_t hg (ip q (iq (by rw [q]; decide) (iq (by rw [q]; decide) (iq (by rw [q]; decide) (iq (by rw [q]; decide) (iq (by rw [q]; decide) (iq (by rw [q]; decide) (iq (by rw [q]; decide) (iq (by rw [q]; decide) (iq (by rw [q]; decide) hb)))))))))), fun q => Reader_both_t hg (ip q (iq (by rw [q]; decide) (iq (by rw [q]; decide) (iq (by rw [q]; decide) (iq (by rw [q]; decide) (iq (by rw [q]; decide) (iq (by rw [q]; decide) (iq (by rw [q]; decide) (iq (by rw [q]; decide) (iq (by rw [q]; decide) (iq (by rw [q]; decide) hb))))))))))), fun q => Reader_both_8_t hg (ip q (iq (by rw [q]; decide) (iq (by rw [q]; decide) (iq (by rw [q]; decide) (iq (by rw [q]; decide) (iq (by rw [q]; decide) (iq (by rw [q]; decide) (iq (by rw [q]; decide) (iq (by rw [q]; decide) (iq (by rw [q]; decide) (iq (by rw [q]; decide) (iq (by rw [q]; decide) hb)))))))))))), fun q => Reader_test_t hg (ip q (iq (by rw [q]; decide) (iq (by rw [q]; decide) (iq (by rw [q]; decide) (iq (by rw [q]; decide) (iq (by rw [q]; decide) (iq (by rw [q]; decide) (iq (by rw [q]; decide) (iq (by rw [q]; decide) (iq (by rw [q]; decide) (iq (by rw [q]; decide) (iq (by rw [q]; decide) (iq (by rw [q]; decide) hb))))))))))))), fun q => Reader_test_8_t hg (ip q (iq (by rw [q]; decide) (iq (by rw [q]; decide) (iq (by rw [q]; decide) (iq (by rw [q]; decide) (iq (by rw [q]; decide) (iq (by rw [q]; decide) (iq (by rw [q]; decide) (iq (by rw [q]; decide) (iq (by rw [q]; decide) (iq (by rw [q]; decide) (iq (by rw [q]; decide) (iq (by rw [q]; decide) (iq (by rw [q]; decide) hb)))))))))))))), trivial⟩)
set_option maxHeartbeats 1000000 in
set_option maxRecDepth 100000 in
theorem Reader_plain_r {g : (Nat × Nat × Int32 × Int32 × Int32 × Nat × am_H) → Option (Int32 × am_H)} (hg : ∀ s r, g s = some r → Eqs s.2.2.2.2.2.2 r.2) {dd : Nat} {v0 : Nat} {v1 : Int32} {h : am_H} {r : (Int32 × am_H)} (hb : Reader_plain_b g dd v0 v1 h = some r) : Eqs h r.2 := by
  unfold Reader_plain_b at hb
  have w0 := Eqs.rf h
  obtain ⟨ho, hb⟩ := iz hb
  exact w0.tr (hg _ _ hb)
set_option maxHeartbeats 1000000 in
set_option maxRecDepth 100000 in
theorem Reader_plain_4_r {g : (Nat × Nat × Int32 × Int32 × Int32 × Nat × am_H) → Option (Int32 × am_H)} (hg : ∀ s r, g s = some r → Eqs s.2.2.2.2.2.2 r.2) {dd : Nat} {v0 : Nat} {v1 : Int32} {v2 : Int32} {v3 : Int32} {h : am_H} {r : (Int32 × am_H)} (hb : Reader_plain_4_b g dd v0 v1 v2 v3 h = some r) : Eqs h r.2 := by
  unfold Reader_plain_4_b at hb
  have w0 := Eqs.rf h
  by_cases q : (400 : Int32) ≤ v3
  · have hb1 := ip q hb
    exact w0.tr (hg _ _ hb1)
  · have hb2 := iq q hb
    obtain ⟨x3, e_x3, hb4⟩ := ob2 hb2
    obtain ⟨x5, e_x5, hb6⟩ := ob2 hb4
    by_cases q : x5 = (0 : Int32)
    · have hb7 := ip q hb6
      exact w0.tr (hg _ _ hb7)
    · have hb8 := iq q hb6
      by_cases q : v2 = (0 : Int32)
      · have hb10 := ip q hb8
        exact w0.tr (hg _ _ hb10)
      · have hb9 := iq q hb8
        exact w0.tr (hg _ _ hb9)
set_option maxHeartbeats 1000000 in
set_option maxRecDepth 100000 in
theorem Reader_plain_32_r {g : (Nat × Nat × Int32 × Int32 × Int32 × Nat × am_H) → Option (Int32 × am_H)} (hg : ∀ s r, g s = some r → Eqs s.2.2.2.2.2.2 r.2) {dd : Nat} {v0 : Nat} {v1 : Int32} {v3 : Int32} {s0 : Int32} {h : am_H} {r : (Int32 × am_H)} (hb : Reader_plain_32_b g dd v0 v1 v3 s0 h = some r) : Eqs h r.2 := by
  unfold Reader_plain_32_b at hb
  have w0 := Eqs.rf h
  obtain ⟨x11, e_x11, hb12⟩ := ob2 hb
  obtain ⟨h13, e_h13, hb14⟩ := ob2 hb12
  have w15 := w0.tr (Tape_go_q e_h13)
  exact w15.tr (hg _ _ hb14)
set_option maxHeartbeats 1000000 in
set_option maxRecDepth 100000 in
theorem Reader_plain_46_r {g : (Nat × Nat × Int32 × Int32 × Int32 × Nat × am_H) → Option (Int32 × am_H)} (hg : ∀ s r, g s = some r → Eqs s.2.2.2.2.2.2 r.2) {dd : Nat} {v0 : Nat} {v1 : Int32} {v2 : Int32} {h : am_H} {r : (Int32 × am_H)} (hb : Reader_plain_46_b g dd v0 v1 v2 h = some r) : Eqs h r.2 := by
  unfold Reader_plain_46_b at hb
  have w0 := Eqs.rf h
  obtain ⟨x16, e_x16, hb17⟩ := ob2 hb
  obtain ⟨x18, e_x18, hb19⟩ := ob2 hb17
  by_cases q : x18 = (0 : Int32)
  · have hb20 := ip q hb19
    obtain ⟨r22, e_r22, hb23⟩ := ob2 hb20
    have w24 := w0.tr (Reader_sum_q e_r22)
    by_cases q : r22.1 = (0 : Int32)
    · have hb25 := ip q hb23
      exact w24.tr (hg _ _ hb25)
    · have hb26 := iq q hb23
      obtain ⟨r27, e_r27, hb28⟩ := ob2 hb26
      have w29 := w24.tr (Reader_comparison_q e_r27)
      exact w29.tr (hg _ _ hb28)
  · have hb21 := iq q hb19
    by_cases q : (8 : Int32) ≤ v1
    · have hb30 := ip q hb21
      exact w0.tr (hg _ _ hb30)
    · have hb31 := iq q hb21
      obtain ⟨r32, e_r32, hb33⟩ := ob2 hb31
      have w34 := w0.tr (Reader_takeSign_q e_r32)
      by_cases q : r32.1 = (0 : Int32)
      · have hb35 := ip q hb33
        exact w34.tr (hg _ _ hb35)
      · have hb36 := iq q hb33
        obtain ⟨r37, e_r37, hb38⟩ := ob2 hb36
        obtain ⟨hdd_r37, e_r37⟩ := iz e_r37
        have w39 := w34.tr (hg _ _ e_r37)
        by_cases q : r37.1 = (0 : Int32)
        · have hb40 := ip q hb38
          exact w39.tr (hg _ _ hb40)
        · have hb41 := iq q hb38
          obtain ⟨r42, e_r42, hb43⟩ := ob2 hb41
          have w44 := w39.tr (Reader_takeSign_q e_r42)
          by_cases q : r42.1 = (0 : Int32)
          · have hb45 := ip q hb43
            exact w44.tr (hg _ _ hb45)
          · have hb46 := iq q hb43
            exact w44.tr (hg _ _ hb46)
set_option maxHeartbeats 1000000 in
set_option maxRecDepth 100000 in
theorem Reader_plain_96_r {g : (Nat × Nat × Int32 × Int32 × Int32 × Nat × am_H) → Option (Int32 × am_H)} (hg : ∀ s r, g s = some r → Eqs s.2.2.2.2.2.2 r.2) {dd : Nat} {v0 : Nat} {v2 : Int32} {h : am_H} {r : (Int32 × am_H)} (hb : Reader_plain_96_b g dd v0 v2 h = some r) : Eqs h r.2 := by
  unfold Reader_plain_96_b at hb
  have w0 := Eqs.rf h
  exact w0.tr (hg _ _ hb)
set_option maxHeartbeats 1000000 in
set_option maxRecDepth 100000 in
theorem Reader_plain_97_r {g : (Nat × Nat × Int32 × Int32 × Int32 × Nat × am_H) → Option (Int32 × am_H)} (hg : ∀ s r, g s = some r → Eqs s.2.2.2.2.2.2 r.2) {dd : Nat} {v0 : Nat} {v2 : Int32} {s0 : Int32} {h : am_H} {r : (Int32 × am_H)} (hb : Reader_plain_97_b g dd v0 v2 s0 h = some r) : Eqs h r.2 := by
  unfold Reader_plain_97_b at hb
  have w0 := Eqs.rf h
  exact w0.tr (hg _ _ hb)
set_option maxHeartbeats 1000000 in
set_option maxRecDepth 100000 in
theorem Reader_plain_117_r {g : (Nat × Nat × Int32 × Int32 × Int32 × Nat × am_H) → Option (Int32 × am_H)} (hg : ∀ s r, g s = some r → Eqs s.2.2.2.2.2.2 r.2) {dd : Nat} {v0 : Nat} {v1 : Int32} {v2 : Int32} {s0 : Int32} {h : am_H} {r : (Int32 × am_H)} (hb : Reader_plain_117_b g dd v0 v1 v2 s0 h = some r) : Eqs h r.2 := by
  unfold Reader_plain_117_b at hb
  have w0 := Eqs.rf h
  by_cases q : s0 = (-1 : Int32)
  · have hb47 := ip q hb
    exact w0.tr (hg _ _ hb47)
  · have hb48 := iq q hb
    obtain ⟨r49, e_r49, hb50⟩ := ob2 hb48
    have w51 := w0.tr (Reader_sum_q e_r49)
    by_cases q : r49.1 = (0 : Int32)
    · have hb52 := ip q hb50
      exact w51.tr (hg _ _ hb52)
    · have hb53 := iq q hb50
      exact w51.tr (hg _ _ hb53)
set_option maxHeartbeats 1000000 in
set_option maxRecDepth 100000 in
theorem Reader_plain_137_r {g : (Nat × Nat × Int32 × Int32 × Int32 × Nat × am_H) → Option (Int32 × am_H)} (hg : ∀ s r, g s = some r → Eqs s.2.2.2.2.2.2 r.2) {dd : Nat} {v0 : Nat} {v2 : Int32} {v4 : Int32} {h : am_H} {r : (Int32 × am_H)} (hb : Reader_plain_137_b g dd v0 v2 v4 h = some r) : Eqs h r.2 := by
  unfold Reader_plain_137_b at hb
  have w0 := Eqs.rf h
  exact w0.tr (hg _ _ hb)
set_option maxHeartbeats 1000000 in
set_option maxRecDepth 100000 in
theorem Reader_plain_138_r {g : (Nat × Nat × Int32 × Int32 × Int32 × Nat × am_H) → Option (Int32 × am_H)} (hg : ∀ s r, g s = some r → Eqs s.2.2.2.2.2.2 r.2) {dd : Nat} {v0 : Nat} {v2 : Int32} {v4 : Int32} {s0 : Int32} {h : am_H} {r : (Int32 × am_H)} (hb : Reader_plain_138_b g dd v0 v2 v4 s0 h = some r) : Eqs h r.2 := by
  unfold Reader_plain_138_b at hb
  have w0 := Eqs.rf h
  obtain ⟨x54, e_x54, hb55⟩ := ob2 hb
  obtain ⟨r56, e_r56, hb57⟩ := ob2 hb55
  have w58 := w0.tr (Text_add_q e_r56)
  exact w58.tr (hg _ _ hb57)
set_option maxHeartbeats 1000000 in
set_option maxRecDepth 100000 in
theorem Reader_plain_154_r {g : (Nat × Nat × Int32 × Int32 × Int32 × Nat × am_H) → Option (Int32 × am_H)} (hg : ∀ s r, g s = some r → Eqs s.2.2.2.2.2.2 r.2) {dd : Nat} {v0 : Nat} {v2 : Int32} {v3 : Int32} {h : am_H} {r : (Int32 × am_H)} (hb : Reader_plain_154_b g dd v0 v2 v3 h = some r) : Eqs h r.2 := by
  unfold Reader_plain_154_b at hb
  have w0 := Eqs.rf h
  by_cases q : v2 = (0 : Int32)
  · have hb59 := ip q hb
    obtain ⟨u61, e_u61, hb62⟩ := ob2 hb59
    obtain rfl := Option.some.inj hb62
    exact w0
  · have hb60 := iq q hb
    obtain ⟨x63, e_x63, hb64⟩ := ob2 hb60
    obtain ⟨r65, e_r65, hb66⟩ := ob2 hb64
    have w67 := w0.tr (Text_add_q e_r65)
    obtain ⟨u68, e_u68, hb69⟩ := ob2 hb66
    obtain rfl := Option.some.inj hb69
    exact w67
set_option maxHeartbeats 1000000 in
set_option maxRecDepth 100000 in
theorem Reader_both_r {g : (Nat × Nat × Int32 × Int32 × Int32 × Nat × am_H) → Option (Int32 × am_H)} (hg : ∀ s r, g s = some r → Eqs s.2.2.2.2.2.2 r.2) {dd : Nat} {v0 : Nat} {v1 : Int32} {h : am_H} {r : (Int32 × am_H)} (hb : Reader_both_b g dd v0 v1 h = some r) : Eqs h r.2 := by
  unfold Reader_both_b at hb
  have w0 := Eqs.rf h
  obtain ⟨ho, hb⟩ := iz hb
  obtain ⟨r70, e_r70, hb71⟩ := ob2 hb
  obtain ⟨hdd_r70, e_r70⟩ := iz e_r70
  have w72 := w0.tr (hg _ _ e_r70)
  exact w72.tr (hg _ _ hb71)
set_option maxHeartbeats 1000000 in
set_option maxRecDepth 100000 in
theorem Reader_both_8_r {g : (Nat × Nat × Int32 × Int32 × Int32 × Nat × am_H) → Option (Int32 × am_H)} (hg : ∀ s r, g s = some r → Eqs s.2.2.2.2.2.2 r.2) {dd : Nat} {v0 : Nat} {v1 : Int32} {v2 : Int32} {v3 : Int32} {h : am_H} {r : (Int32 × am_H)} (hb : Reader_both_8_b g dd v0 v1 v2 v3 h = some r) : Eqs h r.2 := by
  unfold Reader_both_8_b at hb
  have w0 := Eqs.rf h
  by_cases q : (400 : Int32) ≤ v3
  · have hb73 := ip q hb
    obtain ⟨u75, e_u75, hb76⟩ := ob2 hb73
    obtain rfl := Option.some.inj hb76
    exact w0
  · have hb74 := iq q hb
    by_cases q : v2 = (0 : Int32)
    · have hb77 := ip q hb74
      obtain ⟨u79, e_u79, hb80⟩ := ob2 hb77
      obtain rfl := Option.some.inj hb80
      exact w0
    · have hb78 := iq q hb74
      obtain ⟨x81, e_x81, hb82⟩ := ob2 hb78
      obtain ⟨x83, e_x83, hb84⟩ := ob2 hb82
      by_cases q : x83 = (0 : Int32)
      · have hb85 := ip q hb84
        obtain ⟨u87, e_u87, hb88⟩ := ob2 hb85
        obtain rfl := Option.some.inj hb88
        exact w0
      · have hb86 := iq q hb84
        obtain ⟨x89, e_x89, hb90⟩ := ob2 hb86
        obtain ⟨h91, e_h91, hb92⟩ := ob2 hb90
        have w93 := w0.tr (Tape_go_q e_h91)
        obtain ⟨x94, e_x94, hb95⟩ := ob2 hb92
        obtain ⟨r96, e_r96, hb97⟩ := ob2 hb95
        have w98 := w93.tr (Text_add_q e_r96)
        obtain ⟨r99, e_r99, hb100⟩ := ob2 hb97
        obtain ⟨hdd_r99, e_r99⟩ := iz e_r99
        have w101 := w98.tr (hg _ _ e_r99)
        obtain ⟨x102, e_x102, hb103⟩ := ob2 hb100
        obtain ⟨h104, e_h104, hb105⟩ := ob2 hb103
        have w106 := w101.tr (Text_land_q e_h104)
        exact w106.tr (hg _ _ hb105)
set_option maxHeartbeats 1000000 in
set_option maxRecDepth 100000 in
theorem Reader_test_r {g : (Nat × Nat × Int32 × Int32 × Int32 × Nat × am_H) → Option (Int32 × am_H)} (hg : ∀ s r, g s = some r → Eqs s.2.2.2.2.2.2 r.2) {dd : Nat} {v0 : Nat} {v1 : Int32} {h : am_H} {r : (Int32 × am_H)} (hb : Reader_test_b g dd v0 v1 h = some r) : Eqs h r.2 := by
  unfold Reader_test_b at hb
  have w0 := Eqs.rf h
  obtain ⟨ho, hb⟩ := iz hb
  obtain ⟨r107, e_r107, hb108⟩ := ob2 hb
  obtain ⟨hdd_r107, e_r107⟩ := iz e_r107
  have w109 := w0.tr (hg _ _ e_r107)
  exact w109.tr (hg _ _ hb108)
set_option maxHeartbeats 1000000 in
set_option maxRecDepth 100000 in
theorem Reader_test_8_r {g : (Nat × Nat × Int32 × Int32 × Int32 × Nat × am_H) → Option (Int32 × am_H)} (hg : ∀ s r, g s = some r → Eqs s.2.2.2.2.2.2 r.2) {dd : Nat} {v0 : Nat} {v1 : Int32} {v2 : Int32} {v3 : Int32} {h : am_H} {r : (Int32 × am_H)} (hb : Reader_test_8_b g dd v0 v1 v2 v3 h = some r) : Eqs h r.2 := by
  unfold Reader_test_8_b at hb
  have w0 := Eqs.rf h
  by_cases q : (400 : Int32) ≤ v3
  · have hb110 := ip q hb
    obtain ⟨u112, e_u112, hb113⟩ := ob2 hb110
    obtain rfl := Option.some.inj hb113
    exact w0
  · have hb111 := iq q hb
    by_cases q : v2 = (0 : Int32)
    · have hb114 := ip q hb111
      obtain ⟨u116, e_u116, hb117⟩ := ob2 hb114
      obtain rfl := Option.some.inj hb117
      exact w0
    · have hb115 := iq q hb111
      obtain ⟨x118, e_x118, hb119⟩ := ob2 hb115
      obtain ⟨x120, e_x120, hb121⟩ := ob2 hb119
      by_cases q : x120 = (0 : Int32)
      · have hb122 := ip q hb121
        obtain ⟨u124, e_u124, hb125⟩ := ob2 hb122
        obtain rfl := Option.some.inj hb125
        exact w0
      · have hb123 := iq q hb121
        obtain ⟨x126, e_x126, hb127⟩ := ob2 hb123
        obtain ⟨h128, e_h128, hb129⟩ := ob2 hb127
        have w130 := w0.tr (Tape_go_q e_h128)
        obtain ⟨x131, e_x131, hb132⟩ := ob2 hb129
        obtain ⟨r133, e_r133, hb134⟩ := ob2 hb132
        have w135 := w130.tr (Text_add_q e_r133)
        obtain ⟨r136, e_r136, hb137⟩ := ob2 hb134
        obtain ⟨hdd_r136, e_r136⟩ := iz e_r136
        have w138 := w135.tr (hg _ _ e_r136)
        obtain ⟨x139, e_x139, hb140⟩ := ob2 hb137
        obtain ⟨h141, e_h141, hb142⟩ := ob2 hb140
        have w143 := w138.tr (Text_land_q e_h141)
        exact w143.tr (hg _ _ hb142)
theorem Reader_plainG_Q : ∀ s r, fx Reader_plainG_F Reader_plainG_M s = some r → Eqs s.2.2.2.2.2.2 r.2 := fx_ind Reader_plainG_M (fun s r => Eqs s.2.2.2.2.2.2 r.2) (fun g hg s r hb => by
  unfold Reader_plainG_F at hb
  by_cases q0 : s.1 = 0
  · exact Reader_plain_r hg (ip q0 hb)
  · have hb0 := iq q0 hb
    by_cases q1 : s.1 = 4
    · exact Reader_plain_4_r hg (ip q1 hb0)
    · have hb1 := iq q1 hb0
      by_cases q2 : s.1 = 32
      · exact Reader_plain_32_r hg (ip q2 hb1)
      · have hb2 := iq q2 hb1
        by_cases q3 : s.1 = 46
        · exact Reader_plain_46_r hg (ip q3 hb2)
        · have hb3 := iq q3 hb2
          by_cases q4 : s.1 = 96
          · exact Reader_plain_96_r hg (ip q4 hb3)
          · have hb4 := iq q4 hb3
            by_cases q5 : s.1 = 97
            · exact Reader_plain_97_r hg (ip q5 hb4)
            · have hb5 := iq q5 hb4
              by_cases q6 : s.1 = 117
              · exact Reader_plain_117_r hg (ip q6 hb5)
              · have hb6 := iq q6 hb5
                by_cases q7 : s.1 = 137
                · exact Reader_plain_137_r hg (ip q7 hb6)
                · have hb7 := iq q7 hb6
                  by_cases q8 : s.1 = 138
                  · exact Reader_plain_138_r hg (ip q8 hb7)
                  · have hb8 := iq q8 hb7
                    by_cases q9 : s.1 = 154
                    · exact Reader_plain_154_r hg (ip q9 hb8)
                    · have hb9 := iq q9 hb8
                      by_cases q10 : s.1 = 10000
                      · exact Reader_both_r hg (ip q10 hb9)
                      · have hb10 := iq q10 hb9
                        by_cases q11 : s.1 = 10008
                        · exact Reader_both_8_r hg (ip q11 hb10)
                        · have hb11 := iq q11 hb10
                          by_cases q12 : s.1 = 20000
                          · exact Reader_test_r hg (ip q12 hb11)
                          · have hb12 := iq q12 hb11
                            by_cases q13 : s.1 = 20008
                            · exact Reader_test_8_r hg (ip q13 hb12)
                            · have hb13 := iq q13 hb12
                              exact nomatch hb13)
noncomputable def Reader_plain (dd : Nat) (v0 : Nat) (v1 : Int32) (h : am_H) : Option (Int32 × am_H) := fx Reader_plainG_F Reader_plainG_M (0, dd, v1, 0, 0, v0, h)
noncomputable def Reader_plain_4 (dd : Nat) (v0 : Nat) (v1 : Int32) (v2 : Int32) (v3 : Int32) (h : am_H) : Option (Int32 × am_H) := fx Reader_plainG_F Reader_plainG_M (4, dd, v1, v2, v3, v0, h)
noncomputable def Reader_plain_32 (dd : Nat) (v0 : Nat) (v1 : Int32) (v3 : Int32) (s0 : Int32) (h : am_H) : Option (Int32 × am_H) := fx Reader_plainG_F Reader_plainG_M (32, dd, v1, v3, s0, v0, h)
noncomputable def Reader_plain_46 (dd : Nat) (v0 : Nat) (v1 : Int32) (v2 : Int32) (h : am_H) : Option (Int32 × am_H) := fx Reader_plainG_F Reader_plainG_M (46, dd, v1, v2, 0, v0, h)
noncomputable def Reader_plain_96 (dd : Nat) (v0 : Nat) (v2 : Int32) (h : am_H) : Option (Int32 × am_H) := fx Reader_plainG_F Reader_plainG_M (96, dd, v2, 0, 0, v0, h)
noncomputable def Reader_plain_97 (dd : Nat) (v0 : Nat) (v2 : Int32) (s0 : Int32) (h : am_H) : Option (Int32 × am_H) := fx Reader_plainG_F Reader_plainG_M (97, dd, v2, s0, 0, v0, h)
noncomputable def Reader_plain_117 (dd : Nat) (v0 : Nat) (v1 : Int32) (v2 : Int32) (s0 : Int32) (h : am_H) : Option (Int32 × am_H) := fx Reader_plainG_F Reader_plainG_M (117, dd, v1, v2, s0, v0, h)
noncomputable def Reader_plain_137 (dd : Nat) (v0 : Nat) (v2 : Int32) (v4 : Int32) (h : am_H) : Option (Int32 × am_H) := fx Reader_plainG_F Reader_plainG_M (137, dd, v2, v4, 0, v0, h)
noncomputable def Reader_plain_138 (dd : Nat) (v0 : Nat) (v2 : Int32) (v4 : Int32) (s0 : Int32) (h : am_H) : Option (Int32 × am_H) := fx Reader_plainG_F Reader_plainG_M (138, dd, v2, v4, s0, v0, h)
noncomputable def Reader_plain_154 (dd : Nat) (v0 : Nat) (v2 : Int32) (v3 : Int32) (h : am_H) : Option (Int32 × am_H) := fx Reader_plainG_F Reader_plainG_M (154, dd, v2, v3, 0, v0, h)
noncomputable def Reader_both (dd : Nat) (v0 : Nat) (v1 : Int32) (h : am_H) : Option (Int32 × am_H) := fx Reader_plainG_F Reader_plainG_M (10000, dd, v1, 0, 0, v0, h)
noncomputable def Reader_both_8 (dd : Nat) (v0 : Nat) (v1 : Int32) (v2 : Int32) (v3 : Int32) (h : am_H) : Option (Int32 × am_H) := fx Reader_plainG_F Reader_plainG_M (10008, dd, v1, v2, v3, v0, h)
noncomputable def Reader_test (dd : Nat) (v0 : Nat) (v1 : Int32) (h : am_H) : Option (Int32 × am_H) := fx Reader_plainG_F Reader_plainG_M (20000, dd, v1, 0, 0, v0, h)
noncomputable def Reader_test_8 (dd : Nat) (v0 : Nat) (v1 : Int32) (v2 : Int32) (v3 : Int32) (h : am_H) : Option (Int32 × am_H) := fx Reader_plainG_F Reader_plainG_M (20008, dd, v1, v2, v3, v0, h)
set_option maxHeartbeats 1000000 in
set_option maxRecDepth 100000 in
theorem Reader_plain_e (dd : Nat) (v0 : Nat) (v1 : Int32) (h : am_H) : Reader_plain dd v0 v1 h = (if isO h 3 v0 = true then Reader_plain_4 dd v0 v1 (0 : Int32) (0 : Int32) h else none) := (fx_eq Reader_plainG_M (0, dd, v1, 0, 0, v0, h)).trans (if_pos rfl)
theorem Reader_plain_q {dd : Nat} {v0 : Nat} {v1 : Int32} {h : am_H} {r : (Int32 × am_H)} (hb : Reader_plain dd v0 v1 h = some r) : Eqs h r.2 := Reader_plainG_Q _ _ hb
theorem Reader_plain_s {dd : Nat} {v0 : Nat} {v1 : Int32} {h : am_H} {r : (Int32 × am_H)} (hb : Reader_plain dd v0 v1 h = some r) : Sx (47 + dd) mX3_plain 0 (am_en [.ref v0, .int v1] 5) [] h (some (.int r.1)) r.2 := ((Reader_plainG_T _ _ hb).1 rfl).2
theorem Reader_plain_o {dd : Nat} {v0 : Nat} {v1 : Int32} {h : am_H} {r : (Int32 × am_H)} (hb : Reader_plain dd v0 v1 h = some r) : isO h 3 v0 = true := ((Reader_plainG_T _ _ hb).1 rfl).1
set_option maxHeartbeats 1000000 in
set_option maxRecDepth 100000 in
theorem Reader_plain_4_e (dd : Nat) (v0 : Nat) (v1 : Int32) (v2 : Int32) (v3 : Int32) (h : am_H) : Reader_plain_4 dd v0 v1 v2 v3 h = (if (400 : Int32) ≤ v3 then Reader_plain_46 dd v0 v1 v2 h else (gR h 3 v0 1).bind fun x3 => (Tape_isWord x3 7 h).bind fun x5 => if x5 = (0 : Int32) then Reader_plain_46 dd v0 v1 v2 h else if v2 = (0 : Int32) then Reader_plain_32 dd v0 v1 v3 (1 : Int32) h else Reader_plain_32 dd v0 v1 v3 (0 : Int32) h) := (fx_eq Reader_plainG_M (4, dd, v1, v2, v3, v0, h)).trans ((if_neg (show ¬ (4 : Nat) = 0 by decide)).trans (if_pos rfl))
theorem Reader_plain_4_q {dd : Nat} {v0 : Nat} {v1 : Int32} {v2 : Int32} {v3 : Int32} {h : am_H} {r : (Int32 × am_H)} (hb : Reader_plain_4 dd v0 v1 v2 v3 h = some r) : Eqs h r.2 := Reader_plainG_Q _ _ hb
theorem Reader_plain_4_s {dd : Nat} {v0 : Nat} {v1 : Int32} {v2 : Int32} {v3 : Int32} {h : am_H} {r : (Int32 × am_H)} (hb : Reader_plain_4 dd v0 v1 v2 v3 h = some r) : Sx (47 + dd) mX3_plain 4 [.ref v0, .int v1, .int v2, .int v3, .retAddr 0] [] h (some (.int r.1)) r.2 := (Reader_plainG_T _ _ hb).2.1 rfl
set_option maxHeartbeats 1000000 in
set_option maxRecDepth 100000 in
theorem Reader_plain_32_e (dd : Nat) (v0 : Nat) (v1 : Int32) (v3 : Int32) (s0 : Int32) (h : am_H) : Reader_plain_32 dd v0 v1 v3 s0 h = ((gR h 3 v0 1).bind fun x11 => (Tape_go x11 h).bind fun h13 => Reader_plain_4 dd v0 v1 s0 (v3 + (1 : Int32)) h13) := (fx_eq Reader_plainG_M (32, dd, v1, v3, s0, v0, h)).trans ((if_neg (show ¬ (32 : Nat) = 0 by decide)).trans ((if_neg (show ¬ (32 : Nat) = 4 by decide)).trans (if_pos rfl)))
theorem Reader_plain_32_q {dd : Nat} {v0 : Nat} {v1 : Int32} {v3 : Int32} {s0 : Int32} {h : am_H} {r : (Int32 × am_H)} (hb : Reader_plain_32 dd v0 v1 v3 s0 h = some r) : Eqs h r.2 := Reader_plainG_Q _ _ hb
theorem Reader_plain_32_s {dd : Nat} {v0 : Nat} {v1 : Int32} {v3 : Int32} {s0 : Int32} {h : am_H} {r : (Int32 × am_H)} (hb : Reader_plain_32 dd v0 v1 v3 s0 h = some r) : Sx (47 + dd) mX3_plain 32 [.ref v0, .int v1, .retAddr 0, .int v3, .retAddr 0] [.int s0] h (some (.int r.1)) r.2 := (Reader_plainG_T _ _ hb).2.2.1 rfl
set_option maxHeartbeats 1000000 in
set_option maxRecDepth 100000 in
theorem Reader_plain_46_e (dd : Nat) (v0 : Nat) (v1 : Int32) (v2 : Int32) (h : am_H) : Reader_plain_46 dd v0 v1 v2 h = ((gR h 3 v0 1).bind fun x16 => (Tape_isSign x16 (40 : Int32) h).bind fun x18 => if x18 = (0 : Int32) then (Reader_sum 40 v0 v1 h).bind fun r22 => if r22.1 = (0 : Int32) then Reader_plain_117 dd v0 v1 v2 (-1 : Int32) r22.2 else (Reader_comparison v0 r22.2).bind fun r27 => Reader_plain_117 dd v0 v1 v2 r27.1 r27.2 else if (8 : Int32) ≤ v1 then Reader_plain_96 dd v0 v2 h else (Reader_takeSign v0 (40 : Int32) h).bind fun r32 => if r32.1 = (0 : Int32) then Reader_plain_96 dd v0 v2 r32.2 else (if 0 < dd then Reader_test (dd - 1) v0 (v1 + (1 : Int32)) r32.2 else none).bind fun r37 => if r37.1 = (0 : Int32) then Reader_plain_96 dd v0 v2 r37.2 else (Reader_takeSign v0 (41 : Int32) r37.2).bind fun r42 => if r42.1 = (0 : Int32) then Reader_plain_96 dd v0 v2 r42.2 else Reader_plain_97 dd v0 v2 (1 : Int32) r42.2) := (fx_eq Reader_plainG_M (46, dd, v1, v2, 0, v0, h)).trans ((if_neg (show ¬ (46 : Nat) = 0 by decide)).trans ((if_neg (show ¬ (46 : Nat) = 4 by decide)).trans ((if_neg (show ¬ (46 : Nat) = 32 by decide)).trans (if_pos rfl))))
theorem Reader_plain_46_q {dd : Nat} {v0 : Nat} {v1 : Int32} {v2 : Int32} {h : am_H} {r : (Int32 × am_H)} (hb : Reader_plain_46 dd v0 v1 v2 h = some r) : Eqs h r.2 := Reader_plainG_Q _ _ hb
theorem Reader_plain_46_s {dd : Nat} {v0 : Nat} {v1 : Int32} {v2 : Int32} {h : am_H} {r : (Int32 × am_H)} (hb : Reader_plain_46 dd v0 v1 v2 h = some r) : Sx (47 + dd) mX3_plain 46 [.ref v0, .int v1, .int v2, .retAddr 0, .retAddr 0] [] h (some (.int r.1)) r.2 := (Reader_plainG_T _ _ hb).2.2.2.1 rfl
set_option maxHeartbeats 1000000 in
set_option maxRecDepth 100000 in
theorem Reader_plain_96_e (dd : Nat) (v0 : Nat) (v2 : Int32) (h : am_H) : Reader_plain_96 dd v0 v2 h = (Reader_plain_97 dd v0 v2 (0 : Int32) h) := (fx_eq Reader_plainG_M (96, dd, v2, 0, 0, v0, h)).trans ((if_neg (show ¬ (96 : Nat) = 0 by decide)).trans ((if_neg (show ¬ (96 : Nat) = 4 by decide)).trans ((if_neg (show ¬ (96 : Nat) = 32 by decide)).trans ((if_neg (show ¬ (96 : Nat) = 46 by decide)).trans (if_pos rfl)))))
theorem Reader_plain_96_q {dd : Nat} {v0 : Nat} {v2 : Int32} {h : am_H} {r : (Int32 × am_H)} (hb : Reader_plain_96 dd v0 v2 h = some r) : Eqs h r.2 := Reader_plainG_Q _ _ hb
theorem Reader_plain_96_s {dd : Nat} {v0 : Nat} {v2 : Int32} {h : am_H} {r : (Int32 × am_H)} (hb : Reader_plain_96 dd v0 v2 h = some r) : Sx (47 + dd) mX3_plain 96 [.ref v0, .retAddr 0, .int v2, .retAddr 0, .retAddr 0] [] h (some (.int r.1)) r.2 := (Reader_plainG_T _ _ hb).2.2.2.2.1 rfl
set_option maxHeartbeats 1000000 in
set_option maxRecDepth 100000 in
theorem Reader_plain_97_e (dd : Nat) (v0 : Nat) (v2 : Int32) (s0 : Int32) (h : am_H) : Reader_plain_97 dd v0 v2 s0 h = (Reader_plain_154 dd v0 v2 s0 h) := (fx_eq Reader_plainG_M (97, dd, v2, s0, 0, v0, h)).trans ((if_neg (show ¬ (97 : Nat) = 0 by decide)).trans ((if_neg (show ¬ (97 : Nat) = 4 by decide)).trans ((if_neg (show ¬ (97 : Nat) = 32 by decide)).trans ((if_neg (show ¬ (97 : Nat) = 46 by decide)).trans ((if_neg (show ¬ (97 : Nat) = 96 by decide)).trans (if_pos rfl))))))
theorem Reader_plain_97_q {dd : Nat} {v0 : Nat} {v2 : Int32} {s0 : Int32} {h : am_H} {r : (Int32 × am_H)} (hb : Reader_plain_97 dd v0 v2 s0 h = some r) : Eqs h r.2 := Reader_plainG_Q _ _ hb
theorem Reader_plain_97_s {dd : Nat} {v0 : Nat} {v2 : Int32} {s0 : Int32} {h : am_H} {r : (Int32 × am_H)} (hb : Reader_plain_97 dd v0 v2 s0 h = some r) : Sx (47 + dd) mX3_plain 97 [.ref v0, .retAddr 0, .int v2, .retAddr 0, .retAddr 0] [.int s0] h (some (.int r.1)) r.2 := (Reader_plainG_T _ _ hb).2.2.2.2.2.1 rfl
set_option maxHeartbeats 1000000 in
set_option maxRecDepth 100000 in
theorem Reader_plain_117_e (dd : Nat) (v0 : Nat) (v1 : Int32) (v2 : Int32) (s0 : Int32) (h : am_H) : Reader_plain_117 dd v0 v1 v2 s0 h = (if s0 = (-1 : Int32) then Reader_plain_137 dd v0 v2 s0 h else (Reader_sum 40 v0 v1 h).bind fun r49 => if r49.1 = (0 : Int32) then Reader_plain_137 dd v0 v2 s0 r49.2 else Reader_plain_138 dd v0 v2 s0 (1 : Int32) r49.2) := (fx_eq Reader_plainG_M (117, dd, v1, v2, s0, v0, h)).trans ((if_neg (show ¬ (117 : Nat) = 0 by decide)).trans ((if_neg (show ¬ (117 : Nat) = 4 by decide)).trans ((if_neg (show ¬ (117 : Nat) = 32 by decide)).trans ((if_neg (show ¬ (117 : Nat) = 46 by decide)).trans ((if_neg (show ¬ (117 : Nat) = 96 by decide)).trans ((if_neg (show ¬ (117 : Nat) = 97 by decide)).trans (if_pos rfl)))))))
theorem Reader_plain_117_q {dd : Nat} {v0 : Nat} {v1 : Int32} {v2 : Int32} {s0 : Int32} {h : am_H} {r : (Int32 × am_H)} (hb : Reader_plain_117 dd v0 v1 v2 s0 h = some r) : Eqs h r.2 := Reader_plainG_Q _ _ hb
theorem Reader_plain_117_s {dd : Nat} {v0 : Nat} {v1 : Int32} {v2 : Int32} {s0 : Int32} {h : am_H} {r : (Int32 × am_H)} (hb : Reader_plain_117 dd v0 v1 v2 s0 h = some r) : Sx (47 + dd) mX3_plain 117 [.ref v0, .int v1, .int v2, .retAddr 0, .retAddr 0] [.int s0] h (some (.int r.1)) r.2 := (Reader_plainG_T _ _ hb).2.2.2.2.2.2.1 rfl
set_option maxHeartbeats 1000000 in
set_option maxRecDepth 100000 in
theorem Reader_plain_137_e (dd : Nat) (v0 : Nat) (v2 : Int32) (v4 : Int32) (h : am_H) : Reader_plain_137 dd v0 v2 v4 h = (Reader_plain_138 dd v0 v2 v4 (0 : Int32) h) := (fx_eq Reader_plainG_M (137, dd, v2, v4, 0, v0, h)).trans ((if_neg (show ¬ (137 : Nat) = 0 by decide)).trans ((if_neg (show ¬ (137 : Nat) = 4 by decide)).trans ((if_neg (show ¬ (137 : Nat) = 32 by decide)).trans ((if_neg (show ¬ (137 : Nat) = 46 by decide)).trans ((if_neg (show ¬ (137 : Nat) = 96 by decide)).trans ((if_neg (show ¬ (137 : Nat) = 97 by decide)).trans ((if_neg (show ¬ (137 : Nat) = 117 by decide)).trans (if_pos rfl))))))))
theorem Reader_plain_137_q {dd : Nat} {v0 : Nat} {v2 : Int32} {v4 : Int32} {h : am_H} {r : (Int32 × am_H)} (hb : Reader_plain_137 dd v0 v2 v4 h = some r) : Eqs h r.2 := Reader_plainG_Q _ _ hb
theorem Reader_plain_137_s {dd : Nat} {v0 : Nat} {v2 : Int32} {v4 : Int32} {h : am_H} {r : (Int32 × am_H)} (hb : Reader_plain_137 dd v0 v2 v4 h = some r) : Sx (47 + dd) mX3_plain 137 [.ref v0, .retAddr 0, .int v2, .retAddr 0, .int v4] [] h (some (.int r.1)) r.2 := (Reader_plainG_T _ _ hb).2.2.2.2.2.2.2.1 rfl
set_option maxHeartbeats 1000000 in
set_option maxRecDepth 100000 in
theorem Reader_plain_138_e (dd : Nat) (v0 : Nat) (v2 : Int32) (v4 : Int32) (s0 : Int32) (h : am_H) : Reader_plain_138 dd v0 v2 v4 s0 h = ((gR h 3 v0 0).bind fun x54 => (Text_add x54 (if v4 < (0 : Int32) then (0 : Int32) else v4) (0 : Int32) h).bind fun r56 => Reader_plain_154 dd v0 v2 s0 r56.2) := (fx_eq Reader_plainG_M (138, dd, v2, v4, s0, v0, h)).trans ((if_neg (show ¬ (138 : Nat) = 0 by decide)).trans ((if_neg (show ¬ (138 : Nat) = 4 by decide)).trans ((if_neg (show ¬ (138 : Nat) = 32 by decide)).trans ((if_neg (show ¬ (138 : Nat) = 46 by decide)).trans ((if_neg (show ¬ (138 : Nat) = 96 by decide)).trans ((if_neg (show ¬ (138 : Nat) = 97 by decide)).trans ((if_neg (show ¬ (138 : Nat) = 117 by decide)).trans ((if_neg (show ¬ (138 : Nat) = 137 by decide)).trans (if_pos rfl)))))))))
theorem Reader_plain_138_q {dd : Nat} {v0 : Nat} {v2 : Int32} {v4 : Int32} {s0 : Int32} {h : am_H} {r : (Int32 × am_H)} (hb : Reader_plain_138 dd v0 v2 v4 s0 h = some r) : Eqs h r.2 := Reader_plainG_Q _ _ hb
theorem Reader_plain_138_s {dd : Nat} {v0 : Nat} {v2 : Int32} {v4 : Int32} {s0 : Int32} {h : am_H} {r : (Int32 × am_H)} (hb : Reader_plain_138 dd v0 v2 v4 s0 h = some r) : Sx (47 + dd) mX3_plain 138 [.ref v0, .retAddr 0, .int v2, .retAddr 0, .int v4] [.int s0] h (some (.int r.1)) r.2 := (Reader_plainG_T _ _ hb).2.2.2.2.2.2.2.2.1 rfl
set_option maxHeartbeats 1000000 in
set_option maxRecDepth 100000 in
theorem Reader_plain_154_e (dd : Nat) (v0 : Nat) (v2 : Int32) (v3 : Int32) (h : am_H) : Reader_plain_154 dd v0 v2 v3 h = (if v2 = (0 : Int32) then (nrZ v3).bind fun u61 => some (v3, h) else (gR h 3 v0 0).bind fun x63 => (Text_add x63 (11 : Int32) (0 : Int32) h).bind fun r65 => (nrZ v3).bind fun u68 => some (v3, r65.2)) := (fx_eq Reader_plainG_M (154, dd, v2, v3, 0, v0, h)).trans ((if_neg (show ¬ (154 : Nat) = 0 by decide)).trans ((if_neg (show ¬ (154 : Nat) = 4 by decide)).trans ((if_neg (show ¬ (154 : Nat) = 32 by decide)).trans ((if_neg (show ¬ (154 : Nat) = 46 by decide)).trans ((if_neg (show ¬ (154 : Nat) = 96 by decide)).trans ((if_neg (show ¬ (154 : Nat) = 97 by decide)).trans ((if_neg (show ¬ (154 : Nat) = 117 by decide)).trans ((if_neg (show ¬ (154 : Nat) = 137 by decide)).trans ((if_neg (show ¬ (154 : Nat) = 138 by decide)).trans (if_pos rfl))))))))))
theorem Reader_plain_154_q {dd : Nat} {v0 : Nat} {v2 : Int32} {v3 : Int32} {h : am_H} {r : (Int32 × am_H)} (hb : Reader_plain_154 dd v0 v2 v3 h = some r) : Eqs h r.2 := Reader_plainG_Q _ _ hb
theorem Reader_plain_154_s {dd : Nat} {v0 : Nat} {v2 : Int32} {v3 : Int32} {h : am_H} {r : (Int32 × am_H)} (hb : Reader_plain_154 dd v0 v2 v3 h = some r) : Sx (47 + dd) mX3_plain 154 [.ref v0, .retAddr 0, .int v2, .int v3, .retAddr 0] [] h (some (.int r.1)) r.2 := (Reader_plainG_T _ _ hb).2.2.2.2.2.2.2.2.2.1 rfl
set_option maxHeartbeats 1000000 in
set_option maxRecDepth 100000 in
theorem Reader_both_e (dd : Nat) (v0 : Nat) (v1 : Int32) (h : am_H) : Reader_both dd v0 v1 h = (if isO h 3 v0 = true then (if 0 < dd then Reader_plain (dd - 1) v0 v1 h else none).bind fun r70 => Reader_both_8 dd v0 v1 r70.1 (0 : Int32) r70.2 else none) := (fx_eq Reader_plainG_M (10000, dd, v1, 0, 0, v0, h)).trans ((if_neg (show ¬ (10000 : Nat) = 0 by decide)).trans ((if_neg (show ¬ (10000 : Nat) = 4 by decide)).trans ((if_neg (show ¬ (10000 : Nat) = 32 by decide)).trans ((if_neg (show ¬ (10000 : Nat) = 46 by decide)).trans ((if_neg (show ¬ (10000 : Nat) = 96 by decide)).trans ((if_neg (show ¬ (10000 : Nat) = 97 by decide)).trans ((if_neg (show ¬ (10000 : Nat) = 117 by decide)).trans ((if_neg (show ¬ (10000 : Nat) = 137 by decide)).trans ((if_neg (show ¬ (10000 : Nat) = 138 by decide)).trans ((if_neg (show ¬ (10000 : Nat) = 154 by decide)).trans (if_pos rfl)))))))))))
theorem Reader_both_q {dd : Nat} {v0 : Nat} {v1 : Int32} {h : am_H} {r : (Int32 × am_H)} (hb : Reader_both dd v0 v1 h = some r) : Eqs h r.2 := Reader_plainG_Q _ _ hb
theorem Reader_both_s {dd : Nat} {v0 : Nat} {v1 : Int32} {h : am_H} {r : (Int32 × am_H)} (hb : Reader_both dd v0 v1 h = some r) : Sx (47 + dd) mX3_both 0 (am_en [.ref v0, .int v1] 5) [] h (some (.int r.1)) r.2 := ((Reader_plainG_T _ _ hb).2.2.2.2.2.2.2.2.2.2.1 rfl).2
theorem Reader_both_o {dd : Nat} {v0 : Nat} {v1 : Int32} {h : am_H} {r : (Int32 × am_H)} (hb : Reader_both dd v0 v1 h = some r) : isO h 3 v0 = true := ((Reader_plainG_T _ _ hb).2.2.2.2.2.2.2.2.2.2.1 rfl).1
set_option maxHeartbeats 1000000 in
set_option maxRecDepth 100000 in
theorem Reader_both_8_e (dd : Nat) (v0 : Nat) (v1 : Int32) (v2 : Int32) (v3 : Int32) (h : am_H) : Reader_both_8 dd v0 v1 v2 v3 h = (if (400 : Int32) ≤ v3 then (nrZ v2).bind fun u75 => some (v2, h) else if v2 = (0 : Int32) then (nrZ v2).bind fun u79 => some (v2, h) else (gR h 3 v0 1).bind fun x81 => (Tape_isWord x81 8 h).bind fun x83 => if x83 = (0 : Int32) then (nrZ v2).bind fun u87 => some (v2, h) else (gR h 3 v0 1).bind fun x89 => (Tape_go x89 h).bind fun h91 => (gR h91 3 v0 0).bind fun x94 => (Text_add x94 (13 : Int32) (0 : Int32) h91).bind fun r96 => (if 0 < dd then Reader_plain (dd - 1) v0 v1 r96.2 else none).bind fun r99 => (gR r99.2 3 v0 0).bind fun x102 => (Text_land x102 r96.1 r99.2).bind fun h104 => Reader_both_8 dd v0 v1 r99.1 (v3 + (1 : Int32)) h104) := (fx_eq Reader_plainG_M (10008, dd, v1, v2, v3, v0, h)).trans ((if_neg (show ¬ (10008 : Nat) = 0 by decide)).trans ((if_neg (show ¬ (10008 : Nat) = 4 by decide)).trans ((if_neg (show ¬ (10008 : Nat) = 32 by decide)).trans ((if_neg (show ¬ (10008 : Nat) = 46 by decide)).trans ((if_neg (show ¬ (10008 : Nat) = 96 by decide)).trans ((if_neg (show ¬ (10008 : Nat) = 97 by decide)).trans ((if_neg (show ¬ (10008 : Nat) = 117 by decide)).trans ((if_neg (show ¬ (10008 : Nat) = 137 by decide)).trans ((if_neg (show ¬ (10008 : Nat) = 138 by decide)).trans ((if_neg (show ¬ (10008 : Nat) = 154 by decide)).trans ((if_neg (show ¬ (10008 : Nat) = 10000 by decide)).trans (if_pos rfl))))))))))))
theorem Reader_both_8_q {dd : Nat} {v0 : Nat} {v1 : Int32} {v2 : Int32} {v3 : Int32} {h : am_H} {r : (Int32 × am_H)} (hb : Reader_both_8 dd v0 v1 v2 v3 h = some r) : Eqs h r.2 := Reader_plainG_Q _ _ hb
theorem Reader_both_8_s {dd : Nat} {v0 : Nat} {v1 : Int32} {v2 : Int32} {v3 : Int32} {h : am_H} {r : (Int32 × am_H)} (hb : Reader_both_8 dd v0 v1 v2 v3 h = some r) : Sx (47 + dd) mX3_both 8 [.ref v0, .int v1, .int v2, .int v3, .retAddr 0] [] h (some (.int r.1)) r.2 := (Reader_plainG_T _ _ hb).2.2.2.2.2.2.2.2.2.2.2.1 rfl
set_option maxHeartbeats 1000000 in
set_option maxRecDepth 100000 in
theorem Reader_test_e (dd : Nat) (v0 : Nat) (v1 : Int32) (h : am_H) : Reader_test dd v0 v1 h = (if isO h 3 v0 = true then (if 0 < dd then Reader_both (dd - 1) v0 v1 h else none).bind fun r107 => Reader_test_8 dd v0 v1 r107.1 (0 : Int32) r107.2 else none) := (fx_eq Reader_plainG_M (20000, dd, v1, 0, 0, v0, h)).trans ((if_neg (show ¬ (20000 : Nat) = 0 by decide)).trans ((if_neg (show ¬ (20000 : Nat) = 4 by decide)).trans ((if_neg (show ¬ (20000 : Nat) = 32 by decide)).trans ((if_neg (show ¬ (20000 : Nat) = 46 by decide)).trans ((if_neg (show ¬ (20000 : Nat) = 96 by decide)).trans ((if_neg (show ¬ (20000 : Nat) = 97 by decide)).trans ((if_neg (show ¬ (20000 : Nat) = 117 by decide)).trans ((if_neg (show ¬ (20000 : Nat) = 137 by decide)).trans ((if_neg (show ¬ (20000 : Nat) = 138 by decide)).trans ((if_neg (show ¬ (20000 : Nat) = 154 by decide)).trans ((if_neg (show ¬ (20000 : Nat) = 10000 by decide)).trans ((if_neg (show ¬ (20000 : Nat) = 10008 by decide)).trans (if_pos rfl)))))))))))))
theorem Reader_test_q {dd : Nat} {v0 : Nat} {v1 : Int32} {h : am_H} {r : (Int32 × am_H)} (hb : Reader_test dd v0 v1 h = some r) : Eqs h r.2 := Reader_plainG_Q _ _ hb
theorem Reader_test_s {dd : Nat} {v0 : Nat} {v1 : Int32} {h : am_H} {r : (Int32 × am_H)} (hb : Reader_test dd v0 v1 h = some r) : Sx (47 + dd) mX3_test 0 (am_en [.ref v0, .int v1] 5) [] h (some (.int r.1)) r.2 := ((Reader_plainG_T _ _ hb).2.2.2.2.2.2.2.2.2.2.2.2.1 rfl).2
theorem Reader_test_o {dd : Nat} {v0 : Nat} {v1 : Int32} {h : am_H} {r : (Int32 × am_H)} (hb : Reader_test dd v0 v1 h = some r) : isO h 3 v0 = true := ((Reader_plainG_T _ _ hb).2.2.2.2.2.2.2.2.2.2.2.2.1 rfl).1
set_option maxHeartbeats 1000000 in
set_option maxRecDepth 100000 in
theorem Reader_test_8_e (dd : Nat) (v0 : Nat) (v1 : Int32) (v2 : Int32) (v3 : Int32) (h : am_H) : Reader_test_8 dd v0 v1 v2 v3 h = (if (400 : Int32) ≤ v3 then (nrZ v2).bind fun u112 => some (v2, h) else if v2 = (0 : Int32) then (nrZ v2).bind fun u116 => some (v2, h) else (gR h 3 v0 1).bind fun x118 => (Tape_isWord x118 9 h).bind fun x120 => if x120 = (0 : Int32) then (nrZ v2).bind fun u124 => some (v2, h) else (gR h 3 v0 1).bind fun x126 => (Tape_go x126 h).bind fun h128 => (gR h128 3 v0 0).bind fun x131 => (Text_add x131 (12 : Int32) (0 : Int32) h128).bind fun r133 => (if 0 < dd then Reader_both (dd - 1) v0 v1 r133.2 else none).bind fun r136 => (gR r136.2 3 v0 0).bind fun x139 => (Text_land x139 r133.1 r136.2).bind fun h141 => Reader_test_8 dd v0 v1 r136.1 (v3 + (1 : Int32)) h141) := (fx_eq Reader_plainG_M (20008, dd, v1, v2, v3, v0, h)).trans ((if_neg (show ¬ (20008 : Nat) = 0 by decide)).trans ((if_neg (show ¬ (20008 : Nat) = 4 by decide)).trans ((if_neg (show ¬ (20008 : Nat) = 32 by decide)).trans ((if_neg (show ¬ (20008 : Nat) = 46 by decide)).trans ((if_neg (show ¬ (20008 : Nat) = 96 by decide)).trans ((if_neg (show ¬ (20008 : Nat) = 97 by decide)).trans ((if_neg (show ¬ (20008 : Nat) = 117 by decide)).trans ((if_neg (show ¬ (20008 : Nat) = 137 by decide)).trans ((if_neg (show ¬ (20008 : Nat) = 138 by decide)).trans ((if_neg (show ¬ (20008 : Nat) = 154 by decide)).trans ((if_neg (show ¬ (20008 : Nat) = 10000 by decide)).trans ((if_neg (show ¬ (20008 : Nat) = 10008 by decide)).trans ((if_neg (show ¬ (20008 : Nat) = 20000 by decide)).trans (if_pos rfl))))))))))))))
theorem Reader_test_8_q {dd : Nat} {v0 : Nat} {v1 : Int32} {v2 : Int32} {v3 : Int32} {h : am_H} {r : (Int32 × am_H)} (hb : Reader_test_8 dd v0 v1 v2 v3 h = some r) : Eqs h r.2 := Reader_plainG_Q _ _ hb
theorem Reader_test_8_s {dd : Nat} {v0 : Nat} {v1 : Int32} {v2 : Int32} {v3 : Int32} {h : am_H} {r : (Int32 × am_H)} (hb : Reader_test_8 dd v0 v1 v2 v3 h = some r) : Sx (47 + dd) mX3_test 8 [.ref v0, .int v1, .int v2, .int v3, .retAddr 0] [] h (some (.int r.1)) r.2 := (Reader_plainG_T _ _ hb).2.2.2.2.2.2.2.2.2.2.2.2.2.1 rfl
set_option maxHeartbeats 1000000 in
set_option maxRecDepth 100000 in
noncomputable def Reader_readIf (v0 : Nat) (h : am_H) : Option (Int32 × am_H) := if isO h 3 v0 = true then (Reader_take v0 6 h).bind fun r1 => if r1.1 = (0 : Int32) then some ((1 : Int32), r1.2) else (gR r1.2 3 v0 0).bind fun x6 => (Text_setTest x6 r1.2).bind fun h8 => (Reader_test 40 v0 (0 : Int32) h8).bind fun r11 => (gR r11.2 3 v0 0).bind fun x14 => (Text_add x14 (0 : Int32) (0 : Int32) r11.2).bind fun r16 => (nrZ r11.1).bind fun u19 => some (r11.1, r16.2) else none
set_option maxHeartbeats 1000000 in
set_option maxRecDepth 100000 in
theorem Reader_readIf_s {v0 : Nat} {h : am_H} {r : (Int32 × am_H)} (hb : Reader_readIf v0 h = some r) : Sx 88 mX3_readIf 0 (am_en [.ref v0] 2) [] h (some (.int r.1)) r.2 := by
  unfold Reader_readIf at hb
  have hb := (iz hb).2
  show Sx 88 mX3_readIf 0 [.ref v0, .retAddr 0] [] h (some (.int r.1)) r.2
  refine Sx.o (fun _ _ _ k => ex_aload_n dX3_readIf_0 rfl rfl k) ?_
  refine Sx.o (fun _ _ _ k => ex_ldcS (tx := "if") (i := 6) (by decide) (List.mem_of_getElem? (i := 6) rfl) dX3_readIf_1 k) ?_
  obtain ⟨r1, e_r1, hb2⟩ := ob2 hb
  refine sx_callV (dc := 6) (as := [am_s 6]) (stq := [.int r1.1]) (by omega) dX3_readIf_3 MX3_take kX3_79 iX3_take sX3_take rfl rfl (Reader_take_o e_r1) rfl rfl (Nat.le_of_ble_eq_true rfl) (Nat.le_of_ble_eq_true rfl) (Reader_take_s e_r1) rfl ?_
  refine Sx.bn (fun _ _ _ k1 k2 => ex_if_ne 11 dX3_readIf_6 (by decide) k1 k2) (fun q => ?_) (fun q => ?_)
  · have hb4 := iq q hb2
    refine Sx.o (fun _ _ _ k => ex_aload_n dX3_readIf_11 rfl rfl k) ?_
    obtain ⟨x6, e_x6, hb7⟩ := ob2 hb4
    refine Sx.o (fun _ _ _ k => op_getR fX3_12 dX3_readIf_12 e_x6 k) ?_
    obtain ⟨h8, e_h8, hb9⟩ := ob2 hb7
    refine sx_callV (dc := 0) (as := []) (stq := []) (by omega) dX3_readIf_15 MX9_setTest kX3_105 iX9_setTest sX9_setTest rfl rfl (Text_setTest_o e_h8) rfl rfl (Nat.le_of_ble_eq_true rfl) (Nat.le_of_ble_eq_true rfl) (Text_setTest_s e_h8) rfl ?_
    refine Sx.o (fun _ _ _ k => ex_aload_n dX3_readIf_18 rfl rfl k) ?_
    refine Sx.o (fun _ _ _ k => op_iconst (0 : Int32) dX3_readIf_19 (by decide) k) ?_
    obtain ⟨r11, e_r11, hb12⟩ := ob2 hb9
    refine sx_callV (dc := (47 + 40)) (as := [.int (0 : Int32)]) (stq := [.int r11.1]) (by omega) dX3_readIf_20 MX3_test kX3_108 iX3_test sX3_test rfl rfl (Reader_test_o e_r11) rfl rfl (Nat.le_of_ble_eq_true rfl) (Nat.le_of_ble_eq_true rfl) (Reader_test_s e_r11) rfl ?_
    refine Sx.o (L' := [.ref v0, .int r11.1]) (fun _ _ _ k => ex_istore_n dX3_readIf_23 (by decide) k) ?_
    refine Sx.o (fun _ _ _ k => ex_aload_n dX3_readIf_24 rfl rfl k) ?_
    obtain ⟨x14, e_x14, hb15⟩ := ob2 hb12
    refine Sx.o (fun _ _ _ k => op_getR fX3_12 dX3_readIf_25 e_x14 k) ?_
    refine Sx.o (fun _ _ _ k => op_iconst (0 : Int32) dX3_readIf_28 (by decide) k) ?_
    refine Sx.o (fun _ _ _ k => op_iconst (0 : Int32) dX3_readIf_29 (by decide) k) ?_
    obtain ⟨r16, e_r16, hb17⟩ := ob2 hb15
    refine sx_callV (dc := 0) (as := [.int (0 : Int32), .int (0 : Int32)]) (stq := [.int r16.1]) (by omega) dX3_readIf_30 MX9_add kX3_111 iX9_add sX9_add rfl rfl (Text_add_o e_r16) rfl rfl (Nat.le_of_ble_eq_true rfl) (Nat.le_of_ble_eq_true rfl) (Text_add_s e_r16) rfl ?_
    refine Sx.o (fun _ _ _ k => ex_pop dX3_readIf_33 rfl k) ?_
    refine Sx.o (fun _ _ _ k => ex_iload_n dX3_readIf_34 rfl k) ?_
    obtain ⟨u19, e_u19, hb20⟩ := ob2 hb17
    obtain rfl := Option.some.inj hb20
    exact Sx.r (fun _ _ _ k => ex_zret rfl (nrZ_n e_u19) dX3_readIf_35 k)
  · have hb5 := ip q hb2
    refine Sx.o (fun _ _ _ k => op_iconst (1 : Int32) dX3_readIf_9 (by decide) k) ?_
    obtain rfl := Option.some.inj hb5
    exact Sx.r (fun _ _ _ k => ex_zret rfl rfl dX3_readIf_10 k)
set_option maxHeartbeats 1000000 in
set_option maxRecDepth 100000 in
theorem Reader_readIf_q {v0 : Nat} {h : am_H} {r : (Int32 × am_H)} (hb : Reader_readIf v0 h = some r) : Eqs h r.2 := by
  unfold Reader_readIf at hb
  have hb := (iz hb).2
  have w0 := Eqs.rf h
  obtain ⟨r1, e_r1, hb2⟩ := ob2 hb
  have w3 := w0.tr (Reader_take_q e_r1)
  by_cases q : r1.1 = (0 : Int32)
  · have hb5 := ip q hb2
    obtain rfl := Option.some.inj hb5
    exact w3
  · have hb4 := iq q hb2
    obtain ⟨x6, e_x6, hb7⟩ := ob2 hb4
    obtain ⟨h8, e_h8, hb9⟩ := ob2 hb7
    have w10 := w3.tr (Text_setTest_q e_h8)
    obtain ⟨r11, e_r11, hb12⟩ := ob2 hb9
    have w13 := w10.tr (Reader_test_q e_r11)
    obtain ⟨x14, e_x14, hb15⟩ := ob2 hb12
    obtain ⟨r16, e_r16, hb17⟩ := ob2 hb15
    have w18 := w13.tr (Text_add_q e_r16)
    obtain ⟨u19, e_u19, hb20⟩ := ob2 hb17
    obtain rfl := Option.some.inj hb20
    exact w18
theorem Reader_readIf_o {v0 : Nat} {h : am_H} {r : (Int32 × am_H)} (hb : Reader_readIf v0 h = some r) : isO h 3 v0 = true := by
  unfold Reader_readIf at hb
  exact (iz hb).1
set_option maxHeartbeats 1000000 in
set_option maxRecDepth 100000 in
noncomputable def Reader_readSum (v0 : Nat) (v1 : Int32) (h : am_H) : Option (Int32 × am_H) := if isO h 3 v0 = true then (gR h 3 v0 0).bind fun x1 => (Text_setSum x1 v1 h).bind fun h3 => (Reader_sum 40 v0 (0 : Int32) h3).bind fun r6 => (gR r6.2 3 v0 0).bind fun x9 => (Text_add x9 (0 : Int32) (0 : Int32) r6.2).bind fun r11 => (nrZ r6.1).bind fun u14 => some (r6.1, r11.2) else none
set_option maxHeartbeats 1000000 in
set_option maxRecDepth 100000 in
theorem Reader_readSum_s {v0 : Nat} {v1 : Int32} {h : am_H} {r : (Int32 × am_H)} (hb : Reader_readSum v0 v1 h = some r) : Sx 47 mX3_readSum 0 (am_en [.ref v0, .int v1] 3) [] h (some (.int r.1)) r.2 := by
  unfold Reader_readSum at hb
  have hb := (iz hb).2
  show Sx 47 mX3_readSum 0 [.ref v0, .int v1, .retAddr 0] [] h (some (.int r.1)) r.2
  refine Sx.o (fun _ _ _ k => ex_aload_n dX3_readSum_0 rfl rfl k) ?_
  obtain ⟨x1, e_x1, hb2⟩ := ob2 hb
  refine Sx.o (fun _ _ _ k => op_getR fX3_12 dX3_readSum_1 e_x1 k) ?_
  refine Sx.o (fun _ _ _ k => ex_iload_n dX3_readSum_4 rfl k) ?_
  obtain ⟨h3, e_h3, hb4⟩ := ob2 hb2
  refine sx_callV (dc := 0) (as := [.int v1]) (stq := []) (by omega) dX3_readSum_5 MX9_setSum kX3_115 iX9_setSum sX9_setSum rfl rfl (Text_setSum_o e_h3) rfl rfl (Nat.le_of_ble_eq_true rfl) (Nat.le_of_ble_eq_true rfl) (Text_setSum_s e_h3) rfl ?_
  refine Sx.o (fun _ _ _ k => ex_aload_n dX3_readSum_8 rfl rfl k) ?_
  refine Sx.o (fun _ _ _ k => op_iconst (0 : Int32) dX3_readSum_9 (by decide) k) ?_
  obtain ⟨r6, e_r6, hb7⟩ := ob2 hb4
  refine sx_callV (dc := (6 + 40)) (as := [.int (0 : Int32)]) (stq := [.int r6.1]) (by omega) dX3_readSum_10 MX3_sum kX3_118 iX3_sum sX3_sum rfl rfl (Reader_sum_o e_r6) rfl rfl (Nat.le_of_ble_eq_true rfl) (Nat.le_of_ble_eq_true rfl) (Reader_sum_s e_r6) rfl ?_
  refine Sx.o (L' := [.ref v0, .int v1, .int r6.1]) (fun _ _ _ k => ex_istore_n dX3_readSum_13 (by decide) k) ?_
  refine Sx.o (fun _ _ _ k => ex_aload_n dX3_readSum_14 rfl rfl k) ?_
  obtain ⟨x9, e_x9, hb10⟩ := ob2 hb7
  refine Sx.o (fun _ _ _ k => op_getR fX3_12 dX3_readSum_15 e_x9 k) ?_
  refine Sx.o (fun _ _ _ k => op_iconst (0 : Int32) dX3_readSum_18 (by decide) k) ?_
  refine Sx.o (fun _ _ _ k => op_iconst (0 : Int32) dX3_readSum_19 (by decide) k) ?_
  obtain ⟨r11, e_r11, hb12⟩ := ob2 hb10
  refine sx_callV (dc := 0) (as := [.int (0 : Int32), .int (0 : Int32)]) (stq := [.int r11.1]) (by omega) dX3_readSum_20 MX9_add kX3_111 iX9_add sX9_add rfl rfl (Text_add_o e_r11) rfl rfl (Nat.le_of_ble_eq_true rfl) (Nat.le_of_ble_eq_true rfl) (Text_add_s e_r11) rfl ?_
  refine Sx.o (fun _ _ _ k => ex_pop dX3_readSum_23 rfl k) ?_
  refine Sx.o (fun _ _ _ k => ex_iload_n dX3_readSum_24 rfl k) ?_
  obtain ⟨u14, e_u14, hb15⟩ := ob2 hb12
  obtain rfl := Option.some.inj hb15
  exact Sx.r (fun _ _ _ k => ex_zret rfl (nrZ_n e_u14) dX3_readSum_25 k)
set_option maxHeartbeats 1000000 in
set_option maxRecDepth 100000 in
theorem Reader_readSum_q {v0 : Nat} {v1 : Int32} {h : am_H} {r : (Int32 × am_H)} (hb : Reader_readSum v0 v1 h = some r) : Eqs h r.2 := by
  unfold Reader_readSum at hb
  have hb := (iz hb).2
  have w0 := Eqs.rf h
  obtain ⟨x1, e_x1, hb2⟩ := ob2 hb
  obtain ⟨h3, e_h3, hb4⟩ := ob2 hb2
  have w5 := w0.tr (Text_setSum_q e_h3)
  obtain ⟨r6, e_r6, hb7⟩ := ob2 hb4
  have w8 := w5.tr (Reader_sum_q e_r6)
  obtain ⟨x9, e_x9, hb10⟩ := ob2 hb7
  obtain ⟨r11, e_r11, hb12⟩ := ob2 hb10
  have w13 := w8.tr (Text_add_q e_r11)
  obtain ⟨u14, e_u14, hb15⟩ := ob2 hb12
  obtain rfl := Option.some.inj hb15
  exact w13
theorem Reader_readSum_o {v0 : Nat} {v1 : Int32} {h : am_H} {r : (Int32 × am_H)} (hb : Reader_readSum v0 v1 h = some r) : isO h 3 v0 = true := by
  unfold Reader_readSum at hb
  exact (iz hb).1
set_option maxHeartbeats 1000000 in
set_option maxRecDepth 100000 in
noncomputable def Reader_readTimes (v0 : Nat) (h : am_H) : Option (Int32 × am_H) := if isO h 3 v0 = true then (Reader_take v0 5 h).bind fun r1 => if r1.1 = (0 : Int32) then some ((1 : Int32), r1.2) else (gR r1.2 3 v0 1).bind fun x6 => (Tape_number x6 r1.2).bind fun x8 => if x8 < (1 : Int32) then some ((0 : Int32), r1.2) else if x8 ≤ (20 : Int32) then (gR r1.2 3 v0 0).bind fun x14 => (Text_setTimes x14 x8 r1.2).bind fun h16 => (gR h16 3 v0 1).bind fun x19 => (Tape_go x19 h16).bind fun h21 => some ((1 : Int32), h21) else some ((0 : Int32), r1.2) else none
set_option maxHeartbeats 1000000 in
set_option maxRecDepth 100000 in
theorem Reader_readTimes_s {v0 : Nat} {h : am_H} {r : (Int32 × am_H)} (hb : Reader_readTimes v0 h = some r) : Sx 7 mX3_readTimes 0 (am_en [.ref v0] 2) [] h (some (.int r.1)) r.2 := by
  unfold Reader_readTimes at hb
  have hb := (iz hb).2
  show Sx 7 mX3_readTimes 0 [.ref v0, .retAddr 0] [] h (some (.int r.1)) r.2
  refine Sx.o (fun _ _ _ k => ex_aload_n dX3_readTimes_0 rfl rfl k) ?_
  refine Sx.o (fun _ _ _ k => ex_ldcS (tx := "times") (i := 5) (by decide) (List.mem_of_getElem? (i := 5) rfl) dX3_readTimes_1 k) ?_
  obtain ⟨r1, e_r1, hb2⟩ := ob2 hb
  refine sx_callV (dc := 6) (as := [am_s 5]) (stq := [.int r1.1]) (by omega) dX3_readTimes_3 MX3_take kX3_79 iX3_take sX3_take rfl rfl (Reader_take_o e_r1) rfl rfl (Nat.le_of_ble_eq_true rfl) (Nat.le_of_ble_eq_true rfl) (Reader_take_s e_r1) rfl ?_
  refine Sx.bn (fun _ _ _ k1 k2 => ex_if_ne 11 dX3_readTimes_6 (by decide) k1 k2) (fun q => ?_) (fun q => ?_)
  · have hb4 := iq q hb2
    refine Sx.o (fun _ _ _ k => ex_aload_n dX3_readTimes_11 rfl rfl k) ?_
    obtain ⟨x6, e_x6, hb7⟩ := ob2 hb4
    refine Sx.o (fun _ _ _ k => op_getR fX3_18 dX3_readTimes_12 e_x6 k) ?_
    obtain ⟨x8, e_x8, hb9⟩ := ob2 hb7
    refine sx_callV (dc := 1) (as := []) (stq := [.int x8]) (by omega) dX3_readTimes_15 MX8_number kX3_96 iX8_number sX8_number rfl rfl (Tape_number_o e_x8) rfl rfl (Nat.le_of_ble_eq_true rfl) (Nat.le_of_ble_eq_true rfl) (Tape_number_s e_x8) rfl ?_
    refine Sx.o (L' := [.ref v0, .int x8]) (fun _ _ _ k => ex_istore_n dX3_readTimes_18 (by decide) k) ?_
    refine Sx.o (fun _ _ _ k => ex_iload_n dX3_readTimes_19 rfl k) ?_
    refine Sx.o (fun _ _ _ k => op_iconst (1 : Int32) dX3_readTimes_20 (by decide) k) ?_
    refine Sx.b (fun _ _ _ k1 k2 => ex_icmp_lt 30 dX3_readTimes_21 (by decide) k1 k2) (fun q => ?_) (fun q => ?_)
    · have hb10 := ip q hb9
      refine Sx.o (fun _ _ _ k => op_iconst (0 : Int32) dX3_readTimes_30 (by decide) k) ?_
      obtain rfl := Option.some.inj hb10
      exact Sx.r (fun _ _ _ k => ex_zret rfl rfl dX3_readTimes_31 k)
    · have hb11 := iq q hb9
      refine Sx.o (fun _ _ _ k => ex_iload_n dX3_readTimes_24 rfl k) ?_
      refine Sx.o (fun _ _ _ k => op_bipush (20 : Int32) dX3_readTimes_25 (by decide) k) ?_
      refine Sx.b (fun _ _ _ k1 k2 => ex_icmp_le 32 dX3_readTimes_27 (by decide) k1 k2) (fun q => ?_) (fun q => ?_)
      · have hb12 := ip q hb11
        refine Sx.o (fun _ _ _ k => ex_aload_n dX3_readTimes_32 rfl rfl k) ?_
        obtain ⟨x14, e_x14, hb15⟩ := ob2 hb12
        refine Sx.o (fun _ _ _ k => op_getR fX3_12 dX3_readTimes_33 e_x14 k) ?_
        refine Sx.o (fun _ _ _ k => ex_iload_n dX3_readTimes_36 rfl k) ?_
        obtain ⟨h16, e_h16, hb17⟩ := ob2 hb15
        refine sx_callV (dc := 0) (as := [.int x8]) (stq := []) (by omega) dX3_readTimes_37 MX9_setTimes kX3_100 iX9_setTimes sX9_setTimes rfl rfl (Text_setTimes_o e_h16) rfl rfl (Nat.le_of_ble_eq_true rfl) (Nat.le_of_ble_eq_true rfl) (Text_setTimes_s e_h16) rfl ?_
        refine Sx.o (fun _ _ _ k => ex_aload_n dX3_readTimes_40 rfl rfl k) ?_
        obtain ⟨x19, e_x19, hb20⟩ := ob2 hb17
        refine Sx.o (fun _ _ _ k => op_getR fX3_18 dX3_readTimes_41 e_x19 k) ?_
        obtain ⟨h21, e_h21, hb22⟩ := ob2 hb20
        refine sx_callV (dc := 0) (as := []) (stq := []) (by omega) dX3_readTimes_44 MX8_go kX3_65 iX8_go sX8_go rfl rfl (Tape_go_o e_h21) rfl rfl (Nat.le_of_ble_eq_true rfl) (Nat.le_of_ble_eq_true rfl) (Tape_go_s e_h21) rfl ?_
        refine Sx.o (fun _ _ _ k => op_iconst (1 : Int32) dX3_readTimes_47 (by decide) k) ?_
        obtain rfl := Option.some.inj hb22
        exact Sx.r (fun _ _ _ k => ex_zret rfl rfl dX3_readTimes_48 k)
      · have hb13 := iq q hb11
        refine Sx.o (fun _ _ _ k => op_iconst (0 : Int32) dX3_readTimes_30 (by decide) k) ?_
        obtain rfl := Option.some.inj hb13
        exact Sx.r (fun _ _ _ k => ex_zret rfl rfl dX3_readTimes_31 k)
  · have hb5 := ip q hb2
    refine Sx.o (fun _ _ _ k => op_iconst (1 : Int32) dX3_readTimes_9 (by decide) k) ?_
    obtain rfl := Option.some.inj hb5
    exact Sx.r (fun _ _ _ k => ex_zret rfl rfl dX3_readTimes_10 k)
set_option maxHeartbeats 1000000 in
set_option maxRecDepth 100000 in
theorem Reader_readTimes_q {v0 : Nat} {h : am_H} {r : (Int32 × am_H)} (hb : Reader_readTimes v0 h = some r) : Eqs h r.2 := by
  unfold Reader_readTimes at hb
  have hb := (iz hb).2
  have w0 := Eqs.rf h
  obtain ⟨r1, e_r1, hb2⟩ := ob2 hb
  have w3 := w0.tr (Reader_take_q e_r1)
  by_cases q : r1.1 = (0 : Int32)
  · have hb5 := ip q hb2
    obtain rfl := Option.some.inj hb5
    exact w3
  · have hb4 := iq q hb2
    obtain ⟨x6, e_x6, hb7⟩ := ob2 hb4
    obtain ⟨x8, e_x8, hb9⟩ := ob2 hb7
    by_cases q : x8 < (1 : Int32)
    · have hb10 := ip q hb9
      obtain rfl := Option.some.inj hb10
      exact w3
    · have hb11 := iq q hb9
      by_cases q : x8 ≤ (20 : Int32)
      · have hb12 := ip q hb11
        obtain ⟨x14, e_x14, hb15⟩ := ob2 hb12
        obtain ⟨h16, e_h16, hb17⟩ := ob2 hb15
        have w18 := w3.tr (Text_setTimes_q e_h16)
        obtain ⟨x19, e_x19, hb20⟩ := ob2 hb17
        obtain ⟨h21, e_h21, hb22⟩ := ob2 hb20
        have w23 := w18.tr (Tape_go_q e_h21)
        obtain rfl := Option.some.inj hb22
        exact w23
      · have hb13 := iq q hb11
        obtain rfl := Option.some.inj hb13
        exact w3
theorem Reader_readTimes_o {v0 : Nat} {h : am_H} {r : (Int32 × am_H)} (hb : Reader_readTimes v0 h = some r) : isO h 3 v0 = true := by
  unfold Reader_readTimes at hb
  exact (iz hb).1
set_option maxHeartbeats 1000000 in
set_option maxRecDepth 100000 in
noncomputable def Reader_readOrder_122 (v0 : Nat) (v2 : Int32) (h : am_H) : Option (Int32 × am_H) := if v2 = (0 : Int32) then some ((0 : Int32), h) else (Reader_readTimes v0 h).bind fun r3 => if r3.1 = (0 : Int32) then some ((0 : Int32), r3.2) else (Reader_readIf v0 r3.2).bind fun r8 => if r8.1 = (0 : Int32) then some ((0 : Int32), r8.2) else some ((1 : Int32), r8.2)
set_option maxHeartbeats 1000000 in
set_option maxRecDepth 100000 in
theorem Reader_readOrder_122_s {v0 : Nat} {v2 : Int32} {h : am_H} {r : (Int32 × am_H)} (hb : Reader_readOrder_122 v0 v2 h = some r) : Sx 89 mX3_readOrder 122 [.ref v0, .retAddr 0, .int v2] [] h (some (.int r.1)) r.2 := by
  unfold Reader_readOrder_122 at hb
  refine Sx.o (fun _ _ _ k => ex_iload_n dX3_readOrder_122 rfl k) ?_
  refine Sx.b (fun _ _ _ k1 k2 => ex_if_eq 144 dX3_readOrder_123 (by decide) k1 k2) (fun q => ?_) (fun q => ?_)
  · have hb1 := ip q hb
    refine Sx.o (fun _ _ _ k => op_iconst (0 : Int32) dX3_readOrder_144 (by decide) k) ?_
    obtain rfl := Option.some.inj hb1
    exact Sx.r (fun _ _ _ k => ex_zret rfl rfl dX3_readOrder_145 k)
  · have hb2 := iq q hb
    refine Sx.o (fun _ _ _ k => ex_aload_n dX3_readOrder_126 rfl rfl k) ?_
    obtain ⟨r3, e_r3, hb4⟩ := ob2 hb2
    refine sx_callV (dc := 7) (as := []) (stq := [.int r3.1]) (by omega) dX3_readOrder_127 MX3_readTimes kX3_85 iX3_readTimes sX3_readTimes rfl rfl (Reader_readTimes_o e_r3) rfl rfl (Nat.le_of_ble_eq_true rfl) (Nat.le_of_ble_eq_true rfl) (Reader_readTimes_s e_r3) rfl ?_
    refine Sx.b (fun _ _ _ k1 k2 => ex_if_eq 144 dX3_readOrder_130 (by decide) k1 k2) (fun q => ?_) (fun q => ?_)
    · have hb6 := ip q hb4
      refine Sx.o (fun _ _ _ k => op_iconst (0 : Int32) dX3_readOrder_144 (by decide) k) ?_
      obtain rfl := Option.some.inj hb6
      exact Sx.r (fun _ _ _ k => ex_zret rfl rfl dX3_readOrder_145 k)
    · have hb7 := iq q hb4
      refine Sx.o (fun _ _ _ k => ex_aload_n dX3_readOrder_133 rfl rfl k) ?_
      obtain ⟨r8, e_r8, hb9⟩ := ob2 hb7
      refine sx_callV (dc := 88) (as := []) (stq := [.int r8.1]) (by omega) dX3_readOrder_134 MX3_readIf kX3_72 iX3_readIf sX3_readIf rfl rfl (Reader_readIf_o e_r8) rfl rfl (Nat.le_of_ble_eq_true rfl) (Nat.le_of_ble_eq_true rfl) (Reader_readIf_s e_r8) rfl ?_
      refine Sx.b (fun _ _ _ k1 k2 => ex_if_eq 144 dX3_readOrder_137 (by decide) k1 k2) (fun q => ?_) (fun q => ?_)
      · have hb11 := ip q hb9
        refine Sx.o (fun _ _ _ k => op_iconst (0 : Int32) dX3_readOrder_144 (by decide) k) ?_
        obtain rfl := Option.some.inj hb11
        exact Sx.r (fun _ _ _ k => ex_zret rfl rfl dX3_readOrder_145 k)
      · have hb12 := iq q hb9
        refine Sx.o (fun _ _ _ k => op_iconst (1 : Int32) dX3_readOrder_140 (by decide) k) ?_
        refine Sx.o (fun _ _ _ k => ex_goto 145 dX3_readOrder_141 (by decide) k) ?_
        obtain rfl := Option.some.inj hb12
        exact Sx.r (fun _ _ _ k => ex_zret rfl rfl dX3_readOrder_145 k)
set_option maxHeartbeats 1000000 in
set_option maxRecDepth 100000 in
theorem Reader_readOrder_122_q {v0 : Nat} {v2 : Int32} {h : am_H} {r : (Int32 × am_H)} (hb : Reader_readOrder_122 v0 v2 h = some r) : Eqs h r.2 := by
  unfold Reader_readOrder_122 at hb
  have w0 := Eqs.rf h
  by_cases q : v2 = (0 : Int32)
  · have hb1 := ip q hb
    obtain rfl := Option.some.inj hb1
    exact w0
  · have hb2 := iq q hb
    obtain ⟨r3, e_r3, hb4⟩ := ob2 hb2
    have w5 := w0.tr (Reader_readTimes_q e_r3)
    by_cases q : r3.1 = (0 : Int32)
    · have hb6 := ip q hb4
      obtain rfl := Option.some.inj hb6
      exact w5
    · have hb7 := iq q hb4
      obtain ⟨r8, e_r8, hb9⟩ := ob2 hb7
      have w10 := w5.tr (Reader_readIf_q e_r8)
      by_cases q : r8.1 = (0 : Int32)
      · have hb11 := ip q hb9
        obtain rfl := Option.some.inj hb11
        exact w10
      · have hb12 := iq q hb9
        obtain rfl := Option.some.inj hb12
        exact w10
set_option maxHeartbeats 1000000 in
set_option maxRecDepth 100000 in
noncomputable def Reader_readOrder_121 (v0 : Nat) (s0 : Int32) (h : am_H) : Option (Int32 × am_H) := Reader_readOrder_122 v0 s0 h
set_option maxHeartbeats 1000000 in
set_option maxRecDepth 100000 in
theorem Reader_readOrder_121_s {v0 : Nat} {s0 : Int32} {h : am_H} {r : (Int32 × am_H)} (hb : Reader_readOrder_121 v0 s0 h = some r) : Sx 89 mX3_readOrder 121 [.ref v0, .retAddr 0, .retAddr 0] [.int s0] h (some (.int r.1)) r.2 := by
  unfold Reader_readOrder_121 at hb
  refine Sx.o (L' := [.ref v0, .retAddr 0, .int s0]) (fun _ _ _ k => ex_istore_n dX3_readOrder_121 (by decide) k) ?_
  exact Reader_readOrder_122_s hb
set_option maxHeartbeats 1000000 in
set_option maxRecDepth 100000 in
theorem Reader_readOrder_121_q {v0 : Nat} {s0 : Int32} {h : am_H} {r : (Int32 × am_H)} (hb : Reader_readOrder_121 v0 s0 h = some r) : Eqs h r.2 := by
  unfold Reader_readOrder_121 at hb
  have w0 := Eqs.rf h
  exact w0.tr (Reader_readOrder_122_q hb)
set_option maxHeartbeats 1000000 in
set_option maxRecDepth 100000 in
noncomputable def Reader_readOrder_120 (v0 : Nat) (h : am_H) : Option (Int32 × am_H) := Reader_readOrder_121 v0 (0 : Int32) h
set_option maxHeartbeats 1000000 in
set_option maxRecDepth 100000 in
theorem Reader_readOrder_120_s {v0 : Nat} {h : am_H} {r : (Int32 × am_H)} (hb : Reader_readOrder_120 v0 h = some r) : Sx 89 mX3_readOrder 120 [.ref v0, .retAddr 0, .retAddr 0] [] h (some (.int r.1)) r.2 := by
  unfold Reader_readOrder_120 at hb
  refine Sx.o (fun _ _ _ k => op_iconst (0 : Int32) dX3_readOrder_120 (by decide) k) ?_
  exact Reader_readOrder_121_s hb
set_option maxHeartbeats 1000000 in
set_option maxRecDepth 100000 in
theorem Reader_readOrder_120_q {v0 : Nat} {h : am_H} {r : (Int32 × am_H)} (hb : Reader_readOrder_120 v0 h = some r) : Eqs h r.2 := by
  unfold Reader_readOrder_120 at hb
  have w0 := Eqs.rf h
  exact w0.tr (Reader_readOrder_121_q hb)
set_option maxHeartbeats 1000000 in
set_option maxRecDepth 100000 in
noncomputable def Reader_readOrder_86 (v0 : Nat) (s0 : Int32) (h : am_H) : Option (Int32 × am_H) := Reader_readOrder_122 v0 s0 h
set_option maxHeartbeats 1000000 in
set_option maxRecDepth 100000 in
theorem Reader_readOrder_86_s {v0 : Nat} {s0 : Int32} {h : am_H} {r : (Int32 × am_H)} (hb : Reader_readOrder_86 v0 s0 h = some r) : Sx 89 mX3_readOrder 86 [.ref v0, .retAddr 0, .retAddr 0] [.int s0] h (some (.int r.1)) r.2 := by
  unfold Reader_readOrder_86 at hb
  refine Sx.o (L' := [.ref v0, .retAddr 0, .int s0]) (fun _ _ _ k => ex_istore_n dX3_readOrder_86 (by decide) k) ?_
  refine Sx.o (fun _ _ _ k => ex_goto 122 dX3_readOrder_87 (by decide) k) ?_
  exact Reader_readOrder_122_s hb
set_option maxHeartbeats 1000000 in
set_option maxRecDepth 100000 in
theorem Reader_readOrder_86_q {v0 : Nat} {s0 : Int32} {h : am_H} {r : (Int32 × am_H)} (hb : Reader_readOrder_86 v0 s0 h = some r) : Eqs h r.2 := by
  unfold Reader_readOrder_86 at hb
  have w0 := Eqs.rf h
  exact w0.tr (Reader_readOrder_122_q hb)
set_option maxHeartbeats 1000000 in
set_option maxRecDepth 100000 in
noncomputable def Reader_readOrder_85 (v0 : Nat) (h : am_H) : Option (Int32 × am_H) := Reader_readOrder_86 v0 (0 : Int32) h
set_option maxHeartbeats 1000000 in
set_option maxRecDepth 100000 in
theorem Reader_readOrder_85_s {v0 : Nat} {h : am_H} {r : (Int32 × am_H)} (hb : Reader_readOrder_85 v0 h = some r) : Sx 89 mX3_readOrder 85 [.ref v0, .retAddr 0, .retAddr 0] [] h (some (.int r.1)) r.2 := by
  unfold Reader_readOrder_85 at hb
  refine Sx.o (fun _ _ _ k => op_iconst (0 : Int32) dX3_readOrder_85 (by decide) k) ?_
  exact Reader_readOrder_86_s hb
set_option maxHeartbeats 1000000 in
set_option maxRecDepth 100000 in
theorem Reader_readOrder_85_q {v0 : Nat} {h : am_H} {r : (Int32 × am_H)} (hb : Reader_readOrder_85 v0 h = some r) : Eqs h r.2 := by
  unfold Reader_readOrder_85 at hb
  have w0 := Eqs.rf h
  exact w0.tr (Reader_readOrder_86_q hb)
set_option maxHeartbeats 1000000 in
set_option maxRecDepth 100000 in
noncomputable def Reader_readOrder (v0 : Nat) (h : am_H) : Option (Int32 × am_H) := if isO h 3 v0 = true then (gR h 3 v0 1).bind fun x13 => (Tape_among x13 0 h).bind fun x15 => if x15 = (-1 : Int32) then some ((0 : Int32), h) else (gR h 3 v0 0).bind fun x19 => (Text_begin x19 x15 h).bind fun h21 => (gR h21 3 v0 1).bind fun x24 => (Tape_go x24 h21).bind fun h26 => (Reader_readSum v0 (0 : Int32) h26).bind fun r29 => if x15 = (1 : Int32) then if r29.1 = (0 : Int32) then Reader_readOrder_85 v0 r29.2 else (Reader_take v0 3 r29.2).bind fun r50 => if r50.1 = (0 : Int32) then Reader_readOrder_85 v0 r50.2 else (Reader_readSum v0 (1 : Int32) r50.2).bind fun r55 => if r55.1 = (0 : Int32) then Reader_readOrder_85 v0 r55.2 else (Reader_take v0 4 r55.2).bind fun r60 => if r60.1 = (0 : Int32) then Reader_readOrder_85 v0 r60.2 else (Reader_readSum v0 (2 : Int32) r60.2).bind fun r65 => if r65.1 = (0 : Int32) then Reader_readOrder_85 v0 r65.2 else Reader_readOrder_86 v0 (1 : Int32) r65.2 else if x15 = (2 : Int32) then if r29.1 = (0 : Int32) then Reader_readOrder_120 v0 r29.2 else (Reader_take v0 4 r29.2).bind fun r38 => if r38.1 = (0 : Int32) then Reader_readOrder_120 v0 r38.2 else (Reader_readSum v0 (1 : Int32) r38.2).bind fun r43 => if r43.1 = (0 : Int32) then Reader_readOrder_120 v0 r43.2 else Reader_readOrder_121 v0 (1 : Int32) r43.2 else Reader_readOrder_122 v0 r29.1 r29.2 else none
set_option maxHeartbeats 1000000 in
set_option maxRecDepth 100000 in
theorem Reader_readOrder_s {v0 : Nat} {h : am_H} {r : (Int32 × am_H)} (hb : Reader_readOrder v0 h = some r) : Sx 89 mX3_readOrder 0 (am_en [.ref v0] 3) [] h (some (.int r.1)) r.2 := by
  unfold Reader_readOrder at hb
  have hb := (iz hb).2
  show Sx 89 mX3_readOrder 0 [.ref v0, .retAddr 0, .retAddr 0] [] h (some (.int r.1)) r.2
  refine Sx.o (fun _ _ _ k => ex_aload_n dX3_readOrder_0 rfl rfl k) ?_
  obtain ⟨x13, e_x13, hb14⟩ := ob2 hb
  refine Sx.o (fun _ _ _ k => op_getR fX3_18 dX3_readOrder_1 e_x13 k) ?_
  refine Sx.o (fun _ _ _ k => ex_ldcS (tx := "step swap cut") (i := 0) (by decide) (List.mem_of_getElem? (i := 0) rfl) dX3_readOrder_4 k) ?_
  obtain ⟨x15, e_x15, hb16⟩ := ob2 hb14
  refine sx_callV (dc := 4) (as := [am_s 0]) (stq := [.int x15]) (by omega) dX3_readOrder_6 MX8_among kX3_57 iX8_among sX8_among rfl rfl (Tape_among_o e_x15) rfl rfl (Nat.le_of_ble_eq_true rfl) (Nat.le_of_ble_eq_true rfl) (Tape_among_s e_x15) rfl ?_
  refine Sx.o (L' := [.ref v0, .int x15, .retAddr 0]) (fun _ _ _ k => ex_istore_n dX3_readOrder_9 (by decide) k) ?_
  refine Sx.o (fun _ _ _ k => ex_iload_n dX3_readOrder_10 rfl k) ?_
  refine Sx.o (fun _ _ _ k => op_iconst (-1 : Int32) dX3_readOrder_11 (by decide) k) ?_
  refine Sx.bn (fun _ _ _ k1 k2 => ex_icmp_ne 17 dX3_readOrder_12 (by decide) k1 k2) (fun q => ?_) (fun q => ?_)
  · have hb17 := iq q hb16
    refine Sx.o (fun _ _ _ k => ex_aload_n dX3_readOrder_17 rfl rfl k) ?_
    obtain ⟨x19, e_x19, hb20⟩ := ob2 hb17
    refine Sx.o (fun _ _ _ k => op_getR fX3_12 dX3_readOrder_18 e_x19 k) ?_
    refine Sx.o (fun _ _ _ k => ex_iload_n dX3_readOrder_21 rfl k) ?_
    obtain ⟨h21, e_h21, hb22⟩ := ob2 hb20
    refine sx_callV (dc := 0) (as := [.int x15]) (stq := []) (by omega) dX3_readOrder_22 MX9_begin kX3_61 iX9_begin sX9_begin rfl rfl (Text_begin_o e_h21) rfl rfl (Nat.le_of_ble_eq_true rfl) (Nat.le_of_ble_eq_true rfl) (Text_begin_s e_h21) rfl ?_
    refine Sx.o (fun _ _ _ k => ex_aload_n dX3_readOrder_25 rfl rfl k) ?_
    obtain ⟨x24, e_x24, hb25⟩ := ob2 hb22
    refine Sx.o (fun _ _ _ k => op_getR fX3_18 dX3_readOrder_26 e_x24 k) ?_
    obtain ⟨h26, e_h26, hb27⟩ := ob2 hb25
    refine sx_callV (dc := 0) (as := []) (stq := []) (by omega) dX3_readOrder_29 MX8_go kX3_65 iX8_go sX8_go rfl rfl (Tape_go_o e_h26) rfl rfl (Nat.le_of_ble_eq_true rfl) (Nat.le_of_ble_eq_true rfl) (Tape_go_s e_h26) rfl ?_
    refine Sx.o (fun _ _ _ k => ex_aload_n dX3_readOrder_32 rfl rfl k) ?_
    refine Sx.o (fun _ _ _ k => op_iconst (0 : Int32) dX3_readOrder_33 (by decide) k) ?_
    obtain ⟨r29, e_r29, hb30⟩ := ob2 hb27
    refine sx_callV (dc := 47) (as := [.int (0 : Int32)]) (stq := [.int r29.1]) (by omega) dX3_readOrder_34 MX3_readSum kX3_68 iX3_readSum sX3_readSum rfl rfl (Reader_readSum_o e_r29) rfl rfl (Nat.le_of_ble_eq_true rfl) (Nat.le_of_ble_eq_true rfl) (Reader_readSum_s e_r29) rfl ?_
    refine Sx.o (L' := [.ref v0, .int x15, .int r29.1]) (fun _ _ _ k => ex_istore_n dX3_readOrder_37 (by decide) k) ?_
    refine Sx.o (fun _ _ _ k => ex_iload_n dX3_readOrder_38 rfl k) ?_
    refine Sx.o (fun _ _ _ k => op_iconst (1 : Int32) dX3_readOrder_39 (by decide) k) ?_
    refine Sx.bn (fun _ _ _ k1 k2 => ex_icmp_ne 90 dX3_readOrder_40 (by decide) k1 k2) (fun q => ?_) (fun q => ?_)
    · have hb32 := iq q hb30
      refine Sx.o (fun _ _ _ k => ex_iload_n dX3_readOrder_90 rfl k) ?_
      refine Sx.o (fun _ _ _ k => op_iconst (2 : Int32) dX3_readOrder_91 (by decide) k) ?_
      refine Sx.bn (fun _ _ _ k1 k2 => ex_icmp_ne 122 dX3_readOrder_92 (by decide) k1 k2) (fun q => ?_) (fun q => ?_)
      · have hb34 := iq q hb32
        refine Sx.fg [true, false, true] ?_
        exact Reader_readOrder_122_s hb34
      · have hb35 := ip q hb32
        refine Sx.o (fun _ _ _ k => ex_iload_n dX3_readOrder_95 rfl k) ?_
        refine Sx.b (fun _ _ _ k1 k2 => ex_if_eq 120 dX3_readOrder_96 (by decide) k1 k2) (fun q => ?_) (fun q => ?_)
        · have hb36 := ip q hb35
          refine Sx.fg [true, false, false] ?_
          exact Reader_readOrder_120_s hb36
        · have hb37 := iq q hb35
          refine Sx.o (fun _ _ _ k => ex_aload_n dX3_readOrder_99 rfl rfl k) ?_
          refine Sx.o (fun _ _ _ k => ex_ldcS (tx := "of") (i := 4) (by decide) (List.mem_of_getElem? (i := 4) rfl) dX3_readOrder_100 k) ?_
          obtain ⟨r38, e_r38, hb39⟩ := ob2 hb37
          refine sx_callV (dc := 6) (as := [am_s 4]) (stq := [.int r38.1]) (by omega) dX3_readOrder_102 MX3_take kX3_79 iX3_take sX3_take rfl rfl (Reader_take_o e_r38) rfl rfl (Nat.le_of_ble_eq_true rfl) (Nat.le_of_ble_eq_true rfl) (Reader_take_s e_r38) rfl ?_
          refine Sx.b (fun _ _ _ k1 k2 => ex_if_eq 120 dX3_readOrder_105 (by decide) k1 k2) (fun q => ?_) (fun q => ?_)
          · have hb41 := ip q hb39
            refine Sx.fg [true, false, false] ?_
            exact Reader_readOrder_120_s hb41
          · have hb42 := iq q hb39
            refine Sx.o (fun _ _ _ k => ex_aload_n dX3_readOrder_108 rfl rfl k) ?_
            refine Sx.o (fun _ _ _ k => op_iconst (1 : Int32) dX3_readOrder_109 (by decide) k) ?_
            obtain ⟨r43, e_r43, hb44⟩ := ob2 hb42
            refine sx_callV (dc := 47) (as := [.int (1 : Int32)]) (stq := [.int r43.1]) (by omega) dX3_readOrder_110 MX3_readSum kX3_68 iX3_readSum sX3_readSum rfl rfl (Reader_readSum_o e_r43) rfl rfl (Nat.le_of_ble_eq_true rfl) (Nat.le_of_ble_eq_true rfl) (Reader_readSum_s e_r43) rfl ?_
            refine Sx.b (fun _ _ _ k1 k2 => ex_if_eq 120 dX3_readOrder_113 (by decide) k1 k2) (fun q => ?_) (fun q => ?_)
            · have hb46 := ip q hb44
              refine Sx.fg [true, false, false] ?_
              exact Reader_readOrder_120_s hb46
            · have hb47 := iq q hb44
              refine Sx.o (fun _ _ _ k => op_iconst (1 : Int32) dX3_readOrder_116 (by decide) k) ?_
              refine Sx.o (fun _ _ _ k => ex_goto 121 dX3_readOrder_117 (by decide) k) ?_
              refine Sx.fg [true, false, false] ?_
              exact Reader_readOrder_121_s hb47
    · have hb33 := ip q hb30
      refine Sx.o (fun _ _ _ k => ex_iload_n dX3_readOrder_43 rfl k) ?_
      refine Sx.b (fun _ _ _ k1 k2 => ex_if_eq 85 dX3_readOrder_44 (by decide) k1 k2) (fun q => ?_) (fun q => ?_)
      · have hb48 := ip q hb33
        refine Sx.fg [true, false, false] ?_
        exact Reader_readOrder_85_s hb48
      · have hb49 := iq q hb33
        refine Sx.o (fun _ _ _ k => ex_aload_n dX3_readOrder_47 rfl rfl k) ?_
        refine Sx.o (fun _ _ _ k => ex_ldcS (tx := "with") (i := 3) (by decide) (List.mem_of_getElem? (i := 3) rfl) dX3_readOrder_48 k) ?_
        obtain ⟨r50, e_r50, hb51⟩ := ob2 hb49
        refine sx_callV (dc := 6) (as := [am_s 3]) (stq := [.int r50.1]) (by omega) dX3_readOrder_50 MX3_take kX3_79 iX3_take sX3_take rfl rfl (Reader_take_o e_r50) rfl rfl (Nat.le_of_ble_eq_true rfl) (Nat.le_of_ble_eq_true rfl) (Reader_take_s e_r50) rfl ?_
        refine Sx.b (fun _ _ _ k1 k2 => ex_if_eq 85 dX3_readOrder_53 (by decide) k1 k2) (fun q => ?_) (fun q => ?_)
        · have hb53 := ip q hb51
          refine Sx.fg [true, false, false] ?_
          exact Reader_readOrder_85_s hb53
        · have hb54 := iq q hb51
          refine Sx.o (fun _ _ _ k => ex_aload_n dX3_readOrder_56 rfl rfl k) ?_
          refine Sx.o (fun _ _ _ k => op_iconst (1 : Int32) dX3_readOrder_57 (by decide) k) ?_
          obtain ⟨r55, e_r55, hb56⟩ := ob2 hb54
          refine sx_callV (dc := 47) (as := [.int (1 : Int32)]) (stq := [.int r55.1]) (by omega) dX3_readOrder_58 MX3_readSum kX3_68 iX3_readSum sX3_readSum rfl rfl (Reader_readSum_o e_r55) rfl rfl (Nat.le_of_ble_eq_true rfl) (Nat.le_of_ble_eq_true rfl) (Reader_readSum_s e_r55) rfl ?_
          refine Sx.b (fun _ _ _ k1 k2 => ex_if_eq 85 dX3_readOrder_61 (by decide) k1 k2) (fun q => ?_) (fun q => ?_)
          · have hb58 := ip q hb56
            refine Sx.fg [true, false, false] ?_
            exact Reader_readOrder_85_s hb58
          · have hb59 := iq q hb56
            refine Sx.o (fun _ _ _ k => ex_aload_n dX3_readOrder_64 rfl rfl k) ?_
            refine Sx.o (fun _ _ _ k => ex_ldcS (tx := "of") (i := 4) (by decide) (List.mem_of_getElem? (i := 4) rfl) dX3_readOrder_65 k) ?_
            obtain ⟨r60, e_r60, hb61⟩ := ob2 hb59
            refine sx_callV (dc := 6) (as := [am_s 4]) (stq := [.int r60.1]) (by omega) dX3_readOrder_67 MX3_take kX3_79 iX3_take sX3_take rfl rfl (Reader_take_o e_r60) rfl rfl (Nat.le_of_ble_eq_true rfl) (Nat.le_of_ble_eq_true rfl) (Reader_take_s e_r60) rfl ?_
            refine Sx.b (fun _ _ _ k1 k2 => ex_if_eq 85 dX3_readOrder_70 (by decide) k1 k2) (fun q => ?_) (fun q => ?_)
            · have hb63 := ip q hb61
              refine Sx.fg [true, false, false] ?_
              exact Reader_readOrder_85_s hb63
            · have hb64 := iq q hb61
              refine Sx.o (fun _ _ _ k => ex_aload_n dX3_readOrder_73 rfl rfl k) ?_
              refine Sx.o (fun _ _ _ k => op_iconst (2 : Int32) dX3_readOrder_74 (by decide) k) ?_
              obtain ⟨r65, e_r65, hb66⟩ := ob2 hb64
              refine sx_callV (dc := 47) (as := [.int (2 : Int32)]) (stq := [.int r65.1]) (by omega) dX3_readOrder_75 MX3_readSum kX3_68 iX3_readSum sX3_readSum rfl rfl (Reader_readSum_o e_r65) rfl rfl (Nat.le_of_ble_eq_true rfl) (Nat.le_of_ble_eq_true rfl) (Reader_readSum_s e_r65) rfl ?_
              refine Sx.b (fun _ _ _ k1 k2 => ex_if_eq 85 dX3_readOrder_78 (by decide) k1 k2) (fun q => ?_) (fun q => ?_)
              · have hb68 := ip q hb66
                refine Sx.fg [true, false, false] ?_
                exact Reader_readOrder_85_s hb68
              · have hb69 := iq q hb66
                refine Sx.o (fun _ _ _ k => op_iconst (1 : Int32) dX3_readOrder_81 (by decide) k) ?_
                refine Sx.o (fun _ _ _ k => ex_goto 86 dX3_readOrder_82 (by decide) k) ?_
                refine Sx.fg [true, false, false] ?_
                exact Reader_readOrder_86_s hb69
  · have hb18 := ip q hb16
    refine Sx.o (fun _ _ _ k => op_iconst (0 : Int32) dX3_readOrder_15 (by decide) k) ?_
    obtain rfl := Option.some.inj hb18
    exact Sx.r (fun _ _ _ k => ex_zret rfl rfl dX3_readOrder_16 k)
set_option maxHeartbeats 1000000 in
set_option maxRecDepth 100000 in
theorem Reader_readOrder_q {v0 : Nat} {h : am_H} {r : (Int32 × am_H)} (hb : Reader_readOrder v0 h = some r) : Eqs h r.2 := by
  unfold Reader_readOrder at hb
  have hb := (iz hb).2
  have w0 := Eqs.rf h
  obtain ⟨x13, e_x13, hb14⟩ := ob2 hb
  obtain ⟨x15, e_x15, hb16⟩ := ob2 hb14
  by_cases q : x15 = (-1 : Int32)
  · have hb18 := ip q hb16
    obtain rfl := Option.some.inj hb18
    exact w0
  · have hb17 := iq q hb16
    obtain ⟨x19, e_x19, hb20⟩ := ob2 hb17
    obtain ⟨h21, e_h21, hb22⟩ := ob2 hb20
    have w23 := w0.tr (Text_begin_q e_h21)
    obtain ⟨x24, e_x24, hb25⟩ := ob2 hb22
    obtain ⟨h26, e_h26, hb27⟩ := ob2 hb25
    have w28 := w23.tr (Tape_go_q e_h26)
    obtain ⟨r29, e_r29, hb30⟩ := ob2 hb27
    have w31 := w28.tr (Reader_readSum_q e_r29)
    by_cases q : x15 = (1 : Int32)
    · have hb33 := ip q hb30
      by_cases q : r29.1 = (0 : Int32)
      · have hb48 := ip q hb33
        exact w31.tr (Reader_readOrder_85_q hb48)
      · have hb49 := iq q hb33
        obtain ⟨r50, e_r50, hb51⟩ := ob2 hb49
        have w52 := w31.tr (Reader_take_q e_r50)
        by_cases q : r50.1 = (0 : Int32)
        · have hb53 := ip q hb51
          exact w52.tr (Reader_readOrder_85_q hb53)
        · have hb54 := iq q hb51
          obtain ⟨r55, e_r55, hb56⟩ := ob2 hb54
          have w57 := w52.tr (Reader_readSum_q e_r55)
          by_cases q : r55.1 = (0 : Int32)
          · have hb58 := ip q hb56
            exact w57.tr (Reader_readOrder_85_q hb58)
          · have hb59 := iq q hb56
            obtain ⟨r60, e_r60, hb61⟩ := ob2 hb59
            have w62 := w57.tr (Reader_take_q e_r60)
            by_cases q : r60.1 = (0 : Int32)
            · have hb63 := ip q hb61
              exact w62.tr (Reader_readOrder_85_q hb63)
            · have hb64 := iq q hb61
              obtain ⟨r65, e_r65, hb66⟩ := ob2 hb64
              have w67 := w62.tr (Reader_readSum_q e_r65)
              by_cases q : r65.1 = (0 : Int32)
              · have hb68 := ip q hb66
                exact w67.tr (Reader_readOrder_85_q hb68)
              · have hb69 := iq q hb66
                exact w67.tr (Reader_readOrder_86_q hb69)
    · have hb32 := iq q hb30
      by_cases q : x15 = (2 : Int32)
      · have hb35 := ip q hb32
        by_cases q : r29.1 = (0 : Int32)
        · have hb36 := ip q hb35
          exact w31.tr (Reader_readOrder_120_q hb36)
        · have hb37 := iq q hb35
          obtain ⟨r38, e_r38, hb39⟩ := ob2 hb37
          have w40 := w31.tr (Reader_take_q e_r38)
          by_cases q : r38.1 = (0 : Int32)
          · have hb41 := ip q hb39
            exact w40.tr (Reader_readOrder_120_q hb41)
          · have hb42 := iq q hb39
            obtain ⟨r43, e_r43, hb44⟩ := ob2 hb42
            have w45 := w40.tr (Reader_readSum_q e_r43)
            by_cases q : r43.1 = (0 : Int32)
            · have hb46 := ip q hb44
              exact w45.tr (Reader_readOrder_120_q hb46)
            · have hb47 := iq q hb44
              exact w45.tr (Reader_readOrder_121_q hb47)
      · have hb34 := iq q hb32
        exact w31.tr (Reader_readOrder_122_q hb34)
theorem Reader_readOrder_o {v0 : Nat} {h : am_H} {r : (Int32 × am_H)} (hb : Reader_readOrder v0 h = some r) : isO h 3 v0 = true := by
  unfold Reader_readOrder at hb
  exact (iz hb).1
set_option maxHeartbeats 1000000 in
set_option maxRecDepth 100000 in
noncomputable def Reader_readRule_45 (v0 : Nat) (h : am_H) : Option (Int32 × am_H) := (Reader_readIf v0 h).bind fun r1 => if r1.1 = (0 : Int32) then some ((0 : Int32), r1.2) else some ((1 : Int32), r1.2)
set_option maxHeartbeats 1000000 in
set_option maxRecDepth 100000 in
theorem Reader_readRule_45_s {v0 : Nat} {h : am_H} {r : (Int32 × am_H)} (hb : Reader_readRule_45 v0 h = some r) : Sx 89 mX3_readRule 45 [.ref v0, .retAddr 0] [] h (some (.int r.1)) r.2 := by
  unfold Reader_readRule_45 at hb
  refine Sx.o (fun _ _ _ k => ex_aload_n dX3_readRule_45 rfl rfl k) ?_
  obtain ⟨r1, e_r1, hb2⟩ := ob2 hb
  refine sx_callV (dc := 88) (as := []) (stq := [.int r1.1]) (by omega) dX3_readRule_46 MX3_readIf kX3_72 iX3_readIf sX3_readIf rfl rfl (Reader_readIf_o e_r1) rfl rfl (Nat.le_of_ble_eq_true rfl) (Nat.le_of_ble_eq_true rfl) (Reader_readIf_s e_r1) rfl ?_
  refine Sx.b (fun _ _ _ k1 k2 => ex_if_eq 56 dX3_readRule_49 (by decide) k1 k2) (fun q => ?_) (fun q => ?_)
  · have hb4 := ip q hb2
    refine Sx.o (fun _ _ _ k => op_iconst (0 : Int32) dX3_readRule_56 (by decide) k) ?_
    obtain rfl := Option.some.inj hb4
    exact Sx.r (fun _ _ _ k => ex_zret rfl rfl dX3_readRule_57 k)
  · have hb5 := iq q hb2
    refine Sx.o (fun _ _ _ k => op_iconst (1 : Int32) dX3_readRule_52 (by decide) k) ?_
    refine Sx.o (fun _ _ _ k => ex_goto 57 dX3_readRule_53 (by decide) k) ?_
    obtain rfl := Option.some.inj hb5
    exact Sx.r (fun _ _ _ k => ex_zret rfl rfl dX3_readRule_57 k)
set_option maxHeartbeats 1000000 in
set_option maxRecDepth 100000 in
theorem Reader_readRule_45_q {v0 : Nat} {h : am_H} {r : (Int32 × am_H)} (hb : Reader_readRule_45 v0 h = some r) : Eqs h r.2 := by
  unfold Reader_readRule_45 at hb
  have w0 := Eqs.rf h
  obtain ⟨r1, e_r1, hb2⟩ := ob2 hb
  have w3 := w0.tr (Reader_readIf_q e_r1)
  by_cases q : r1.1 = (0 : Int32)
  · have hb4 := ip q hb2
    obtain rfl := Option.some.inj hb4
    exact w3
  · have hb5 := iq q hb2
    obtain rfl := Option.some.inj hb5
    exact w3
set_option maxHeartbeats 1000000 in
set_option maxRecDepth 100000 in
noncomputable def Reader_readRule (v0 : Nat) (h : am_H) : Option (Int32 × am_H) := if isO h 3 v0 = true then (gR h 3 v0 1).bind fun x6 => (Tape_among x6 10 h).bind fun x8 => if x8 = (-1 : Int32) then some ((0 : Int32), h) else (gR h 3 v0 0).bind fun x12 => (Text_begin x12 x8 h).bind fun h14 => (gR h14 3 v0 1).bind fun x17 => (Tape_go x17 h14).bind fun h19 => if x8 = (2 : Int32) then Reader_readRule_45 v0 h19 else (Reader_readSum v0 (0 : Int32) h19).bind fun r24 => if r24.1 = (0 : Int32) then some ((0 : Int32), r24.2) else Reader_readRule_45 v0 r24.2 else none
set_option maxHeartbeats 1000000 in
set_option maxRecDepth 100000 in
theorem Reader_readRule_s {v0 : Nat} {h : am_H} {r : (Int32 × am_H)} (hb : Reader_readRule v0 h = some r) : Sx 89 mX3_readRule 0 (am_en [.ref v0] 2) [] h (some (.int r.1)) r.2 := by
  unfold Reader_readRule at hb
  have hb := (iz hb).2
  show Sx 89 mX3_readRule 0 [.ref v0, .retAddr 0] [] h (some (.int r.1)) r.2
  refine Sx.o (fun _ _ _ k => ex_aload_n dX3_readRule_0 rfl rfl k) ?_
  obtain ⟨x6, e_x6, hb7⟩ := ob2 hb
  refine Sx.o (fun _ _ _ k => op_getR fX3_18 dX3_readRule_1 e_x6 k) ?_
  refine Sx.o (fun _ _ _ k => ex_ldcS (tx := "turns sinks ends") (i := 10) (by decide) (List.mem_of_getElem? (i := 10) rfl) dX3_readRule_4 k) ?_
  obtain ⟨x8, e_x8, hb9⟩ := ob2 hb7
  refine sx_callV (dc := 4) (as := [am_s 10]) (stq := [.int x8]) (by omega) dX3_readRule_6 MX8_among kX3_57 iX8_among sX8_among rfl rfl (Tape_among_o e_x8) rfl rfl (Nat.le_of_ble_eq_true rfl) (Nat.le_of_ble_eq_true rfl) (Tape_among_s e_x8) rfl ?_
  refine Sx.o (L' := [.ref v0, .int x8]) (fun _ _ _ k => ex_istore_n dX3_readRule_9 (by decide) k) ?_
  refine Sx.o (fun _ _ _ k => ex_iload_n dX3_readRule_10 rfl k) ?_
  refine Sx.o (fun _ _ _ k => op_iconst (-1 : Int32) dX3_readRule_11 (by decide) k) ?_
  refine Sx.bn (fun _ _ _ k1 k2 => ex_icmp_ne 17 dX3_readRule_12 (by decide) k1 k2) (fun q => ?_) (fun q => ?_)
  · have hb10 := iq q hb9
    refine Sx.o (fun _ _ _ k => ex_aload_n dX3_readRule_17 rfl rfl k) ?_
    obtain ⟨x12, e_x12, hb13⟩ := ob2 hb10
    refine Sx.o (fun _ _ _ k => op_getR fX3_12 dX3_readRule_18 e_x12 k) ?_
    refine Sx.o (fun _ _ _ k => ex_iload_n dX3_readRule_21 rfl k) ?_
    obtain ⟨h14, e_h14, hb15⟩ := ob2 hb13
    refine sx_callV (dc := 0) (as := [.int x8]) (stq := []) (by omega) dX3_readRule_22 MX9_begin kX3_61 iX9_begin sX9_begin rfl rfl (Text_begin_o e_h14) rfl rfl (Nat.le_of_ble_eq_true rfl) (Nat.le_of_ble_eq_true rfl) (Text_begin_s e_h14) rfl ?_
    refine Sx.o (fun _ _ _ k => ex_aload_n dX3_readRule_25 rfl rfl k) ?_
    obtain ⟨x17, e_x17, hb18⟩ := ob2 hb15
    refine Sx.o (fun _ _ _ k => op_getR fX3_18 dX3_readRule_26 e_x17 k) ?_
    obtain ⟨h19, e_h19, hb20⟩ := ob2 hb18
    refine sx_callV (dc := 0) (as := []) (stq := []) (by omega) dX3_readRule_29 MX8_go kX3_65 iX8_go sX8_go rfl rfl (Tape_go_o e_h19) rfl rfl (Nat.le_of_ble_eq_true rfl) (Nat.le_of_ble_eq_true rfl) (Tape_go_s e_h19) rfl ?_
    refine Sx.o (fun _ _ _ k => ex_iload_n dX3_readRule_32 rfl k) ?_
    refine Sx.o (fun _ _ _ k => op_iconst (2 : Int32) dX3_readRule_33 (by decide) k) ?_
    refine Sx.b (fun _ _ _ k1 k2 => ex_icmp_eq 45 dX3_readRule_34 (by decide) k1 k2) (fun q => ?_) (fun q => ?_)
    · have hb22 := ip q hb20
      refine Sx.fg [true, false] ?_
      exact Reader_readRule_45_s hb22
    · have hb23 := iq q hb20
      refine Sx.o (fun _ _ _ k => ex_aload_n dX3_readRule_37 rfl rfl k) ?_
      refine Sx.o (fun _ _ _ k => op_iconst (0 : Int32) dX3_readRule_38 (by decide) k) ?_
      obtain ⟨r24, e_r24, hb25⟩ := ob2 hb23
      refine sx_callV (dc := 47) (as := [.int (0 : Int32)]) (stq := [.int r24.1]) (by omega) dX3_readRule_39 MX3_readSum kX3_68 iX3_readSum sX3_readSum rfl rfl (Reader_readSum_o e_r24) rfl rfl (Nat.le_of_ble_eq_true rfl) (Nat.le_of_ble_eq_true rfl) (Reader_readSum_s e_r24) rfl ?_
      refine Sx.b (fun _ _ _ k1 k2 => ex_if_eq 56 dX3_readRule_42 (by decide) k1 k2) (fun q => ?_) (fun q => ?_)
      · have hb27 := ip q hb25
        refine Sx.o (fun _ _ _ k => op_iconst (0 : Int32) dX3_readRule_56 (by decide) k) ?_
        obtain rfl := Option.some.inj hb27
        exact Sx.r (fun _ _ _ k => ex_zret rfl rfl dX3_readRule_57 k)
      · have hb28 := iq q hb25
        refine Sx.fg [true, false] ?_
        exact Reader_readRule_45_s hb28
  · have hb11 := ip q hb9
    refine Sx.o (fun _ _ _ k => op_iconst (0 : Int32) dX3_readRule_15 (by decide) k) ?_
    obtain rfl := Option.some.inj hb11
    exact Sx.r (fun _ _ _ k => ex_zret rfl rfl dX3_readRule_16 k)
set_option maxHeartbeats 1000000 in
set_option maxRecDepth 100000 in
theorem Reader_readRule_q {v0 : Nat} {h : am_H} {r : (Int32 × am_H)} (hb : Reader_readRule v0 h = some r) : Eqs h r.2 := by
  unfold Reader_readRule at hb
  have hb := (iz hb).2
  have w0 := Eqs.rf h
  obtain ⟨x6, e_x6, hb7⟩ := ob2 hb
  obtain ⟨x8, e_x8, hb9⟩ := ob2 hb7
  by_cases q : x8 = (-1 : Int32)
  · have hb11 := ip q hb9
    obtain rfl := Option.some.inj hb11
    exact w0
  · have hb10 := iq q hb9
    obtain ⟨x12, e_x12, hb13⟩ := ob2 hb10
    obtain ⟨h14, e_h14, hb15⟩ := ob2 hb13
    have w16 := w0.tr (Text_begin_q e_h14)
    obtain ⟨x17, e_x17, hb18⟩ := ob2 hb15
    obtain ⟨h19, e_h19, hb20⟩ := ob2 hb18
    have w21 := w16.tr (Tape_go_q e_h19)
    by_cases q : x8 = (2 : Int32)
    · have hb22 := ip q hb20
      exact w21.tr (Reader_readRule_45_q hb22)
    · have hb23 := iq q hb20
      obtain ⟨r24, e_r24, hb25⟩ := ob2 hb23
      have w26 := w21.tr (Reader_readSum_q e_r24)
      by_cases q : r24.1 = (0 : Int32)
      · have hb27 := ip q hb25
        obtain rfl := Option.some.inj hb27
        exact w26
      · have hb28 := iq q hb25
        exact w26.tr (Reader_readRule_45_q hb28)
theorem Reader_readRule_o {v0 : Nat} {h : am_H} {r : (Int32 × am_H)} (hb : Reader_readRule v0 h = some r) : isO h 3 v0 = true := by
  unfold Reader_readRule at hb
  exact (iz hb).1
set_option maxHeartbeats 1000000 in
set_option maxRecDepth 100000 in
noncomputable def Reader_read_26_b (g : (Nat × Int32 × Int32 × Int32 × Nat × am_H) → Option (Int32 × am_H)) (v0 : Nat) (v1 : Int32) (v2 : Int32) (h : am_H) : Option (Int32 × am_H) := if (12 : Int32) ≤ v2 then (gR h 3 v0 1).bind fun x3 => (gI h 8 x3 3).bind fun x5 => some (x5, h) else if v1 = (0 : Int32) then (Reader_readRule v0 h).bind fun r9 => g (47, v1, v2, r9.1, v0, r9.2) else (Reader_readOrder v0 h).bind fun r12 => g (47, v1, v2, r12.1, v0, r12.2)
set_option maxHeartbeats 1000000 in
set_option maxRecDepth 100000 in
theorem Reader_read_26_m {g g2 : (Nat × Int32 × Int32 × Int32 × Nat × am_H) → Option (Int32 × am_H)} (hg : ∀ s, Le (g s) (g2 s)) (v0 : Nat) (v1 : Int32) (v2 : Int32) (h : am_H) : Le (Reader_read_26_b g v0 v1 v2 h) (Reader_read_26_b g2 v0 v1 v2 h) := by unfold Reader_read_26_b; exact le_i (le_r _) (le_i (le_b (le_r _) fun r9 => hg _) (le_b (le_r _) fun r12 => hg _))
set_option maxHeartbeats 1000000 in
set_option maxRecDepth 100000 in
noncomputable def Reader_read_47_b (g : (Nat × Int32 × Int32 × Int32 × Nat × am_H) → Option (Int32 × am_H)) (v0 : Nat) (v1 : Int32) (v2 : Int32) (s0 : Int32) (h : am_H) : Option (Int32 × am_H) := if s0 = (0 : Int32) then g (65, v1, v2, s0, v0, h) else (gR h 3 v0 1).bind fun x17 => (gI h 8 x17 2).bind fun x19 => if x19 = (4 : Int32) then some ((-1 : Int32), h) else g (65, v1, v2, s0, v0, h)
set_option maxHeartbeats 1000000 in
set_option maxRecDepth 100000 in
theorem Reader_read_47_m {g g2 : (Nat × Int32 × Int32 × Int32 × Nat × am_H) → Option (Int32 × am_H)} (hg : ∀ s, Le (g s) (g2 s)) (v0 : Nat) (v1 : Int32) (v2 : Int32) (s0 : Int32) (h : am_H) : Le (Reader_read_47_b g v0 v1 v2 s0 h) (Reader_read_47_b g2 v0 v1 v2 s0 h) := by unfold Reader_read_47_b; exact le_i (hg _) (le_b (le_r _) fun x17 => le_b (le_r _) fun x19 => le_i (le_r _) (hg _))
set_option maxHeartbeats 1000000 in
set_option maxRecDepth 100000 in
noncomputable def Reader_read_65_b (g : (Nat × Int32 × Int32 × Int32 × Nat × am_H) → Option (Int32 × am_H)) (v0 : Nat) (v1 : Int32) (v2 : Int32) (v3 : Int32) (h : am_H) : Option (Int32 × am_H) := if v3 = (0 : Int32) then (gR h 3 v0 1).bind fun x25 => (gI h 8 x25 3).bind fun x27 => some (x27, h) else (Reader_takeSign v0 (59 : Int32) h).bind fun r29 => if r29.1 = (0 : Int32) then (gR r29.2 3 v0 1).bind fun x34 => (gI r29.2 8 x34 3).bind fun x36 => some (x36, r29.2) else g (26, v1, (v2 + (1 : Int32)), 0, v0, r29.2)
set_option maxHeartbeats 1000000 in
set_option maxRecDepth 100000 in
theorem Reader_read_65_m {g g2 : (Nat × Int32 × Int32 × Int32 × Nat × am_H) → Option (Int32 × am_H)} (hg : ∀ s, Le (g s) (g2 s)) (v0 : Nat) (v1 : Int32) (v2 : Int32) (v3 : Int32) (h : am_H) : Le (Reader_read_65_b g v0 v1 v2 v3 h) (Reader_read_65_b g2 v0 v1 v2 v3 h) := by unfold Reader_read_65_b; exact le_i (le_r _) (le_b (le_r _) fun r29 => le_i (le_r _) (hg _))
noncomputable def Reader_read_26_F (g : (Nat × Int32 × Int32 × Int32 × Nat × am_H) → Option (Int32 × am_H)) (s : (Nat × Int32 × Int32 × Int32 × Nat × am_H)) : Option (Int32 × am_H) := if s.1 = 26 then Reader_read_26_b g s.2.2.2.2.1 s.2.1 s.2.2.1 s.2.2.2.2.2 else if s.1 = 47 then Reader_read_47_b g s.2.2.2.2.1 s.2.1 s.2.2.1 s.2.2.2.1 s.2.2.2.2.2 else if s.1 = 65 then Reader_read_65_b g s.2.2.2.2.1 s.2.1 s.2.2.1 s.2.2.2.1 s.2.2.2.2.2 else none
theorem Reader_read_26_M : Mn Reader_read_26_F := fun g g2 hg s => by unfold Reader_read_26_F; exact le_i (Reader_read_26_m hg s.2.2.2.2.1 s.2.1 s.2.2.1 s.2.2.2.2.2) (le_i (Reader_read_47_m hg s.2.2.2.2.1 s.2.1 s.2.2.1 s.2.2.2.1 s.2.2.2.2.2) (le_i (Reader_read_65_m hg s.2.2.2.2.1 s.2.1 s.2.2.1 s.2.2.2.1 s.2.2.2.2.2) (le_r _)))
def Reader_read_26_P (s : (Nat × Int32 × Int32 × Int32 × Nat × am_H)) (r : (Int32 × am_H)) : Prop := (s.1 = 26 → Sx 90 mX3_read 26 [.ref s.2.2.2.2.1, .int s.2.1, .int s.2.2.1, .retAddr 0] [] s.2.2.2.2.2 (some (.int r.1)) r.2) ∧ (s.1 = 47 → Sx 90 mX3_read 47 [.ref s.2.2.2.2.1, .int s.2.1, .int s.2.2.1, .retAddr 0] [.int s.2.2.2.1] s.2.2.2.2.2 (some (.int r.1)) r.2) ∧ (s.1 = 65 → Sx 90 mX3_read 65 [.ref s.2.2.2.2.1, .int s.2.1, .int s.2.2.1, .int s.2.2.2.1] [] s.2.2.2.2.2 (some (.int r.1)) r.2) ∧ True
set_option maxHeartbeats 1000000 in
set_option maxRecDepth 100000 in
theorem Reader_read_26_t {g : (Nat × Int32 × Int32 × Int32 × Nat × am_H) → Option (Int32 × am_H)} (hg : ∀ s r, g s = some r → Reader_read_26_P s r) {v0 : Nat} {v1 : Int32} {v2 : Int32} {h : am_H} {r : (Int32 × am_H)} (hb : Reader_read_26_b g v0 v1 v2 h = some r) : Sx 90 mX3_read 26 [.ref v0, .int v1, .int v2, .retAddr 0] [] h (some (.int r.1)) r.2 := by
  unfold Reader_read_26_b at hb
  refine Sx.o (fun _ _ _ k => ex_iload_n dX3_read_26 rfl k) ?_
  refine Sx.o (fun _ _ _ k => op_bipush (12 : Int32) dX3_read_27 (by decide) k) ?_
  refine Sx.b (fun _ _ _ k1 k2 => ex_icmp_ge 92 dX3_read_29 (by decide) k1 k2) (fun q => ?_) (fun q => ?_)
  · have hb1 := ip q hb
    refine Sx.o (fun _ _ _ k => ex_aload_n dX3_read_92 rfl rfl k) ?_
    obtain ⟨x3, e_x3, hb4⟩ := ob2 hb1
    refine Sx.o (fun _ _ _ k => op_getR fX3_18 dX3_read_93 e_x3 k) ?_
    obtain ⟨x5, e_x5, hb6⟩ := ob2 hb4
    refine Sx.o (fun _ _ _ k => op_getI fX3_52 dX3_read_96 e_x5 k) ?_
    obtain rfl := Option.some.inj hb6
    exact Sx.r (fun _ _ _ k => ex_iret rfl dX3_read_99 k)
  · have hb2 := iq q hb
    refine Sx.o (fun _ _ _ k => ex_iload_n dX3_read_32 rfl k) ?_
    refine Sx.b (fun _ _ _ k1 k2 => ex_if_eq 43 dX3_read_33 (by decide) k1 k2) (fun q => ?_) (fun q => ?_)
    · have hb7 := ip q hb2
      refine Sx.o (fun _ _ _ k => ex_aload_n dX3_read_43 rfl rfl k) ?_
      obtain ⟨r9, e_r9, hb10⟩ := ob2 hb7
      refine sx_callV (dc := 89) (as := []) (stq := [.int r9.1]) (by omega) dX3_read_44 MX3_readRule kX3_42 iX3_readRule sX3_readRule rfl rfl (Reader_readRule_o e_r9) rfl rfl (Nat.le_of_ble_eq_true rfl) (Nat.le_of_ble_eq_true rfl) (Reader_readRule_s e_r9) rfl ?_
      exact (hg _ _ hb10).2.1 rfl
    · have hb8 := iq q hb2
      refine Sx.o (fun _ _ _ k => ex_aload_n dX3_read_36 rfl rfl k) ?_
      obtain ⟨r12, e_r12, hb13⟩ := ob2 hb8
      refine sx_callV (dc := 89) (as := []) (stq := [.int r12.1]) (by omega) dX3_read_37 MX3_readOrder kX3_38 iX3_readOrder sX3_readOrder rfl rfl (Reader_readOrder_o e_r12) rfl rfl (Nat.le_of_ble_eq_true rfl) (Nat.le_of_ble_eq_true rfl) (Reader_readOrder_s e_r12) rfl ?_
      refine Sx.o (fun _ _ _ k => ex_goto 47 dX3_read_40 (by decide) k) ?_
      exact (hg _ _ hb13).2.1 rfl
set_option maxHeartbeats 1000000 in
set_option maxRecDepth 100000 in
theorem Reader_read_47_t {g : (Nat × Int32 × Int32 × Int32 × Nat × am_H) → Option (Int32 × am_H)} (hg : ∀ s r, g s = some r → Reader_read_26_P s r) {v0 : Nat} {v1 : Int32} {v2 : Int32} {s0 : Int32} {h : am_H} {r : (Int32 × am_H)} (hb : Reader_read_47_b g v0 v1 v2 s0 h = some r) : Sx 90 mX3_read 47 [.ref v0, .int v1, .int v2, .retAddr 0] [.int s0] h (some (.int r.1)) r.2 := by
  unfold Reader_read_47_b at hb
  refine Sx.o (L' := [.ref v0, .int v1, .int v2, .int s0]) (fun _ _ _ k => ex_istore_n dX3_read_47 (by decide) k) ?_
  refine Sx.o (fun _ _ _ k => ex_iload_n dX3_read_48 rfl k) ?_
  refine Sx.b (fun _ _ _ k1 k2 => ex_if_eq 65 dX3_read_49 (by decide) k1 k2) (fun q => ?_) (fun q => ?_)
  · have hb15 := ip q hb
    exact (hg _ _ hb15).2.2.1 rfl
  · have hb16 := iq q hb
    refine Sx.o (fun _ _ _ k => ex_aload_n dX3_read_52 rfl rfl k) ?_
    obtain ⟨x17, e_x17, hb18⟩ := ob2 hb16
    refine Sx.o (fun _ _ _ k => op_getR fX3_18 dX3_read_53 e_x17 k) ?_
    obtain ⟨x19, e_x19, hb20⟩ := ob2 hb18
    refine Sx.o (fun _ _ _ k => op_getI fX3_45 dX3_read_56 e_x19 k) ?_
    refine Sx.o (fun _ _ _ k => op_iconst (4 : Int32) dX3_read_59 (by decide) k) ?_
    refine Sx.bn (fun _ _ _ k1 k2 => ex_icmp_ne 65 dX3_read_60 (by decide) k1 k2) (fun q => ?_) (fun q => ?_)
    · have hb21 := iq q hb20
      exact (hg _ _ hb21).2.2.1 rfl
    · have hb22 := ip q hb20
      refine Sx.o (fun _ _ _ k => op_iconst (-1 : Int32) dX3_read_63 (by decide) k) ?_
      obtain rfl := Option.some.inj hb22
      exact Sx.r (fun _ _ _ k => ex_iret rfl dX3_read_64 k)
set_option maxHeartbeats 1000000 in
set_option maxRecDepth 100000 in
theorem Reader_read_65_t {g : (Nat × Int32 × Int32 × Int32 × Nat × am_H) → Option (Int32 × am_H)} (hg : ∀ s r, g s = some r → Reader_read_26_P s r) {v0 : Nat} {v1 : Int32} {v2 : Int32} {v3 : Int32} {h : am_H} {r : (Int32 × am_H)} (hb : Reader_read_65_b g v0 v1 v2 v3 h = some r) : Sx 90 mX3_read 65 [.ref v0, .int v1, .int v2, .int v3] [] h (some (.int r.1)) r.2 := by
  unfold Reader_read_65_b at hb
  refine Sx.o (fun _ _ _ k => ex_iload_n dX3_read_65 rfl k) ?_
  refine Sx.b (fun _ _ _ k1 k2 => ex_if_eq 78 dX3_read_66 (by decide) k1 k2) (fun q => ?_) (fun q => ?_)
  · have hb23 := ip q hb
    refine Sx.o (fun _ _ _ k => ex_aload_n dX3_read_78 rfl rfl k) ?_
    obtain ⟨x25, e_x25, hb26⟩ := ob2 hb23
    refine Sx.o (fun _ _ _ k => op_getR fX3_18 dX3_read_79 e_x25 k) ?_
    obtain ⟨x27, e_x27, hb28⟩ := ob2 hb26
    refine Sx.o (fun _ _ _ k => op_getI fX3_52 dX3_read_82 e_x27 k) ?_
    obtain rfl := Option.some.inj hb28
    exact Sx.r (fun _ _ _ k => ex_iret rfl dX3_read_85 k)
  · have hb24 := iq q hb
    refine Sx.o (fun _ _ _ k => ex_aload_n dX3_read_69 rfl rfl k) ?_
    refine Sx.o (fun _ _ _ k => op_bipush (59 : Int32) dX3_read_70 (by decide) k) ?_
    obtain ⟨r29, e_r29, hb30⟩ := ob2 hb24
    refine sx_callV (dc := 1) (as := [.int (59 : Int32)]) (stq := [.int r29.1]) (by omega) dX3_read_72 MX3_takeSign kX3_48 iX3_takeSign sX3_takeSign rfl rfl (Reader_takeSign_o e_r29) rfl rfl (Nat.le_of_ble_eq_true rfl) (Nat.le_of_ble_eq_true rfl) (Reader_takeSign_s e_r29) rfl ?_
    refine Sx.bn (fun _ _ _ k1 k2 => ex_if_ne 86 dX3_read_75 (by decide) k1 k2) (fun q => ?_) (fun q => ?_)
    · have hb32 := iq q hb30
      refine Sx.o (L' := [.ref v0, .int v1, .int (v2 + (1 : Int32)), .int v3]) (fun _ _ _ k => op_iinc (1 : Int32) dX3_read_86 (by decide) rfl (by decide) k) ?_
      refine Sx.o (fun _ _ _ k => ex_goto 26 dX3_read_89 (by decide) k) ?_
      refine Sx.fg [true, true, true, false] ?_
      exact (hg _ _ hb32).1 rfl
    · have hb33 := ip q hb30
      refine Sx.o (fun _ _ _ k => ex_aload_n dX3_read_78 rfl rfl k) ?_
      obtain ⟨x34, e_x34, hb35⟩ := ob2 hb33
      refine Sx.o (fun _ _ _ k => op_getR fX3_18 dX3_read_79 e_x34 k) ?_
      obtain ⟨x36, e_x36, hb37⟩ := ob2 hb35
      refine Sx.o (fun _ _ _ k => op_getI fX3_52 dX3_read_82 e_x36 k) ?_
      obtain rfl := Option.some.inj hb37
      exact Sx.r (fun _ _ _ k => ex_iret rfl dX3_read_85 k)
theorem Reader_read_26_T : ∀ s r, fx Reader_read_26_F Reader_read_26_M s = some r → Reader_read_26_P s r := fx_ind Reader_read_26_M Reader_read_26_P (fun g hg s r hb => by
  unfold Reader_read_26_F at hb
  exact ⟨fun q => Reader_read_26_t hg (ip q hb), fun q => Reader_read_47_t hg (ip q (iq (by rw [q]; decide) hb)), fun q => Reader_read_65_t hg (ip q (iq (by rw [q]; decide) (iq (by rw [q]; decide) hb))), trivial⟩)
set_option maxHeartbeats 1000000 in
set_option maxRecDepth 100000 in
theorem Reader_read_26_r {g : (Nat × Int32 × Int32 × Int32 × Nat × am_H) → Option (Int32 × am_H)} (hg : ∀ s r, g s = some r → Eqs s.2.2.2.2.2 r.2) {v0 : Nat} {v1 : Int32} {v2 : Int32} {h : am_H} {r : (Int32 × am_H)} (hb : Reader_read_26_b g v0 v1 v2 h = some r) : Eqs h r.2 := by
  unfold Reader_read_26_b at hb
  have w0 := Eqs.rf h
  by_cases q : (12 : Int32) ≤ v2
  · have hb1 := ip q hb
    obtain ⟨x3, e_x3, hb4⟩ := ob2 hb1
    obtain ⟨x5, e_x5, hb6⟩ := ob2 hb4
    obtain rfl := Option.some.inj hb6
    exact w0
  · have hb2 := iq q hb
    by_cases q : v1 = (0 : Int32)
    · have hb7 := ip q hb2
      obtain ⟨r9, e_r9, hb10⟩ := ob2 hb7
      have w11 := w0.tr (Reader_readRule_q e_r9)
      exact w11.tr (hg _ _ hb10)
    · have hb8 := iq q hb2
      obtain ⟨r12, e_r12, hb13⟩ := ob2 hb8
      have w14 := w0.tr (Reader_readOrder_q e_r12)
      exact w14.tr (hg _ _ hb13)
set_option maxHeartbeats 1000000 in
set_option maxRecDepth 100000 in
theorem Reader_read_47_r {g : (Nat × Int32 × Int32 × Int32 × Nat × am_H) → Option (Int32 × am_H)} (hg : ∀ s r, g s = some r → Eqs s.2.2.2.2.2 r.2) {v0 : Nat} {v1 : Int32} {v2 : Int32} {s0 : Int32} {h : am_H} {r : (Int32 × am_H)} (hb : Reader_read_47_b g v0 v1 v2 s0 h = some r) : Eqs h r.2 := by
  unfold Reader_read_47_b at hb
  have w0 := Eqs.rf h
  by_cases q : s0 = (0 : Int32)
  · have hb15 := ip q hb
    exact w0.tr (hg _ _ hb15)
  · have hb16 := iq q hb
    obtain ⟨x17, e_x17, hb18⟩ := ob2 hb16
    obtain ⟨x19, e_x19, hb20⟩ := ob2 hb18
    by_cases q : x19 = (4 : Int32)
    · have hb22 := ip q hb20
      obtain rfl := Option.some.inj hb22
      exact w0
    · have hb21 := iq q hb20
      exact w0.tr (hg _ _ hb21)
set_option maxHeartbeats 1000000 in
set_option maxRecDepth 100000 in
theorem Reader_read_65_r {g : (Nat × Int32 × Int32 × Int32 × Nat × am_H) → Option (Int32 × am_H)} (hg : ∀ s r, g s = some r → Eqs s.2.2.2.2.2 r.2) {v0 : Nat} {v1 : Int32} {v2 : Int32} {v3 : Int32} {h : am_H} {r : (Int32 × am_H)} (hb : Reader_read_65_b g v0 v1 v2 v3 h = some r) : Eqs h r.2 := by
  unfold Reader_read_65_b at hb
  have w0 := Eqs.rf h
  by_cases q : v3 = (0 : Int32)
  · have hb23 := ip q hb
    obtain ⟨x25, e_x25, hb26⟩ := ob2 hb23
    obtain ⟨x27, e_x27, hb28⟩ := ob2 hb26
    obtain rfl := Option.some.inj hb28
    exact w0
  · have hb24 := iq q hb
    obtain ⟨r29, e_r29, hb30⟩ := ob2 hb24
    have w31 := w0.tr (Reader_takeSign_q e_r29)
    by_cases q : r29.1 = (0 : Int32)
    · have hb33 := ip q hb30
      obtain ⟨x34, e_x34, hb35⟩ := ob2 hb33
      obtain ⟨x36, e_x36, hb37⟩ := ob2 hb35
      obtain rfl := Option.some.inj hb37
      exact w31
    · have hb32 := iq q hb30
      exact w31.tr (hg _ _ hb32)
theorem Reader_read_26_Q : ∀ s r, fx Reader_read_26_F Reader_read_26_M s = some r → Eqs s.2.2.2.2.2 r.2 := fx_ind Reader_read_26_M (fun s r => Eqs s.2.2.2.2.2 r.2) (fun g hg s r hb => by
  unfold Reader_read_26_F at hb
  by_cases q0 : s.1 = 26
  · exact Reader_read_26_r hg (ip q0 hb)
  · have hb0 := iq q0 hb
    by_cases q1 : s.1 = 47
    · exact Reader_read_47_r hg (ip q1 hb0)
    · have hb1 := iq q1 hb0
      by_cases q2 : s.1 = 65
      · exact Reader_read_65_r hg (ip q2 hb1)
      · have hb2 := iq q2 hb1
        exact nomatch hb2)
noncomputable def Reader_read_26 (v0 : Nat) (v1 : Int32) (v2 : Int32) (h : am_H) : Option (Int32 × am_H) := fx Reader_read_26_F Reader_read_26_M (26, v1, v2, 0, v0, h)
noncomputable def Reader_read_47 (v0 : Nat) (v1 : Int32) (v2 : Int32) (s0 : Int32) (h : am_H) : Option (Int32 × am_H) := fx Reader_read_26_F Reader_read_26_M (47, v1, v2, s0, v0, h)
noncomputable def Reader_read_65 (v0 : Nat) (v1 : Int32) (v2 : Int32) (v3 : Int32) (h : am_H) : Option (Int32 × am_H) := fx Reader_read_26_F Reader_read_26_M (65, v1, v2, v3, v0, h)
set_option maxHeartbeats 1000000 in
set_option maxRecDepth 100000 in
theorem Reader_read_26_e (v0 : Nat) (v1 : Int32) (v2 : Int32) (h : am_H) : Reader_read_26 v0 v1 v2 h = (if (12 : Int32) ≤ v2 then (gR h 3 v0 1).bind fun x3 => (gI h 8 x3 3).bind fun x5 => some (x5, h) else if v1 = (0 : Int32) then (Reader_readRule v0 h).bind fun r9 => Reader_read_47 v0 v1 v2 r9.1 r9.2 else (Reader_readOrder v0 h).bind fun r12 => Reader_read_47 v0 v1 v2 r12.1 r12.2) := (fx_eq Reader_read_26_M (26, v1, v2, 0, v0, h)).trans (if_pos rfl)
theorem Reader_read_26_q {v0 : Nat} {v1 : Int32} {v2 : Int32} {h : am_H} {r : (Int32 × am_H)} (hb : Reader_read_26 v0 v1 v2 h = some r) : Eqs h r.2 := Reader_read_26_Q _ _ hb
theorem Reader_read_26_s {v0 : Nat} {v1 : Int32} {v2 : Int32} {h : am_H} {r : (Int32 × am_H)} (hb : Reader_read_26 v0 v1 v2 h = some r) : Sx 90 mX3_read 26 [.ref v0, .int v1, .int v2, .retAddr 0] [] h (some (.int r.1)) r.2 := (Reader_read_26_T _ _ hb).1 rfl
set_option maxHeartbeats 1000000 in
set_option maxRecDepth 100000 in
theorem Reader_read_47_e (v0 : Nat) (v1 : Int32) (v2 : Int32) (s0 : Int32) (h : am_H) : Reader_read_47 v0 v1 v2 s0 h = (if s0 = (0 : Int32) then Reader_read_65 v0 v1 v2 s0 h else (gR h 3 v0 1).bind fun x17 => (gI h 8 x17 2).bind fun x19 => if x19 = (4 : Int32) then some ((-1 : Int32), h) else Reader_read_65 v0 v1 v2 s0 h) := (fx_eq Reader_read_26_M (47, v1, v2, s0, v0, h)).trans ((if_neg (show ¬ (47 : Nat) = 26 by decide)).trans (if_pos rfl))
theorem Reader_read_47_q {v0 : Nat} {v1 : Int32} {v2 : Int32} {s0 : Int32} {h : am_H} {r : (Int32 × am_H)} (hb : Reader_read_47 v0 v1 v2 s0 h = some r) : Eqs h r.2 := Reader_read_26_Q _ _ hb
theorem Reader_read_47_s {v0 : Nat} {v1 : Int32} {v2 : Int32} {s0 : Int32} {h : am_H} {r : (Int32 × am_H)} (hb : Reader_read_47 v0 v1 v2 s0 h = some r) : Sx 90 mX3_read 47 [.ref v0, .int v1, .int v2, .retAddr 0] [.int s0] h (some (.int r.1)) r.2 := (Reader_read_26_T _ _ hb).2.1 rfl
set_option maxHeartbeats 1000000 in
set_option maxRecDepth 100000 in
theorem Reader_read_65_e (v0 : Nat) (v1 : Int32) (v2 : Int32) (v3 : Int32) (h : am_H) : Reader_read_65 v0 v1 v2 v3 h = (if v3 = (0 : Int32) then (gR h 3 v0 1).bind fun x25 => (gI h 8 x25 3).bind fun x27 => some (x27, h) else (Reader_takeSign v0 (59 : Int32) h).bind fun r29 => if r29.1 = (0 : Int32) then (gR r29.2 3 v0 1).bind fun x34 => (gI r29.2 8 x34 3).bind fun x36 => some (x36, r29.2) else Reader_read_26 v0 v1 (v2 + (1 : Int32)) r29.2) := (fx_eq Reader_read_26_M (65, v1, v2, v3, v0, h)).trans ((if_neg (show ¬ (65 : Nat) = 26 by decide)).trans ((if_neg (show ¬ (65 : Nat) = 47 by decide)).trans (if_pos rfl)))
theorem Reader_read_65_q {v0 : Nat} {v1 : Int32} {v2 : Int32} {v3 : Int32} {h : am_H} {r : (Int32 × am_H)} (hb : Reader_read_65 v0 v1 v2 v3 h = some r) : Eqs h r.2 := Reader_read_26_Q _ _ hb
theorem Reader_read_65_s {v0 : Nat} {v1 : Int32} {v2 : Int32} {v3 : Int32} {h : am_H} {r : (Int32 × am_H)} (hb : Reader_read_65 v0 v1 v2 v3 h = some r) : Sx 90 mX3_read 65 [.ref v0, .int v1, .int v2, .int v3] [] h (some (.int r.1)) r.2 := (Reader_read_26_T _ _ hb).2.2.1 rfl
set_option maxHeartbeats 1000000 in
set_option maxRecDepth 100000 in
noncomputable def Reader_read (v0 : Nat) (v1 : Int32) (h : am_H) : Option (Int32 × am_H) := if isO h 3 v0 = true then (nrZ v1).bind fun u38 => (pV h 3 v0 2 (.int v1)).bind fun h40 => (pV h40 3 v0 3 (.int (0 : Int32))).bind fun h43 => (gR h43 3 v0 0).bind fun x46 => (Text_clear x46 h43).bind fun h48 => (gR h48 3 v0 1).bind fun x51 => (Tape_rewind x51 h48).bind fun h53 => Reader_read_26 v0 v1 (0 : Int32) h53 else none
set_option maxHeartbeats 1000000 in
set_option maxRecDepth 100000 in
theorem Reader_read_s {v0 : Nat} {v1 : Int32} {h : am_H} {r : (Int32 × am_H)} (hb : Reader_read v0 v1 h = some r) : Sx 90 mX3_read 0 (am_en [.ref v0, .int v1] 4) [] h (some (.int r.1)) r.2 := by
  unfold Reader_read at hb
  have hb := (iz hb).2
  show Sx 90 mX3_read 0 [.ref v0, .int v1, .retAddr 0, .retAddr 0] [] h (some (.int r.1)) r.2
  refine Sx.o (fun _ _ _ k => ex_aload_n dX3_read_0 rfl rfl k) ?_
  refine Sx.o (fun _ _ _ k => ex_iload_n dX3_read_1 rfl k) ?_
  obtain ⟨u38, e_u38, hb39⟩ := ob2 hb
  obtain ⟨h40, e_h40, hb41⟩ := ob2 hb39
  refine Sx.p (pV_q e_h40) (fun _ _ _ k => op_put pX3_22 dX3_read_2 e_h40 (fun _ => nrZ_n e_u38) (fun _ => nrZ_f e_u38) k) ?_
  refine Sx.o (fun _ _ _ k => ex_aload_n dX3_read_5 rfl rfl k) ?_
  refine Sx.o (fun _ _ _ k => op_iconst (0 : Int32) dX3_read_6 (by decide) k) ?_
  obtain ⟨h43, e_h43, hb44⟩ := ob2 hb41
  refine Sx.p (pV_q e_h43) (fun _ _ _ k => op_put pX3_26 dX3_read_7 e_h43 (fun _ => rfl) (fun _ => rfl) k) ?_
  refine Sx.o (fun _ _ _ k => ex_aload_n dX3_read_10 rfl rfl k) ?_
  obtain ⟨x46, e_x46, hb47⟩ := ob2 hb44
  refine Sx.o (fun _ _ _ k => op_getR fX3_12 dX3_read_11 e_x46 k) ?_
  obtain ⟨h48, e_h48, hb49⟩ := ob2 hb47
  refine sx_callV (dc := 0) (as := []) (stq := []) (by omega) dX3_read_14 MX9_clear kX3_30 iX9_clear sX9_clear rfl rfl (Text_clear_o e_h48) rfl rfl (Nat.le_of_ble_eq_true rfl) (Nat.le_of_ble_eq_true rfl) (Text_clear_s e_h48) rfl ?_
  refine Sx.o (fun _ _ _ k => ex_aload_n dX3_read_17 rfl rfl k) ?_
  obtain ⟨x51, e_x51, hb52⟩ := ob2 hb49
  refine Sx.o (fun _ _ _ k => op_getR fX3_18 dX3_read_18 e_x51 k) ?_
  obtain ⟨h53, e_h53, hb54⟩ := ob2 hb52
  refine sx_callV (dc := 1) (as := []) (stq := []) (by omega) dX3_read_21 MX8_rewind kX3_33 iX8_rewind sX8_rewind rfl rfl (Tape_rewind_o e_h53) rfl rfl (Nat.le_of_ble_eq_true rfl) (Nat.le_of_ble_eq_true rfl) (Tape_rewind_s e_h53) rfl ?_
  refine Sx.o (fun _ _ _ k => op_iconst (0 : Int32) dX3_read_24 (by decide) k) ?_
  refine Sx.o (L' := [.ref v0, .int v1, .int (0 : Int32), .retAddr 0]) (fun _ _ _ k => ex_istore_n dX3_read_25 (by decide) k) ?_
  exact Reader_read_26_s hb54
set_option maxHeartbeats 1000000 in
set_option maxRecDepth 100000 in
theorem Reader_read_q {v0 : Nat} {v1 : Int32} {h : am_H} {r : (Int32 × am_H)} (hb : Reader_read v0 v1 h = some r) : Eqs h r.2 := by
  unfold Reader_read at hb
  have hb := (iz hb).2
  have w0 := Eqs.rf h
  obtain ⟨u38, e_u38, hb39⟩ := ob2 hb
  obtain ⟨h40, e_h40, hb41⟩ := ob2 hb39
  have w42 := w0.tr (pV_q e_h40)
  obtain ⟨h43, e_h43, hb44⟩ := ob2 hb41
  have w45 := w42.tr (pV_q e_h43)
  obtain ⟨x46, e_x46, hb47⟩ := ob2 hb44
  obtain ⟨h48, e_h48, hb49⟩ := ob2 hb47
  have w50 := w45.tr (Text_clear_q e_h48)
  obtain ⟨x51, e_x51, hb52⟩ := ob2 hb49
  obtain ⟨h53, e_h53, hb54⟩ := ob2 hb52
  have w55 := w50.tr (Tape_rewind_q e_h53)
  exact w55.tr (Reader_read_26_q hb54)
theorem Reader_read_o {v0 : Nat} {v1 : Int32} {h : am_H} {r : (Int32 × am_H)} (hb : Reader_read v0 v1 h = some r) : isO h 3 v0 = true := by
  unfold Reader_read at hb
  exact (iz hb).1
