/-! Hands: its methods as functions (by wip/whole/dec.py) -/
set_option maxHeartbeats 1000000 in
set_option maxRecDepth 100000 in
noncomputable def Hands_lift (v0 : Nat) (v1 : Int32) (v2 : Int32) (h : am_H) : Option (Int32 × am_H) := if isO h 1 v0 = true then (gR h 1 v0 1).bind fun x1 => (Table_at x1 v1 h).bind fun x3 => if x3 = none then some ((-2 : Int32), h) else (x3).bind fun x7 => if v2 < (1 : Int32) then some ((-1 : Int32), h) else (gI h 4 x7 1).bind fun x11 => if v2 ≤ x11 then (gR h 1 v0 2).bind fun x15 => (Past_keep x15 (2 : Int32) x7 h).bind fun h17 => (Row_lower x7 v2 h17).bind fun h20 => (Row_card x7 (0 : Int32) h20).bind fun x23 => some (x23, h20) else some ((-1 : Int32), h) else none
set_option maxHeartbeats 1000000 in
set_option maxRecDepth 100000 in
theorem Hands_lift_s {v0 : Nat} {v1 : Int32} {v2 : Int32} {h : am_H} {r : (Int32 × am_H)} (hb : Hands_lift v0 v1 v2 h = some r) : Sx 3 mX1_lift 0 (am_en [.ref v0, .int v1, .int v2] 4) [] h (some (.int r.1)) r.2 := by
  unfold Hands_lift at hb
  have hb := (iz hb).2
  show Sx 3 mX1_lift 0 [.ref v0, .int v1, .int v2, .retAddr 0] [] h (some (.int r.1)) r.2
  refine Sx.o (fun _ _ _ k => ex_aload_n dX1_lift_0 rfl rfl k) ?_
  obtain ⟨x1, e_x1, hb2⟩ := ob2 hb
  refine Sx.o (fun _ _ _ k => op_getR fX1_33 dX1_lift_1 e_x1 k) ?_
  refine Sx.o (fun _ _ _ k => ex_iload_n dX1_lift_4 rfl k) ?_
  obtain ⟨x3, e_x3, hb4⟩ := ob2 hb2
  refine sx_callV (dc := 0) (as := [.int v1]) (stq := [va_rf x3]) (by omega) dX1_lift_5 MX7_at kX1_43 iX7_at sX7_at rfl rfl (Table_at_o e_x3) rfl rfl (Nat.le_of_ble_eq_true rfl) (Nat.le_of_ble_eq_true rfl) (Table_at_s e_x3) rfl ?_
  refine Sx.o (L' := [.ref v0, .int v1, .int v2, va_rf x3]) (fun _ _ _ k => ex_astore_n dX1_lift_8 (am_rfv _) (by decide) k) ?_
  refine Sx.o (fun _ _ _ k => ex_aload_n dX1_lift_9 rfl (am_rfv _) k) ?_
  refine Sx.bn (fun _ _ _ k1 k2 => op_ifnonnull (r := x3) 16 dX1_lift_10 (by decide) k1 k2) (fun q => ?_) (fun q => ?_)
  · have hb5 := iq q hb4
    obtain ⟨x7, e_x7, hb8⟩ := ob2 hb5
    subst e_x7
    refine Sx.o (fun _ _ _ k => ex_iload_n dX1_lift_16 rfl k) ?_
    refine Sx.o (fun _ _ _ k => op_iconst (1 : Int32) dX1_lift_17 (by decide) k) ?_
    refine Sx.b (fun _ _ _ k1 k2 => ex_icmp_lt 29 dX1_lift_18 (by decide) k1 k2) (fun q => ?_) (fun q => ?_)
    · have hb9 := ip q hb8
      refine Sx.o (fun _ _ _ k => op_iconst (-1 : Int32) dX1_lift_29 (by decide) k) ?_
      obtain rfl := Option.some.inj hb9
      exact Sx.r (fun _ _ _ k => ex_iret rfl dX1_lift_30 k)
    · have hb10 := iq q hb8
      refine Sx.o (fun _ _ _ k => ex_iload_n dX1_lift_21 rfl k) ?_
      refine Sx.o (fun _ _ _ k => ex_aload_n dX1_lift_22 rfl rfl k) ?_
      obtain ⟨x11, e_x11, hb12⟩ := ob2 hb10
      refine Sx.o (fun _ _ _ k => op_getI fX1_78 dX1_lift_23 e_x11 k) ?_
      refine Sx.b (fun _ _ _ k1 k2 => ex_icmp_le 31 dX1_lift_26 (by decide) k1 k2) (fun q => ?_) (fun q => ?_)
      · have hb13 := ip q hb12
        refine Sx.o (fun _ _ _ k => ex_aload_n dX1_lift_31 rfl rfl k) ?_
        obtain ⟨x15, e_x15, hb16⟩ := ob2 hb13
        refine Sx.o (fun _ _ _ k => op_getR fX1_36 dX1_lift_32 e_x15 k) ?_
        refine Sx.o (fun _ _ _ k => op_iconst (2 : Int32) dX1_lift_35 (by decide) k) ?_
        refine Sx.o (fun _ _ _ k => ex_aload_n dX1_lift_36 rfl rfl k) ?_
        obtain ⟨h17, e_h17, hb18⟩ := ob2 hb16
        refine sx_callV (dc := 2) (as := [.int (2 : Int32), .ref x7]) (stq := []) (by omega) dX1_lift_37 MX2_keep kX1_53 iX2_keep sX2_keep rfl rfl (Past_keep_o e_h17) rfl rfl (Nat.le_of_ble_eq_true rfl) (Nat.le_of_ble_eq_true rfl) (Past_keep_s e_h17) rfl ?_
        refine Sx.o (fun _ _ _ k => ex_aload_n dX1_lift_40 rfl rfl k) ?_
        refine Sx.o (fun _ _ _ k => ex_iload_n dX1_lift_41 rfl k) ?_
        obtain ⟨h20, e_h20, hb21⟩ := ob2 hb18
        refine sx_callV (dc := 2) (as := [.int v2]) (stq := []) (by omega) dX1_lift_42 MX4_lower kX1_81 iX4_lower sX4_lower rfl rfl (Row_lower_o e_h20) rfl rfl (Nat.le_of_ble_eq_true rfl) (Nat.le_of_ble_eq_true rfl) (Row_lower_s e_h20) rfl ?_
        refine Sx.o (fun _ _ _ k => ex_aload_n dX1_lift_45 rfl rfl k) ?_
        refine Sx.o (fun _ _ _ k => op_iconst (0 : Int32) dX1_lift_46 (by decide) k) ?_
        obtain ⟨x23, e_x23, hb24⟩ := ob2 hb21
        refine sx_callV (dc := 0) (as := [.int (0 : Int32)]) (stq := [.int x23]) (by omega) dX1_lift_47 MX4_card kX1_74 iX4_card sX4_card rfl rfl (Row_card_o e_x23) rfl rfl (Nat.le_of_ble_eq_true rfl) (Nat.le_of_ble_eq_true rfl) (Row_card_s e_x23) rfl ?_
        obtain rfl := Option.some.inj hb24
        exact Sx.r (fun _ _ _ k => ex_iret rfl dX1_lift_50 k)
      · have hb14 := iq q hb12
        refine Sx.o (fun _ _ _ k => op_iconst (-1 : Int32) dX1_lift_29 (by decide) k) ?_
        obtain rfl := Option.some.inj hb14
        exact Sx.r (fun _ _ _ k => ex_iret rfl dX1_lift_30 k)
  · have hb6 := ip q hb4
    refine Sx.o (fun _ _ _ k => op_bipush (-2 : Int32) dX1_lift_13 (by decide) k) ?_
    obtain rfl := Option.some.inj hb6
    exact Sx.r (fun _ _ _ k => ex_iret rfl dX1_lift_15 k)
set_option maxHeartbeats 1000000 in
set_option maxRecDepth 100000 in
theorem Hands_lift_q {v0 : Nat} {v1 : Int32} {v2 : Int32} {h : am_H} {r : (Int32 × am_H)} (hb : Hands_lift v0 v1 v2 h = some r) : Eqs h r.2 := by
  unfold Hands_lift at hb
  have hb := (iz hb).2
  have w0 := Eqs.rf h
  obtain ⟨x1, e_x1, hb2⟩ := ob2 hb
  obtain ⟨x3, e_x3, hb4⟩ := ob2 hb2
  by_cases q : x3 = none
  · have hb6 := ip q hb4
    obtain rfl := Option.some.inj hb6
    exact w0
  · have hb5 := iq q hb4
    obtain ⟨x7, e_x7, hb8⟩ := ob2 hb5
    subst e_x7
    by_cases q : v2 < (1 : Int32)
    · have hb9 := ip q hb8
      obtain rfl := Option.some.inj hb9
      exact w0
    · have hb10 := iq q hb8
      obtain ⟨x11, e_x11, hb12⟩ := ob2 hb10
      by_cases q : v2 ≤ x11
      · have hb13 := ip q hb12
        obtain ⟨x15, e_x15, hb16⟩ := ob2 hb13
        obtain ⟨h17, e_h17, hb18⟩ := ob2 hb16
        have w19 := w0.tr (Past_keep_q e_h17)
        obtain ⟨h20, e_h20, hb21⟩ := ob2 hb18
        have w22 := w19.tr (Row_lower_q e_h20)
        obtain ⟨x23, e_x23, hb24⟩ := ob2 hb21
        obtain rfl := Option.some.inj hb24
        exact w22
      · have hb14 := iq q hb12
        obtain rfl := Option.some.inj hb14
        exact w0
theorem Hands_lift_o {v0 : Nat} {v1 : Int32} {v2 : Int32} {h : am_H} {r : (Int32 × am_H)} (hb : Hands_lift v0 v1 v2 h = some r) : isO h 1 v0 = true := by
  unfold Hands_lift at hb
  exact (iz hb).1
set_option maxHeartbeats 1000000 in
set_option maxRecDepth 100000 in
noncomputable def Hands_init (v0 : Nat) (v1 : Nat) (v2 : Nat) (v3 : Nat) (h : am_H) : Option am_H := if isO h 1 v0 = true then (pV h 1 v0 0 (.int (-1 : Int32))).bind fun h1 => (some (h1 ++ [.inr (7, [.int 0, .int 0, .int 0, .int 0, .int 0, .int 0, .null, .null, .null, .null])])).bind fun h4 => (Table_init (List.length h1) h4).bind fun h6 => (pV h6 1 v0 4 (.ref (List.length h1))).bind fun h8 => (some (h8 ++ [.inr (2, [.int 0, .int 0, .null, .null])])).bind fun h11 => (Past_init (List.length h8) h11).bind fun h13 => (pV h13 1 v0 5 (.ref (List.length h8))).bind fun h15 => (nA h15 0 (21 : Int32)).bind fun h18 => (pV h18 1 v0 6 (.ref (List.length h15))).bind fun h20 => (pV h20 1 v0 1 (.ref v1)).bind fun h23 => (pV h23 1 v0 2 (.ref v2)).bind fun h26 => (pV h26 1 v0 3 (.ref v3)).bind fun h29 => some h29 else none
set_option maxHeartbeats 1000000 in
set_option maxRecDepth 100000 in
theorem Hands_init_s {v0 : Nat} {v1 : Nat} {v2 : Nat} {v3 : Nat} {h : am_H} {r : am_H} (hb : Hands_init v0 v1 v2 v3 h = some r) : Sx 3 mX1_init 0 (am_en [.ref v0, .ref v1, .ref v2, .ref v3] 4) [] h none r := by
  unfold Hands_init at hb
  have hb := (iz hb).2
  show Sx 3 mX1_init 0 [.ref v0, .ref v1, .ref v2, .ref v3] [] h none r
  refine Sx.o (fun _ _ _ k => ex_aload_n dX1_init_0 rfl rfl k) ?_
  refine Sx.o (fun _ _ _ k => op_obj (by omega) dX1_init_1 kX1_3 (Nat.le_of_ble_eq_true rfl) k) ?_
  refine Sx.o (fun _ _ _ k => ex_aload_n dX1_init_4 rfl rfl k) ?_
  refine Sx.o (fun _ _ _ k => op_iconst (-1 : Int32) dX1_init_5 (by decide) k) ?_
  obtain ⟨h1, e_h1, hb2⟩ := ob2 hb
  refine Sx.p (pV_q e_h1) (fun _ _ _ k => op_put pX1_9 dX1_init_6 e_h1 (fun _ => rfl) (fun _ => rfl) k) ?_
  refine Sx.o (fun _ _ _ k => ex_aload_n dX1_init_9 rfl rfl k) ?_
  obtain ⟨h4, e_h4, hb5⟩ := ob2 hb2
  have e2_h4 := Option.some.inj e_h4
  refine Sx.nw (N := 10) rfl (fun _ _ _ k => ex_new nX1_15 dX1_init_10 k) ?_
  rw [e2_h4]
  refine Sx.o (fun _ _ _ k => ex_dup dX1_init_13 rfl k) ?_
  obtain ⟨h6, e_h6, hb7⟩ := ob2 hb5
  refine sx_callI (as := []) (by omega) dX1_init_14 MX7_init rfl rfl kX1_17 iX7_init rfl rfl (Nat.le_of_ble_eq_true rfl) (Nat.le_of_ble_eq_true rfl) (Table_init_s e_h6) ?_
  obtain ⟨h8, e_h8, hb9⟩ := ob2 hb7
  refine Sx.p (pV_q e_h8) (fun _ _ _ k => op_putF pX1_18 (fun r hr => by cases hr; rfl) rfl dX1_init_17 e_h8 (fun _ => rfl) (fun _ => rfl) k) ?_
  refine Sx.o (fun _ _ _ k => ex_aload_n dX1_init_20 rfl rfl k) ?_
  obtain ⟨h11, e_h11, hb12⟩ := ob2 hb9
  have e2_h11 := Option.some.inj e_h11
  refine Sx.nw (N := 4) rfl (fun _ _ _ k => ex_new nX1_22 dX1_init_21 k) ?_
  rw [e2_h11]
  refine Sx.o (fun _ _ _ k => ex_dup dX1_init_24 rfl k) ?_
  obtain ⟨h13, e_h13, hb14⟩ := ob2 hb12
  refine sx_callI (as := []) (by omega) dX1_init_25 MX2_init rfl rfl kX1_24 iX2_init rfl rfl (Nat.le_of_ble_eq_true rfl) (Nat.le_of_ble_eq_true rfl) (Past_init_s e_h13) ?_
  obtain ⟨h15, e_h15, hb16⟩ := ob2 hb14
  refine Sx.p (pV_q e_h15) (fun _ _ _ k => op_putF pX1_25 (fun r hr => by cases hr; rfl) rfl dX1_init_28 e_h15 (fun _ => rfl) (fun _ => rfl) k) ?_
  refine Sx.o (fun _ _ _ k => ex_aload_n dX1_init_31 rfl rfl k) ?_
  refine Sx.o (fun _ _ _ k => op_bipush (21 : Int32) dX1_init_32 (by decide) k) ?_
  obtain ⟨h18, e_h18, hb19⟩ := ob2 hb16
  refine sx_newa (t := 0) (fun _ _ _ N c1 c2 c3 kk => ex_newa0 a_int dX1_init_34 c1 c2 c3 kk) e_h18 ?_
  obtain ⟨h20, e_h20, hb21⟩ := ob2 hb19
  refine Sx.p (pV_q e_h20) (fun _ _ _ k => op_putF pX1_29 (fun r hr => by cases hr; rfl) rfl dX1_init_36 e_h20 (fun _ => rfl) (fun _ => rfl) k) ?_
  refine Sx.o (fun _ _ _ k => ex_aload_n dX1_init_39 rfl rfl k) ?_
  refine Sx.o (fun _ _ _ k => ex_aload_n dX1_init_40 rfl rfl k) ?_
  obtain ⟨h23, e_h23, hb24⟩ := ob2 hb21
  refine Sx.p (pV_q e_h23) (fun _ _ _ k => op_putF pX1_33 (fun r hr => by cases hr; rfl) rfl dX1_init_41 e_h23 (fun _ => rfl) (fun _ => rfl) k) ?_
  refine Sx.o (fun _ _ _ k => ex_aload_n dX1_init_44 rfl rfl k) ?_
  refine Sx.o (fun _ _ _ k => ex_aload_n dX1_init_45 rfl rfl k) ?_
  obtain ⟨h26, e_h26, hb27⟩ := ob2 hb24
  refine Sx.p (pV_q e_h26) (fun _ _ _ k => op_putF pX1_36 (fun r hr => by cases hr; rfl) rfl dX1_init_46 e_h26 (fun _ => rfl) (fun _ => rfl) k) ?_
  refine Sx.o (fun _ _ _ k => ex_aload_n dX1_init_49 rfl rfl k) ?_
  refine Sx.o (fun _ _ _ k => ex_aload_n dX1_init_50 rfl rfl k) ?_
  obtain ⟨h29, e_h29, hb30⟩ := ob2 hb27
  refine Sx.p (pV_q e_h29) (fun _ _ _ k => op_putF pX1_39 (fun r hr => by cases hr; rfl) rfl dX1_init_51 e_h29 (fun _ => rfl) (fun _ => rfl) k) ?_
  obtain rfl := Option.some.inj hb30
  exact Sx.r (fun _ _ _ k => ex_vret rfl dX1_init_54 k)
theorem Hands_init_o {v0 : Nat} {v1 : Nat} {v2 : Nat} {v3 : Nat} {h : am_H} {r : am_H} (hb : Hands_init v0 v1 v2 v3 h = some r) : isO h 1 v0 = true := by
  unfold Hands_init at hb
  exact (iz hb).1
set_option maxHeartbeats 1000000 in
set_option maxRecDepth 100000 in
noncomputable def Hands_exchange (v0 : Nat) (v1 : Int32) (v2 : Int32) (v3 : Int32) (h : am_H) : Option (Int32 × am_H) := if isO h 1 v0 = true then (gR h 1 v0 1).bind fun x1 => (Table_at x1 v1 h).bind fun x3 => if x3 = none then some ((-2 : Int32), h) else (x3).bind fun x7 => if v2 = v3 then some ((-1 : Int32), h) else (Row_has x7 v2 h).bind fun x11 => if x11 = (0 : Int32) then some ((-1 : Int32), h) else (Row_has x7 v3 h).bind fun x15 => if x15 = (0 : Int32) then some ((-1 : Int32), h) else (gR h 1 v0 2).bind fun x19 => (Past_keep x19 (1 : Int32) x7 h).bind fun h21 => (Row_exchange x7 v2 v3 h21).bind fun h24 => (Row_card x7 (0 : Int32) h24).bind fun x27 => some (x27, h24) else none
set_option maxHeartbeats 1000000 in
set_option maxRecDepth 100000 in
theorem Hands_exchange_s {v0 : Nat} {v1 : Int32} {v2 : Int32} {v3 : Int32} {h : am_H} {r : (Int32 × am_H)} (hb : Hands_exchange v0 v1 v2 v3 h = some r) : Sx 3 mX1_exchange 0 (am_en [.ref v0, .int v1, .int v2, .int v3] 5) [] h (some (.int r.1)) r.2 := by
  unfold Hands_exchange at hb
  have hb := (iz hb).2
  show Sx 3 mX1_exchange 0 [.ref v0, .int v1, .int v2, .int v3, .retAddr 0] [] h (some (.int r.1)) r.2
  refine Sx.o (fun _ _ _ k => ex_aload_n dX1_exchange_0 rfl rfl k) ?_
  obtain ⟨x1, e_x1, hb2⟩ := ob2 hb
  refine Sx.o (fun _ _ _ k => op_getR fX1_33 dX1_exchange_1 e_x1 k) ?_
  refine Sx.o (fun _ _ _ k => ex_iload_n dX1_exchange_4 rfl k) ?_
  obtain ⟨x3, e_x3, hb4⟩ := ob2 hb2
  refine sx_callV (dc := 0) (as := [.int v1]) (stq := [va_rf x3]) (by omega) dX1_exchange_5 MX7_at kX1_43 iX7_at sX7_at rfl rfl (Table_at_o e_x3) rfl rfl (Nat.le_of_ble_eq_true rfl) (Nat.le_of_ble_eq_true rfl) (Table_at_s e_x3) rfl ?_
  refine Sx.o (L' := [.ref v0, .int v1, .int v2, .int v3, va_rf x3]) (fun _ _ _ k => ex_astore dX1_exchange_8 (am_rfv _) (by decide) k) ?_
  refine Sx.o (fun _ _ _ k => ex_aload dX1_exchange_10 rfl (am_rfv _) k) ?_
  refine Sx.bn (fun _ _ _ k1 k2 => op_ifnonnull (r := x3) 18 dX1_exchange_12 (by decide) k1 k2) (fun q => ?_) (fun q => ?_)
  · have hb5 := iq q hb4
    obtain ⟨x7, e_x7, hb8⟩ := ob2 hb5
    subst e_x7
    refine Sx.o (fun _ _ _ k => ex_iload_n dX1_exchange_18 rfl k) ?_
    refine Sx.o (fun _ _ _ k => ex_iload_n dX1_exchange_19 rfl k) ?_
    refine Sx.b (fun _ _ _ k1 k2 => ex_icmp_eq 41 dX1_exchange_20 (by decide) k1 k2) (fun q => ?_) (fun q => ?_)
    · have hb9 := ip q hb8
      refine Sx.o (fun _ _ _ k => op_iconst (-1 : Int32) dX1_exchange_41 (by decide) k) ?_
      obtain rfl := Option.some.inj hb9
      exact Sx.r (fun _ _ _ k => ex_iret rfl dX1_exchange_42 k)
    · have hb10 := iq q hb8
      refine Sx.o (fun _ _ _ k => ex_aload dX1_exchange_23 rfl rfl k) ?_
      refine Sx.o (fun _ _ _ k => ex_iload_n dX1_exchange_25 rfl k) ?_
      obtain ⟨x11, e_x11, hb12⟩ := ob2 hb10
      refine sx_callV (dc := 0) (as := [.int v2]) (stq := [.int x11]) (by omega) dX1_exchange_26 MX4_has kX1_66 iX4_has sX4_has rfl rfl (Row_has_o e_x11) rfl rfl (Nat.le_of_ble_eq_true rfl) (Nat.le_of_ble_eq_true rfl) (Row_has_s e_x11) rfl ?_
      refine Sx.b (fun _ _ _ k1 k2 => ex_if_eq 41 dX1_exchange_29 (by decide) k1 k2) (fun q => ?_) (fun q => ?_)
      · have hb13 := ip q hb12
        refine Sx.o (fun _ _ _ k => op_iconst (-1 : Int32) dX1_exchange_41 (by decide) k) ?_
        obtain rfl := Option.some.inj hb13
        exact Sx.r (fun _ _ _ k => ex_iret rfl dX1_exchange_42 k)
      · have hb14 := iq q hb12
        refine Sx.o (fun _ _ _ k => ex_aload dX1_exchange_32 rfl rfl k) ?_
        refine Sx.o (fun _ _ _ k => ex_iload_n dX1_exchange_34 rfl k) ?_
        obtain ⟨x15, e_x15, hb16⟩ := ob2 hb14
        refine sx_callV (dc := 0) (as := [.int v3]) (stq := [.int x15]) (by omega) dX1_exchange_35 MX4_has kX1_66 iX4_has sX4_has rfl rfl (Row_has_o e_x15) rfl rfl (Nat.le_of_ble_eq_true rfl) (Nat.le_of_ble_eq_true rfl) (Row_has_s e_x15) rfl ?_
        refine Sx.bn (fun _ _ _ k1 k2 => ex_if_ne 43 dX1_exchange_38 (by decide) k1 k2) (fun q => ?_) (fun q => ?_)
        · have hb17 := iq q hb16
          refine Sx.o (fun _ _ _ k => ex_aload_n dX1_exchange_43 rfl rfl k) ?_
          obtain ⟨x19, e_x19, hb20⟩ := ob2 hb17
          refine Sx.o (fun _ _ _ k => op_getR fX1_36 dX1_exchange_44 e_x19 k) ?_
          refine Sx.o (fun _ _ _ k => op_iconst (1 : Int32) dX1_exchange_47 (by decide) k) ?_
          refine Sx.o (fun _ _ _ k => ex_aload dX1_exchange_48 rfl rfl k) ?_
          obtain ⟨h21, e_h21, hb22⟩ := ob2 hb20
          refine sx_callV (dc := 2) (as := [.int (1 : Int32), .ref x7]) (stq := []) (by omega) dX1_exchange_50 MX2_keep kX1_53 iX2_keep sX2_keep rfl rfl (Past_keep_o e_h21) rfl rfl (Nat.le_of_ble_eq_true rfl) (Nat.le_of_ble_eq_true rfl) (Past_keep_s e_h21) rfl ?_
          refine Sx.o (fun _ _ _ k => ex_aload dX1_exchange_53 rfl rfl k) ?_
          refine Sx.o (fun _ _ _ k => ex_iload_n dX1_exchange_55 rfl k) ?_
          refine Sx.o (fun _ _ _ k => ex_iload_n dX1_exchange_56 rfl k) ?_
          obtain ⟨h24, e_h24, hb25⟩ := ob2 hb22
          refine sx_callV (dc := 1) (as := [.int v2, .int v3]) (stq := []) (by omega) dX1_exchange_57 MX4_exchange kX1_70 iX4_exchange sX4_exchange rfl rfl (Row_exchange_o e_h24) rfl rfl (Nat.le_of_ble_eq_true rfl) (Nat.le_of_ble_eq_true rfl) (Row_exchange_s e_h24) rfl ?_
          refine Sx.o (fun _ _ _ k => ex_aload dX1_exchange_60 rfl rfl k) ?_
          refine Sx.o (fun _ _ _ k => op_iconst (0 : Int32) dX1_exchange_62 (by decide) k) ?_
          obtain ⟨x27, e_x27, hb28⟩ := ob2 hb25
          refine sx_callV (dc := 0) (as := [.int (0 : Int32)]) (stq := [.int x27]) (by omega) dX1_exchange_63 MX4_card kX1_74 iX4_card sX4_card rfl rfl (Row_card_o e_x27) rfl rfl (Nat.le_of_ble_eq_true rfl) (Nat.le_of_ble_eq_true rfl) (Row_card_s e_x27) rfl ?_
          obtain rfl := Option.some.inj hb28
          exact Sx.r (fun _ _ _ k => ex_iret rfl dX1_exchange_66 k)
        · have hb18 := ip q hb16
          refine Sx.o (fun _ _ _ k => op_iconst (-1 : Int32) dX1_exchange_41 (by decide) k) ?_
          obtain rfl := Option.some.inj hb18
          exact Sx.r (fun _ _ _ k => ex_iret rfl dX1_exchange_42 k)
  · have hb6 := ip q hb4
    refine Sx.o (fun _ _ _ k => op_bipush (-2 : Int32) dX1_exchange_15 (by decide) k) ?_
    obtain rfl := Option.some.inj hb6
    exact Sx.r (fun _ _ _ k => ex_iret rfl dX1_exchange_17 k)
set_option maxHeartbeats 1000000 in
set_option maxRecDepth 100000 in
theorem Hands_exchange_q {v0 : Nat} {v1 : Int32} {v2 : Int32} {v3 : Int32} {h : am_H} {r : (Int32 × am_H)} (hb : Hands_exchange v0 v1 v2 v3 h = some r) : Eqs h r.2 := by
  unfold Hands_exchange at hb
  have hb := (iz hb).2
  have w0 := Eqs.rf h
  obtain ⟨x1, e_x1, hb2⟩ := ob2 hb
  obtain ⟨x3, e_x3, hb4⟩ := ob2 hb2
  by_cases q : x3 = none
  · have hb6 := ip q hb4
    obtain rfl := Option.some.inj hb6
    exact w0
  · have hb5 := iq q hb4
    obtain ⟨x7, e_x7, hb8⟩ := ob2 hb5
    subst e_x7
    by_cases q : v2 = v3
    · have hb9 := ip q hb8
      obtain rfl := Option.some.inj hb9
      exact w0
    · have hb10 := iq q hb8
      obtain ⟨x11, e_x11, hb12⟩ := ob2 hb10
      by_cases q : x11 = (0 : Int32)
      · have hb13 := ip q hb12
        obtain rfl := Option.some.inj hb13
        exact w0
      · have hb14 := iq q hb12
        obtain ⟨x15, e_x15, hb16⟩ := ob2 hb14
        by_cases q : x15 = (0 : Int32)
        · have hb18 := ip q hb16
          obtain rfl := Option.some.inj hb18
          exact w0
        · have hb17 := iq q hb16
          obtain ⟨x19, e_x19, hb20⟩ := ob2 hb17
          obtain ⟨h21, e_h21, hb22⟩ := ob2 hb20
          have w23 := w0.tr (Past_keep_q e_h21)
          obtain ⟨h24, e_h24, hb25⟩ := ob2 hb22
          have w26 := w23.tr (Row_exchange_q e_h24)
          obtain ⟨x27, e_x27, hb28⟩ := ob2 hb25
          obtain rfl := Option.some.inj hb28
          exact w26
theorem Hands_exchange_o {v0 : Nat} {v1 : Int32} {v2 : Int32} {v3 : Int32} {h : am_H} {r : (Int32 × am_H)} (hb : Hands_exchange v0 v1 v2 v3 h = some r) : isO h 1 v0 = true := by
  unfold Hands_exchange at hb
  exact (iz hb).1
set_option maxHeartbeats 1000000 in
set_option maxRecDepth 100000 in
noncomputable def Hands_fillWords_35_b (g : (Nat × Int32 × Int32 × Int32 × Int32 × Nat × Nat × (Option Nat) × am_H) → Option am_H) (v0 : Nat) (v1 : Int32) (h : am_H) : Option am_H := if (6 : Int32) ≤ v1 then some h else (gR h 1 v0 1).bind fun x3 => (Table_at x3 v1 h).bind fun x5 => (gR h 1 v0 6).bind fun x7 => if x5 = none then g (72, v1, ((3 : Int32) + v1), (-1 : Int32), ((3 : Int32) + v1), v0, x7, x5, h) else (x5).bind fun x11 => (Row_card x11 (0 : Int32) h).bind fun x13 => g (72, v1, ((3 : Int32) + v1), x13, ((3 : Int32) + v1), v0, x7, (some x11), h)
set_option maxHeartbeats 1000000 in
set_option maxRecDepth 100000 in
theorem Hands_fillWords_35_m {g g2 : (Nat × Int32 × Int32 × Int32 × Int32 × Nat × Nat × (Option Nat) × am_H) → Option am_H} (hg : ∀ s, Le (g s) (g2 s)) (v0 : Nat) (v1 : Int32) (h : am_H) : Le (Hands_fillWords_35_b g v0 v1 h) (Hands_fillWords_35_b g2 v0 v1 h) := by unfold Hands_fillWords_35_b; exact le_i (le_r _) (le_b (le_r _) fun x3 => le_b (le_r _) fun x5 => le_b (le_r _) fun x7 => le_i (hg _) (le_b (le_r _) fun x11 => le_b (le_r _) fun x13 => hg _))
set_option maxHeartbeats 1000000 in
set_option maxRecDepth 100000 in
noncomputable def Hands_fillWords_72_b (g : (Nat × Int32 × Int32 × Int32 × Int32 × Nat × Nat × (Option Nat) × am_H) → Option am_H) (v0 : Nat) (v1 : Int32) (v2 : Option Nat) (v3 : Int32) (s0 : Int32) (s1 : Int32) (s2 : Nat) (h : am_H) : Option am_H := (sI h s2 s1 s0).bind fun h15 => (gR h15 1 v0 6).bind fun x18 => if v2 = none then g (93, v1, v3, (-1 : Int32), (v3 + (6 : Int32)), v0, x18, v2, h15) else (v2).bind fun x22 => (gI h15 4 x22 2).bind fun x24 => g (93, v1, v3, x24, (v3 + (6 : Int32)), v0, x18, (some x22), h15)
set_option maxHeartbeats 1000000 in
set_option maxRecDepth 100000 in
theorem Hands_fillWords_72_m {g g2 : (Nat × Int32 × Int32 × Int32 × Int32 × Nat × Nat × (Option Nat) × am_H) → Option am_H} (hg : ∀ s, Le (g s) (g2 s)) (v0 : Nat) (v1 : Int32) (v2 : Option Nat) (v3 : Int32) (s0 : Int32) (s1 : Int32) (s2 : Nat) (h : am_H) : Le (Hands_fillWords_72_b g v0 v1 v2 v3 s0 s1 s2 h) (Hands_fillWords_72_b g2 v0 v1 v2 v3 s0 s1 s2 h) := by unfold Hands_fillWords_72_b; exact le_b (le_r _) fun h15 => le_b (le_r _) fun x18 => le_i (hg _) (le_b (le_r _) fun x22 => le_b (le_r _) fun x24 => hg _)
set_option maxHeartbeats 1000000 in
set_option maxRecDepth 100000 in
noncomputable def Hands_fillWords_93_b (g : (Nat × Int32 × Int32 × Int32 × Int32 × Nat × Nat × (Option Nat) × am_H) → Option am_H) (v0 : Nat) (v1 : Int32) (v2 : Option Nat) (v3 : Int32) (s0 : Int32) (s1 : Int32) (s2 : Nat) (h : am_H) : Option am_H := (sI h s2 s1 s0).bind fun h26 => (gR h26 1 v0 6).bind fun x29 => if v2 = none then g (114, v1, (-1 : Int32), (v3 + (12 : Int32)), 0, v0, x29, none, h26) else (v2).bind fun x33 => (gI h26 4 x33 1).bind fun x35 => g (114, v1, x35, (v3 + (12 : Int32)), 0, v0, x29, none, h26)
set_option maxHeartbeats 1000000 in
set_option maxRecDepth 100000 in
theorem Hands_fillWords_93_m {g g2 : (Nat × Int32 × Int32 × Int32 × Int32 × Nat × Nat × (Option Nat) × am_H) → Option am_H} (hg : ∀ s, Le (g s) (g2 s)) (v0 : Nat) (v1 : Int32) (v2 : Option Nat) (v3 : Int32) (s0 : Int32) (s1 : Int32) (s2 : Nat) (h : am_H) : Le (Hands_fillWords_93_b g v0 v1 v2 v3 s0 s1 s2 h) (Hands_fillWords_93_b g2 v0 v1 v2 v3 s0 s1 s2 h) := by unfold Hands_fillWords_93_b; exact le_b (le_r _) fun h26 => le_b (le_r _) fun x29 => le_i (hg _) (le_b (le_r _) fun x33 => le_b (le_r _) fun x35 => hg _)
set_option maxHeartbeats 1000000 in
set_option maxRecDepth 100000 in
noncomputable def Hands_fillWords_114_b (g : (Nat × Int32 × Int32 × Int32 × Int32 × Nat × Nat × (Option Nat) × am_H) → Option am_H) (v0 : Nat) (v1 : Int32) (s0 : Int32) (s1 : Int32) (s2 : Nat) (h : am_H) : Option am_H := (sI h s2 s1 s0).bind fun h37 => g (35, (v1 + (1 : Int32)), 0, 0, 0, v0, 0, none, h37)
set_option maxHeartbeats 1000000 in
set_option maxRecDepth 100000 in
theorem Hands_fillWords_114_m {g g2 : (Nat × Int32 × Int32 × Int32 × Int32 × Nat × Nat × (Option Nat) × am_H) → Option am_H} (hg : ∀ s, Le (g s) (g2 s)) (v0 : Nat) (v1 : Int32) (s0 : Int32) (s1 : Int32) (s2 : Nat) (h : am_H) : Le (Hands_fillWords_114_b g v0 v1 s0 s1 s2 h) (Hands_fillWords_114_b g2 v0 v1 s0 s1 s2 h) := by unfold Hands_fillWords_114_b; exact le_b (le_r _) fun h37 => hg _
noncomputable def Hands_fillWords_35_F (g : (Nat × Int32 × Int32 × Int32 × Int32 × Nat × Nat × (Option Nat) × am_H) → Option am_H) (s : (Nat × Int32 × Int32 × Int32 × Int32 × Nat × Nat × (Option Nat) × am_H)) : Option am_H := if s.1 = 35 then Hands_fillWords_35_b g s.2.2.2.2.2.1 s.2.1 s.2.2.2.2.2.2.2.2 else if s.1 = 72 then Hands_fillWords_72_b g s.2.2.2.2.2.1 s.2.1 s.2.2.2.2.2.2.2.1 s.2.2.1 s.2.2.2.1 s.2.2.2.2.1 s.2.2.2.2.2.2.1 s.2.2.2.2.2.2.2.2 else if s.1 = 93 then Hands_fillWords_93_b g s.2.2.2.2.2.1 s.2.1 s.2.2.2.2.2.2.2.1 s.2.2.1 s.2.2.2.1 s.2.2.2.2.1 s.2.2.2.2.2.2.1 s.2.2.2.2.2.2.2.2 else if s.1 = 114 then Hands_fillWords_114_b g s.2.2.2.2.2.1 s.2.1 s.2.2.1 s.2.2.2.1 s.2.2.2.2.2.2.1 s.2.2.2.2.2.2.2.2 else none
theorem Hands_fillWords_35_M : Mn Hands_fillWords_35_F := fun g g2 hg s => by unfold Hands_fillWords_35_F; exact le_i (Hands_fillWords_35_m hg s.2.2.2.2.2.1 s.2.1 s.2.2.2.2.2.2.2.2) (le_i (Hands_fillWords_72_m hg s.2.2.2.2.2.1 s.2.1 s.2.2.2.2.2.2.2.1 s.2.2.1 s.2.2.2.1 s.2.2.2.2.1 s.2.2.2.2.2.2.1 s.2.2.2.2.2.2.2.2) (le_i (Hands_fillWords_93_m hg s.2.2.2.2.2.1 s.2.1 s.2.2.2.2.2.2.2.1 s.2.2.1 s.2.2.2.1 s.2.2.2.2.1 s.2.2.2.2.2.2.1 s.2.2.2.2.2.2.2.2) (le_i (Hands_fillWords_114_m hg s.2.2.2.2.2.1 s.2.1 s.2.2.1 s.2.2.2.1 s.2.2.2.2.2.2.1 s.2.2.2.2.2.2.2.2) (le_r _))))
def Hands_fillWords_35_P (s : (Nat × Int32 × Int32 × Int32 × Int32 × Nat × Nat × (Option Nat) × am_H)) (r : am_H) : Prop := (s.1 = 35 → Sx 1 mX1_fillWords 35 [.ref s.2.2.2.2.2.1, .int s.2.1, .retAddr 0, .retAddr 0] [] s.2.2.2.2.2.2.2.2 none r) ∧ (s.1 = 72 → Sx 1 mX1_fillWords 72 [.ref s.2.2.2.2.2.1, .int s.2.1, va_rf s.2.2.2.2.2.2.2.1, .int s.2.2.1] [.int s.2.2.2.1, .int s.2.2.2.2.1, .ref s.2.2.2.2.2.2.1] s.2.2.2.2.2.2.2.2 none r) ∧ (s.1 = 93 → Sx 1 mX1_fillWords 93 [.ref s.2.2.2.2.2.1, .int s.2.1, va_rf s.2.2.2.2.2.2.2.1, .int s.2.2.1] [.int s.2.2.2.1, .int s.2.2.2.2.1, .ref s.2.2.2.2.2.2.1] s.2.2.2.2.2.2.2.2 none r) ∧ (s.1 = 114 → Sx 1 mX1_fillWords 114 [.ref s.2.2.2.2.2.1, .int s.2.1, .retAddr 0, .retAddr 0] [.int s.2.2.1, .int s.2.2.2.1, .ref s.2.2.2.2.2.2.1] s.2.2.2.2.2.2.2.2 none r) ∧ True
set_option maxHeartbeats 1000000 in
set_option maxRecDepth 100000 in
theorem Hands_fillWords_35_t {g : (Nat × Int32 × Int32 × Int32 × Int32 × Nat × Nat × (Option Nat) × am_H) → Option am_H} (hg : ∀ s r, g s = some r → Hands_fillWords_35_P s r) {v0 : Nat} {v1 : Int32} {h : am_H} {r : am_H} (hb : Hands_fillWords_35_b g v0 v1 h = some r) : Sx 1 mX1_fillWords 35 [.ref v0, .int v1, .retAddr 0, .retAddr 0] [] h none r := by
  unfold Hands_fillWords_35_b at hb
  refine Sx.o (fun _ _ _ k => ex_iload_n dX1_fillWords_35 rfl k) ?_
  refine Sx.o (fun _ _ _ k => op_bipush (6 : Int32) dX1_fillWords_36 (by decide) k) ?_
  refine Sx.b (fun _ _ _ k1 k2 => ex_icmp_ge 121 dX1_fillWords_38 (by decide) k1 k2) (fun q => ?_) (fun q => ?_)
  · have hb1 := ip q hb
    obtain rfl := Option.some.inj hb1
    exact Sx.r (fun _ _ _ k => ex_vret rfl dX1_fillWords_121 k)
  · have hb2 := iq q hb
    refine Sx.o (fun _ _ _ k => ex_aload_n dX1_fillWords_41 rfl rfl k) ?_
    obtain ⟨x3, e_x3, hb4⟩ := ob2 hb2
    refine Sx.o (fun _ _ _ k => op_getR fX1_33 dX1_fillWords_42 e_x3 k) ?_
    refine Sx.o (fun _ _ _ k => ex_iload_n dX1_fillWords_45 rfl k) ?_
    obtain ⟨x5, e_x5, hb6⟩ := ob2 hb4
    refine sx_callV (dc := 0) (as := [.int v1]) (stq := [va_rf x5]) (by omega) dX1_fillWords_46 MX7_at kX1_43 iX7_at sX7_at rfl rfl (Table_at_o e_x5) rfl rfl (Nat.le_of_ble_eq_true rfl) (Nat.le_of_ble_eq_true rfl) (Table_at_s e_x5) rfl ?_
    refine Sx.o (L' := [.ref v0, .int v1, va_rf x5, .retAddr 0]) (fun _ _ _ k => ex_astore_n dX1_fillWords_49 (am_rfv _) (by decide) k) ?_
    refine Sx.o (fun _ _ _ k => op_iconst (3 : Int32) dX1_fillWords_50 (by decide) k) ?_
    refine Sx.o (fun _ _ _ k => ex_iload_n dX1_fillWords_51 rfl k) ?_
    refine Sx.o (fun _ _ _ k => ex_iadd dX1_fillWords_52 k) ?_
    refine Sx.o (L' := [.ref v0, .int v1, va_rf x5, .int ((3 : Int32) + v1)]) (fun _ _ _ k => ex_istore_n dX1_fillWords_53 (by decide) (by rw [st1_N (L2 := [.ref v0, .int v1, va_rf x5, .int ((3 : Int32) + v1)]) (by cases x5 <;> rfl) rfl]; exact k)) ?_
    refine Sx.o (fun _ _ _ k => ex_aload_n dX1_fillWords_54 rfl rfl k) ?_
    obtain ⟨x7, e_x7, hb8⟩ := ob2 hb6
    refine Sx.o (fun _ _ _ k => op_getR fX1_29 dX1_fillWords_55 e_x7 k) ?_
    refine Sx.o (fun _ _ _ k => ex_iload_n dX1_fillWords_58 rfl k) ?_
    refine Sx.o (fun _ _ _ k => ex_aload_n dX1_fillWords_59 rfl (am_rfv _) k) ?_
    refine Sx.bn (fun _ _ _ k1 k2 => op_ifnonnull (r := x5) 67 dX1_fillWords_60 (by decide) k1 k2) (fun q => ?_) (fun q => ?_)
    · have hb9 := iq q hb8
      obtain ⟨x11, e_x11, hb12⟩ := ob2 hb9
      subst e_x11
      refine Sx.o (fun _ _ _ k => ex_aload_n dX1_fillWords_67 rfl rfl k) ?_
      refine Sx.o (fun _ _ _ k => op_iconst (0 : Int32) dX1_fillWords_68 (by decide) k) ?_
      obtain ⟨x13, e_x13, hb14⟩ := ob2 hb12
      refine sx_callV (dc := 0) (as := [.int (0 : Int32)]) (stq := [.int x13, .int ((3 : Int32) + v1), .ref x7]) (by omega) dX1_fillWords_69 MX4_card kX1_74 iX4_card sX4_card rfl rfl (Row_card_o e_x13) rfl rfl (Nat.le_of_ble_eq_true rfl) (Nat.le_of_ble_eq_true rfl) (Row_card_s e_x13) rfl ?_
      exact (hg _ _ hb14).2.1 rfl
    · have hb10 := ip q hb8
      refine Sx.o (fun _ _ _ k => op_iconst (-1 : Int32) dX1_fillWords_63 (by decide) k) ?_
      refine Sx.o (fun _ _ _ k => ex_goto 72 dX1_fillWords_64 (by decide) k) ?_
      exact (hg _ _ hb10).2.1 rfl
set_option maxHeartbeats 1000000 in
set_option maxRecDepth 100000 in
theorem Hands_fillWords_72_t {g : (Nat × Int32 × Int32 × Int32 × Int32 × Nat × Nat × (Option Nat) × am_H) → Option am_H} (hg : ∀ s r, g s = some r → Hands_fillWords_35_P s r) {v0 : Nat} {v1 : Int32} {v2 : Option Nat} {v3 : Int32} {s0 : Int32} {s1 : Int32} {s2 : Nat} {h : am_H} {r : am_H} (hb : Hands_fillWords_72_b g v0 v1 v2 v3 s0 s1 s2 h = some r) : Sx 1 mX1_fillWords 72 [.ref v0, .int v1, va_rf v2, .int v3] [.int s0, .int s1, .ref s2] h none r := by
  unfold Hands_fillWords_72_b at hb
  obtain ⟨h15, e_h15, hb16⟩ := ob2 hb
  refine Sx.p (sI_q e_h15) (fun _ _ _ k => op_iast dX1_fillWords_72 e_h15 k) ?_
  refine Sx.o (fun _ _ _ k => ex_aload_n dX1_fillWords_73 rfl rfl k) ?_
  obtain ⟨x18, e_x18, hb19⟩ := ob2 hb16
  refine Sx.o (fun _ _ _ k => op_getR fX1_29 dX1_fillWords_74 e_x18 k) ?_
  refine Sx.o (fun _ _ _ k => ex_iload_n dX1_fillWords_77 rfl k) ?_
  refine Sx.o (fun _ _ _ k => op_bipush (6 : Int32) dX1_fillWords_78 (by decide) k) ?_
  refine Sx.o (fun _ _ _ k => ex_iadd dX1_fillWords_80 k) ?_
  refine Sx.o (fun _ _ _ k => ex_aload_n dX1_fillWords_81 rfl (am_rfv _) k) ?_
  refine Sx.bn (fun _ _ _ k1 k2 => op_ifnonnull (r := v2) 89 dX1_fillWords_82 (by decide) k1 k2) (fun q => ?_) (fun q => ?_)
  · have hb20 := iq q hb19
    obtain ⟨x22, e_x22, hb23⟩ := ob2 hb20
    subst e_x22
    refine Sx.o (fun _ _ _ k => ex_aload_n dX1_fillWords_89 rfl rfl k) ?_
    obtain ⟨x24, e_x24, hb25⟩ := ob2 hb23
    refine Sx.o (fun _ _ _ k => op_getI fX1_61 dX1_fillWords_90 e_x24 k) ?_
    exact (hg _ _ hb25).2.2.1 rfl
  · have hb21 := ip q hb19
    refine Sx.o (fun _ _ _ k => op_iconst (-1 : Int32) dX1_fillWords_85 (by decide) k) ?_
    refine Sx.o (fun _ _ _ k => ex_goto 93 dX1_fillWords_86 (by decide) k) ?_
    exact (hg _ _ hb21).2.2.1 rfl
set_option maxHeartbeats 1000000 in
set_option maxRecDepth 100000 in
theorem Hands_fillWords_93_t {g : (Nat × Int32 × Int32 × Int32 × Int32 × Nat × Nat × (Option Nat) × am_H) → Option am_H} (hg : ∀ s r, g s = some r → Hands_fillWords_35_P s r) {v0 : Nat} {v1 : Int32} {v2 : Option Nat} {v3 : Int32} {s0 : Int32} {s1 : Int32} {s2 : Nat} {h : am_H} {r : am_H} (hb : Hands_fillWords_93_b g v0 v1 v2 v3 s0 s1 s2 h = some r) : Sx 1 mX1_fillWords 93 [.ref v0, .int v1, va_rf v2, .int v3] [.int s0, .int s1, .ref s2] h none r := by
  unfold Hands_fillWords_93_b at hb
  obtain ⟨h26, e_h26, hb27⟩ := ob2 hb
  refine Sx.p (sI_q e_h26) (fun _ _ _ k => op_iast dX1_fillWords_93 e_h26 k) ?_
  refine Sx.o (fun _ _ _ k => ex_aload_n dX1_fillWords_94 rfl rfl k) ?_
  obtain ⟨x29, e_x29, hb30⟩ := ob2 hb27
  refine Sx.o (fun _ _ _ k => op_getR fX1_29 dX1_fillWords_95 e_x29 k) ?_
  refine Sx.o (fun _ _ _ k => ex_iload_n dX1_fillWords_98 rfl k) ?_
  refine Sx.o (fun _ _ _ k => op_bipush (12 : Int32) dX1_fillWords_99 (by decide) k) ?_
  refine Sx.o (fun _ _ _ k => ex_iadd dX1_fillWords_101 k) ?_
  refine Sx.o (fun _ _ _ k => ex_aload_n dX1_fillWords_102 rfl (am_rfv _) k) ?_
  refine Sx.bn (fun _ _ _ k1 k2 => op_ifnonnull (r := v2) 110 dX1_fillWords_103 (by decide) k1 k2) (fun q => ?_) (fun q => ?_)
  · have hb31 := iq q hb30
    obtain ⟨x33, e_x33, hb34⟩ := ob2 hb31
    subst e_x33
    refine Sx.o (fun _ _ _ k => ex_aload_n dX1_fillWords_110 rfl rfl k) ?_
    obtain ⟨x35, e_x35, hb36⟩ := ob2 hb34
    refine Sx.o (fun _ _ _ k => op_getI fX1_78 dX1_fillWords_111 e_x35 k) ?_
    refine Sx.fg [true, true, false, false] ?_
    exact (hg _ _ hb36).2.2.2.1 rfl
  · have hb32 := ip q hb30
    refine Sx.o (fun _ _ _ k => op_iconst (-1 : Int32) dX1_fillWords_106 (by decide) k) ?_
    refine Sx.o (fun _ _ _ k => ex_goto 114 dX1_fillWords_107 (by decide) k) ?_
    refine Sx.fg [true, true, false, false] ?_
    exact (hg _ _ hb32).2.2.2.1 rfl
set_option maxHeartbeats 1000000 in
set_option maxRecDepth 100000 in
theorem Hands_fillWords_114_t {g : (Nat × Int32 × Int32 × Int32 × Int32 × Nat × Nat × (Option Nat) × am_H) → Option am_H} (hg : ∀ s r, g s = some r → Hands_fillWords_35_P s r) {v0 : Nat} {v1 : Int32} {s0 : Int32} {s1 : Int32} {s2 : Nat} {h : am_H} {r : am_H} (hb : Hands_fillWords_114_b g v0 v1 s0 s1 s2 h = some r) : Sx 1 mX1_fillWords 114 [.ref v0, .int v1, .retAddr 0, .retAddr 0] [.int s0, .int s1, .ref s2] h none r := by
  unfold Hands_fillWords_114_b at hb
  obtain ⟨h37, e_h37, hb38⟩ := ob2 hb
  refine Sx.p (sI_q e_h37) (fun _ _ _ k => op_iast dX1_fillWords_114 e_h37 k) ?_
  refine Sx.o (L' := [.ref v0, .int (v1 + (1 : Int32)), .retAddr 0, .retAddr 0]) (fun _ _ _ k => op_iinc (1 : Int32) dX1_fillWords_115 (by decide) rfl (by decide) k) ?_
  refine Sx.o (fun _ _ _ k => ex_goto 35 dX1_fillWords_118 (by decide) k) ?_
  exact (hg _ _ hb38).1 rfl
theorem Hands_fillWords_35_T : ∀ s r, fx Hands_fillWords_35_F Hands_fillWords_35_M s = some r → Hands_fillWords_35_P s r := fx_ind Hands_fillWords_35_M Hands_fillWords_35_P (fun g hg s r hb => by
  unfold Hands_fillWords_35_F at hb
  exact ⟨fun q => Hands_fillWords_35_t hg (ip q hb), fun q => Hands_fillWords_72_t hg (ip q (iq (by rw [q]; decide) hb)), fun q => Hands_fillWords_93_t hg (ip q (iq (by rw [q]; decide) (iq (by rw [q]; decide) hb))), fun q => Hands_fillWords_114_t hg (ip q (iq (by rw [q]; decide) (iq (by rw [q]; decide) (iq (by rw [q]; decide) hb)))), trivial⟩)
set_option maxHeartbeats 1000000 in
set_option maxRecDepth 100000 in
theorem Hands_fillWords_35_r {g : (Nat × Int32 × Int32 × Int32 × Int32 × Nat × Nat × (Option Nat) × am_H) → Option am_H} (hg : ∀ s r, g s = some r → Eqs s.2.2.2.2.2.2.2.2 r) {v0 : Nat} {v1 : Int32} {h : am_H} {r : am_H} (hb : Hands_fillWords_35_b g v0 v1 h = some r) : Eqs h r := by
  unfold Hands_fillWords_35_b at hb
  have w0 := Eqs.rf h
  by_cases q : (6 : Int32) ≤ v1
  · have hb1 := ip q hb
    obtain rfl := Option.some.inj hb1
    exact w0
  · have hb2 := iq q hb
    obtain ⟨x3, e_x3, hb4⟩ := ob2 hb2
    obtain ⟨x5, e_x5, hb6⟩ := ob2 hb4
    obtain ⟨x7, e_x7, hb8⟩ := ob2 hb6
    by_cases q : x5 = none
    · have hb10 := ip q hb8
      exact w0.tr (hg _ _ hb10)
    · have hb9 := iq q hb8
      obtain ⟨x11, e_x11, hb12⟩ := ob2 hb9
      subst e_x11
      obtain ⟨x13, e_x13, hb14⟩ := ob2 hb12
      exact w0.tr (hg _ _ hb14)
set_option maxHeartbeats 1000000 in
set_option maxRecDepth 100000 in
theorem Hands_fillWords_72_r {g : (Nat × Int32 × Int32 × Int32 × Int32 × Nat × Nat × (Option Nat) × am_H) → Option am_H} (hg : ∀ s r, g s = some r → Eqs s.2.2.2.2.2.2.2.2 r) {v0 : Nat} {v1 : Int32} {v2 : Option Nat} {v3 : Int32} {s0 : Int32} {s1 : Int32} {s2 : Nat} {h : am_H} {r : am_H} (hb : Hands_fillWords_72_b g v0 v1 v2 v3 s0 s1 s2 h = some r) : Eqs h r := by
  unfold Hands_fillWords_72_b at hb
  have w0 := Eqs.rf h
  obtain ⟨h15, e_h15, hb16⟩ := ob2 hb
  have w17 := w0.tr (sI_q e_h15)
  obtain ⟨x18, e_x18, hb19⟩ := ob2 hb16
  by_cases q : v2 = none
  · have hb21 := ip q hb19
    exact w17.tr (hg _ _ hb21)
  · have hb20 := iq q hb19
    obtain ⟨x22, e_x22, hb23⟩ := ob2 hb20
    subst e_x22
    obtain ⟨x24, e_x24, hb25⟩ := ob2 hb23
    exact w17.tr (hg _ _ hb25)
set_option maxHeartbeats 1000000 in
set_option maxRecDepth 100000 in
theorem Hands_fillWords_93_r {g : (Nat × Int32 × Int32 × Int32 × Int32 × Nat × Nat × (Option Nat) × am_H) → Option am_H} (hg : ∀ s r, g s = some r → Eqs s.2.2.2.2.2.2.2.2 r) {v0 : Nat} {v1 : Int32} {v2 : Option Nat} {v3 : Int32} {s0 : Int32} {s1 : Int32} {s2 : Nat} {h : am_H} {r : am_H} (hb : Hands_fillWords_93_b g v0 v1 v2 v3 s0 s1 s2 h = some r) : Eqs h r := by
  unfold Hands_fillWords_93_b at hb
  have w0 := Eqs.rf h
  obtain ⟨h26, e_h26, hb27⟩ := ob2 hb
  have w28 := w0.tr (sI_q e_h26)
  obtain ⟨x29, e_x29, hb30⟩ := ob2 hb27
  by_cases q : v2 = none
  · have hb32 := ip q hb30
    exact w28.tr (hg _ _ hb32)
  · have hb31 := iq q hb30
    obtain ⟨x33, e_x33, hb34⟩ := ob2 hb31
    subst e_x33
    obtain ⟨x35, e_x35, hb36⟩ := ob2 hb34
    exact w28.tr (hg _ _ hb36)
set_option maxHeartbeats 1000000 in
set_option maxRecDepth 100000 in
theorem Hands_fillWords_114_r {g : (Nat × Int32 × Int32 × Int32 × Int32 × Nat × Nat × (Option Nat) × am_H) → Option am_H} (hg : ∀ s r, g s = some r → Eqs s.2.2.2.2.2.2.2.2 r) {v0 : Nat} {v1 : Int32} {s0 : Int32} {s1 : Int32} {s2 : Nat} {h : am_H} {r : am_H} (hb : Hands_fillWords_114_b g v0 v1 s0 s1 s2 h = some r) : Eqs h r := by
  unfold Hands_fillWords_114_b at hb
  have w0 := Eqs.rf h
  obtain ⟨h37, e_h37, hb38⟩ := ob2 hb
  have w39 := w0.tr (sI_q e_h37)
  exact w39.tr (hg _ _ hb38)
theorem Hands_fillWords_35_Q : ∀ s r, fx Hands_fillWords_35_F Hands_fillWords_35_M s = some r → Eqs s.2.2.2.2.2.2.2.2 r := fx_ind Hands_fillWords_35_M (fun s r => Eqs s.2.2.2.2.2.2.2.2 r) (fun g hg s r hb => by
  unfold Hands_fillWords_35_F at hb
  by_cases q0 : s.1 = 35
  · exact Hands_fillWords_35_r hg (ip q0 hb)
  · have hb0 := iq q0 hb
    by_cases q1 : s.1 = 72
    · exact Hands_fillWords_72_r hg (ip q1 hb0)
    · have hb1 := iq q1 hb0
      by_cases q2 : s.1 = 93
      · exact Hands_fillWords_93_r hg (ip q2 hb1)
      · have hb2 := iq q2 hb1
        by_cases q3 : s.1 = 114
        · exact Hands_fillWords_114_r hg (ip q3 hb2)
        · have hb3 := iq q3 hb2
          exact nomatch hb3)
noncomputable def Hands_fillWords_35 (v0 : Nat) (v1 : Int32) (h : am_H) : Option am_H := fx Hands_fillWords_35_F Hands_fillWords_35_M (35, v1, 0, 0, 0, v0, 0, none, h)
noncomputable def Hands_fillWords_72 (v0 : Nat) (v1 : Int32) (v2 : Option Nat) (v3 : Int32) (s0 : Int32) (s1 : Int32) (s2 : Nat) (h : am_H) : Option am_H := fx Hands_fillWords_35_F Hands_fillWords_35_M (72, v1, v3, s0, s1, v0, s2, v2, h)
noncomputable def Hands_fillWords_93 (v0 : Nat) (v1 : Int32) (v2 : Option Nat) (v3 : Int32) (s0 : Int32) (s1 : Int32) (s2 : Nat) (h : am_H) : Option am_H := fx Hands_fillWords_35_F Hands_fillWords_35_M (93, v1, v3, s0, s1, v0, s2, v2, h)
noncomputable def Hands_fillWords_114 (v0 : Nat) (v1 : Int32) (s0 : Int32) (s1 : Int32) (s2 : Nat) (h : am_H) : Option am_H := fx Hands_fillWords_35_F Hands_fillWords_35_M (114, v1, s0, s1, 0, v0, s2, none, h)
set_option maxHeartbeats 1000000 in
set_option maxRecDepth 100000 in
theorem Hands_fillWords_35_e (v0 : Nat) (v1 : Int32) (h : am_H) : Hands_fillWords_35 v0 v1 h = (if (6 : Int32) ≤ v1 then some h else (gR h 1 v0 1).bind fun x3 => (Table_at x3 v1 h).bind fun x5 => (gR h 1 v0 6).bind fun x7 => if x5 = none then Hands_fillWords_72 v0 v1 x5 ((3 : Int32) + v1) (-1 : Int32) ((3 : Int32) + v1) x7 h else (x5).bind fun x11 => (Row_card x11 (0 : Int32) h).bind fun x13 => Hands_fillWords_72 v0 v1 (some x11) ((3 : Int32) + v1) x13 ((3 : Int32) + v1) x7 h) := (fx_eq Hands_fillWords_35_M (35, v1, 0, 0, 0, v0, 0, none, h)).trans (if_pos rfl)
theorem Hands_fillWords_35_q {v0 : Nat} {v1 : Int32} {h : am_H} {r : am_H} (hb : Hands_fillWords_35 v0 v1 h = some r) : Eqs h r := Hands_fillWords_35_Q _ _ hb
theorem Hands_fillWords_35_s {v0 : Nat} {v1 : Int32} {h : am_H} {r : am_H} (hb : Hands_fillWords_35 v0 v1 h = some r) : Sx 1 mX1_fillWords 35 [.ref v0, .int v1, .retAddr 0, .retAddr 0] [] h none r := (Hands_fillWords_35_T _ _ hb).1 rfl
set_option maxHeartbeats 1000000 in
set_option maxRecDepth 100000 in
theorem Hands_fillWords_72_e (v0 : Nat) (v1 : Int32) (v2 : Option Nat) (v3 : Int32) (s0 : Int32) (s1 : Int32) (s2 : Nat) (h : am_H) : Hands_fillWords_72 v0 v1 v2 v3 s0 s1 s2 h = ((sI h s2 s1 s0).bind fun h15 => (gR h15 1 v0 6).bind fun x18 => if v2 = none then Hands_fillWords_93 v0 v1 v2 v3 (-1 : Int32) (v3 + (6 : Int32)) x18 h15 else (v2).bind fun x22 => (gI h15 4 x22 2).bind fun x24 => Hands_fillWords_93 v0 v1 (some x22) v3 x24 (v3 + (6 : Int32)) x18 h15) := (fx_eq Hands_fillWords_35_M (72, v1, v3, s0, s1, v0, s2, v2, h)).trans ((if_neg (show ¬ (72 : Nat) = 35 by decide)).trans (if_pos rfl))
theorem Hands_fillWords_72_q {v0 : Nat} {v1 : Int32} {v2 : Option Nat} {v3 : Int32} {s0 : Int32} {s1 : Int32} {s2 : Nat} {h : am_H} {r : am_H} (hb : Hands_fillWords_72 v0 v1 v2 v3 s0 s1 s2 h = some r) : Eqs h r := Hands_fillWords_35_Q _ _ hb
theorem Hands_fillWords_72_s {v0 : Nat} {v1 : Int32} {v2 : Option Nat} {v3 : Int32} {s0 : Int32} {s1 : Int32} {s2 : Nat} {h : am_H} {r : am_H} (hb : Hands_fillWords_72 v0 v1 v2 v3 s0 s1 s2 h = some r) : Sx 1 mX1_fillWords 72 [.ref v0, .int v1, va_rf v2, .int v3] [.int s0, .int s1, .ref s2] h none r := (Hands_fillWords_35_T _ _ hb).2.1 rfl
set_option maxHeartbeats 1000000 in
set_option maxRecDepth 100000 in
theorem Hands_fillWords_93_e (v0 : Nat) (v1 : Int32) (v2 : Option Nat) (v3 : Int32) (s0 : Int32) (s1 : Int32) (s2 : Nat) (h : am_H) : Hands_fillWords_93 v0 v1 v2 v3 s0 s1 s2 h = ((sI h s2 s1 s0).bind fun h26 => (gR h26 1 v0 6).bind fun x29 => if v2 = none then Hands_fillWords_114 v0 v1 (-1 : Int32) (v3 + (12 : Int32)) x29 h26 else (v2).bind fun x33 => (gI h26 4 x33 1).bind fun x35 => Hands_fillWords_114 v0 v1 x35 (v3 + (12 : Int32)) x29 h26) := (fx_eq Hands_fillWords_35_M (93, v1, v3, s0, s1, v0, s2, v2, h)).trans ((if_neg (show ¬ (93 : Nat) = 35 by decide)).trans ((if_neg (show ¬ (93 : Nat) = 72 by decide)).trans (if_pos rfl)))
theorem Hands_fillWords_93_q {v0 : Nat} {v1 : Int32} {v2 : Option Nat} {v3 : Int32} {s0 : Int32} {s1 : Int32} {s2 : Nat} {h : am_H} {r : am_H} (hb : Hands_fillWords_93 v0 v1 v2 v3 s0 s1 s2 h = some r) : Eqs h r := Hands_fillWords_35_Q _ _ hb
theorem Hands_fillWords_93_s {v0 : Nat} {v1 : Int32} {v2 : Option Nat} {v3 : Int32} {s0 : Int32} {s1 : Int32} {s2 : Nat} {h : am_H} {r : am_H} (hb : Hands_fillWords_93 v0 v1 v2 v3 s0 s1 s2 h = some r) : Sx 1 mX1_fillWords 93 [.ref v0, .int v1, va_rf v2, .int v3] [.int s0, .int s1, .ref s2] h none r := (Hands_fillWords_35_T _ _ hb).2.2.1 rfl
set_option maxHeartbeats 1000000 in
set_option maxRecDepth 100000 in
theorem Hands_fillWords_114_e (v0 : Nat) (v1 : Int32) (s0 : Int32) (s1 : Int32) (s2 : Nat) (h : am_H) : Hands_fillWords_114 v0 v1 s0 s1 s2 h = ((sI h s2 s1 s0).bind fun h37 => Hands_fillWords_35 v0 (v1 + (1 : Int32)) h37) := (fx_eq Hands_fillWords_35_M (114, v1, s0, s1, 0, v0, s2, none, h)).trans ((if_neg (show ¬ (114 : Nat) = 35 by decide)).trans ((if_neg (show ¬ (114 : Nat) = 72 by decide)).trans ((if_neg (show ¬ (114 : Nat) = 93 by decide)).trans (if_pos rfl))))
theorem Hands_fillWords_114_q {v0 : Nat} {v1 : Int32} {s0 : Int32} {s1 : Int32} {s2 : Nat} {h : am_H} {r : am_H} (hb : Hands_fillWords_114 v0 v1 s0 s1 s2 h = some r) : Eqs h r := Hands_fillWords_35_Q _ _ hb
theorem Hands_fillWords_114_s {v0 : Nat} {v1 : Int32} {s0 : Int32} {s1 : Int32} {s2 : Nat} {h : am_H} {r : am_H} (hb : Hands_fillWords_114 v0 v1 s0 s1 s2 h = some r) : Sx 1 mX1_fillWords 114 [.ref v0, .int v1, .retAddr 0, .retAddr 0] [.int s0, .int s1, .ref s2] h none r := (Hands_fillWords_35_T _ _ hb).2.2.2.1 rfl
set_option maxHeartbeats 1000000 in
set_option maxRecDepth 100000 in
noncomputable def Hands_fillWords (v0 : Nat) (h : am_H) : Option am_H := if isO h 1 v0 = true then (gR h 1 v0 6).bind fun x40 => (gR h 1 v0 1).bind fun x42 => (gI h 7 x42 0).bind fun x44 => (sI h x40 (0 : Int32) x44).bind fun h46 => (gR h46 1 v0 6).bind fun x49 => (gI h46 1 v0 7).bind fun x51 => (sI h46 x49 (1 : Int32) x51).bind fun h53 => (gR h53 1 v0 6).bind fun x56 => (gI h53 1 v0 8).bind fun x58 => (sI h53 x56 (2 : Int32) x58).bind fun h60 => Hands_fillWords_35 v0 (0 : Int32) h60 else none
set_option maxHeartbeats 1000000 in
set_option maxRecDepth 100000 in
theorem Hands_fillWords_s {v0 : Nat} {h : am_H} {r : am_H} (hb : Hands_fillWords v0 h = some r) : Sx 1 mX1_fillWords 0 (am_en [.ref v0] 4) [] h none r := by
  unfold Hands_fillWords at hb
  have hb := (iz hb).2
  show Sx 1 mX1_fillWords 0 [.ref v0, .retAddr 0, .retAddr 0, .retAddr 0] [] h none r
  refine Sx.o (fun _ _ _ k => ex_aload_n dX1_fillWords_0 rfl rfl k) ?_
  obtain ⟨x40, e_x40, hb41⟩ := ob2 hb
  refine Sx.o (fun _ _ _ k => op_getR fX1_29 dX1_fillWords_1 e_x40 k) ?_
  refine Sx.o (fun _ _ _ k => op_iconst (0 : Int32) dX1_fillWords_4 (by decide) k) ?_
  refine Sx.o (fun _ _ _ k => ex_aload_n dX1_fillWords_5 rfl rfl k) ?_
  obtain ⟨x42, e_x42, hb43⟩ := ob2 hb41
  refine Sx.o (fun _ _ _ k => op_getR fX1_33 dX1_fillWords_6 e_x42 k) ?_
  obtain ⟨x44, e_x44, hb45⟩ := ob2 hb43
  refine Sx.o (fun _ _ _ k => op_getI fX1_136 dX1_fillWords_9 e_x44 k) ?_
  obtain ⟨h46, e_h46, hb47⟩ := ob2 hb45
  refine Sx.p (sI_q e_h46) (fun _ _ _ k => op_iast dX1_fillWords_12 e_h46 k) ?_
  refine Sx.o (fun _ _ _ k => ex_aload_n dX1_fillWords_13 rfl rfl k) ?_
  obtain ⟨x49, e_x49, hb50⟩ := ob2 hb47
  refine Sx.o (fun _ _ _ k => op_getR fX1_29 dX1_fillWords_14 e_x49 k) ?_
  refine Sx.o (fun _ _ _ k => op_iconst (1 : Int32) dX1_fillWords_17 (by decide) k) ?_
  refine Sx.o (fun _ _ _ k => ex_aload_n dX1_fillWords_18 rfl rfl k) ?_
  obtain ⟨x51, e_x51, hb52⟩ := ob2 hb50
  refine Sx.o (fun _ _ _ k => op_getI fX1_93 dX1_fillWords_19 e_x51 k) ?_
  obtain ⟨h53, e_h53, hb54⟩ := ob2 hb52
  refine Sx.p (sI_q e_h53) (fun _ _ _ k => op_iast dX1_fillWords_22 e_h53 k) ?_
  refine Sx.o (fun _ _ _ k => ex_aload_n dX1_fillWords_23 rfl rfl k) ?_
  obtain ⟨x56, e_x56, hb57⟩ := ob2 hb54
  refine Sx.o (fun _ _ _ k => op_getR fX1_29 dX1_fillWords_24 e_x56 k) ?_
  refine Sx.o (fun _ _ _ k => op_iconst (2 : Int32) dX1_fillWords_27 (by decide) k) ?_
  refine Sx.o (fun _ _ _ k => ex_aload_n dX1_fillWords_28 rfl rfl k) ?_
  obtain ⟨x58, e_x58, hb59⟩ := ob2 hb57
  refine Sx.o (fun _ _ _ k => op_getI fX1_96 dX1_fillWords_29 e_x58 k) ?_
  obtain ⟨h60, e_h60, hb61⟩ := ob2 hb59
  refine Sx.p (sI_q e_h60) (fun _ _ _ k => op_iast dX1_fillWords_32 e_h60 k) ?_
  refine Sx.o (fun _ _ _ k => op_iconst (0 : Int32) dX1_fillWords_33 (by decide) k) ?_
  refine Sx.o (L' := [.ref v0, .int (0 : Int32), .retAddr 0, .retAddr 0]) (fun _ _ _ k => ex_istore_n dX1_fillWords_34 (by decide) k) ?_
  exact Hands_fillWords_35_s hb61
set_option maxHeartbeats 1000000 in
set_option maxRecDepth 100000 in
theorem Hands_fillWords_q {v0 : Nat} {h : am_H} {r : am_H} (hb : Hands_fillWords v0 h = some r) : Eqs h r := by
  unfold Hands_fillWords at hb
  have hb := (iz hb).2
  have w0 := Eqs.rf h
  obtain ⟨x40, e_x40, hb41⟩ := ob2 hb
  obtain ⟨x42, e_x42, hb43⟩ := ob2 hb41
  obtain ⟨x44, e_x44, hb45⟩ := ob2 hb43
  obtain ⟨h46, e_h46, hb47⟩ := ob2 hb45
  have w48 := w0.tr (sI_q e_h46)
  obtain ⟨x49, e_x49, hb50⟩ := ob2 hb47
  obtain ⟨x51, e_x51, hb52⟩ := ob2 hb50
  obtain ⟨h53, e_h53, hb54⟩ := ob2 hb52
  have w55 := w48.tr (sI_q e_h53)
  obtain ⟨x56, e_x56, hb57⟩ := ob2 hb54
  obtain ⟨x58, e_x58, hb59⟩ := ob2 hb57
  obtain ⟨h60, e_h60, hb61⟩ := ob2 hb59
  have w62 := w55.tr (sI_q e_h60)
  exact w62.tr (Hands_fillWords_35_q hb61)
theorem Hands_fillWords_o {v0 : Nat} {h : am_H} {r : am_H} (hb : Hands_fillWords v0 h = some r) : isO h 1 v0 = true := by
  unfold Hands_fillWords at hb
  exact (iz hb).1
set_option maxHeartbeats 1000000 in
set_option maxRecDepth 100000 in
noncomputable def Hands_tread (v0 : Nat) (v1 : Int32) (h : am_H) : Option (Int32 × am_H) := if isO h 1 v0 = true then (gR h 1 v0 1).bind fun x1 => (Table_at x1 v1 h).bind fun x3 => if x3 = none then some ((-2 : Int32), h) else (x3).bind fun x7 => (gR h 1 v0 3).bind fun x9 => (Steps_look x9 x7 h).bind fun r11 => if r11.1 = (3 : Int32) then (gR r11.2 1 v0 2).bind fun x16 => (Past_keep x16 (0 : Int32) x7 r11.2).bind fun h18 => (gR h18 1 v0 3).bind fun x21 => (Steps_make x21 x7 h18).bind fun h23 => (gI h23 4 x7 2).bind fun x26 => some (x26, h23) else some ((-3 : Int32), r11.2) else none
set_option maxHeartbeats 1000000 in
set_option maxRecDepth 100000 in
theorem Hands_tread_s {v0 : Nat} {v1 : Int32} {h : am_H} {r : (Int32 × am_H)} (hb : Hands_tread v0 v1 h = some r) : Sx 4 mX1_tread 0 (am_en [.ref v0, .int v1] 3) [] h (some (.int r.1)) r.2 := by
  unfold Hands_tread at hb
  have hb := (iz hb).2
  show Sx 4 mX1_tread 0 [.ref v0, .int v1, .retAddr 0] [] h (some (.int r.1)) r.2
  refine Sx.o (fun _ _ _ k => ex_aload_n dX1_tread_0 rfl rfl k) ?_
  obtain ⟨x1, e_x1, hb2⟩ := ob2 hb
  refine Sx.o (fun _ _ _ k => op_getR fX1_33 dX1_tread_1 e_x1 k) ?_
  refine Sx.o (fun _ _ _ k => ex_iload_n dX1_tread_4 rfl k) ?_
  obtain ⟨x3, e_x3, hb4⟩ := ob2 hb2
  refine sx_callV (dc := 0) (as := [.int v1]) (stq := [va_rf x3]) (by omega) dX1_tread_5 MX7_at kX1_43 iX7_at sX7_at rfl rfl (Table_at_o e_x3) rfl rfl (Nat.le_of_ble_eq_true rfl) (Nat.le_of_ble_eq_true rfl) (Table_at_s e_x3) rfl ?_
  refine Sx.o (L' := [.ref v0, .int v1, va_rf x3]) (fun _ _ _ k => ex_astore_n dX1_tread_8 (am_rfv _) (by decide) k) ?_
  refine Sx.o (fun _ _ _ k => ex_aload_n dX1_tread_9 rfl (am_rfv _) k) ?_
  refine Sx.bn (fun _ _ _ k1 k2 => op_ifnonnull (r := x3) 16 dX1_tread_10 (by decide) k1 k2) (fun q => ?_) (fun q => ?_)
  · have hb5 := iq q hb4
    obtain ⟨x7, e_x7, hb8⟩ := ob2 hb5
    subst e_x7
    refine Sx.o (fun _ _ _ k => ex_aload_n dX1_tread_16 rfl rfl k) ?_
    obtain ⟨x9, e_x9, hb10⟩ := ob2 hb8
    refine Sx.o (fun _ _ _ k => op_getR fX1_39 dX1_tread_17 e_x9 k) ?_
    refine Sx.o (fun _ _ _ k => ex_aload_n dX1_tread_20 rfl rfl k) ?_
    obtain ⟨r11, e_r11, hb12⟩ := ob2 hb10
    refine sx_callV (dc := 3) (as := [.ref x7]) (stq := [.int r11.1]) (by omega) dX1_tread_21 MX6_look kX1_47 iX6_look sX6_look rfl rfl (Steps_look_o e_r11) rfl rfl (Nat.le_of_ble_eq_true rfl) (Nat.le_of_ble_eq_true rfl) (Steps_look_s e_r11) rfl ?_
    refine Sx.o (fun _ _ _ k => op_iconst (3 : Int32) dX1_tread_24 (by decide) k) ?_
    refine Sx.b (fun _ _ _ k1 k2 => ex_icmp_eq 31 dX1_tread_25 (by decide) k1 k2) (fun q => ?_) (fun q => ?_)
    · have hb14 := ip q hb12
      refine Sx.o (fun _ _ _ k => ex_aload_n dX1_tread_31 rfl rfl k) ?_
      obtain ⟨x16, e_x16, hb17⟩ := ob2 hb14
      refine Sx.o (fun _ _ _ k => op_getR fX1_36 dX1_tread_32 e_x16 k) ?_
      refine Sx.o (fun _ _ _ k => op_iconst (0 : Int32) dX1_tread_35 (by decide) k) ?_
      refine Sx.o (fun _ _ _ k => ex_aload_n dX1_tread_36 rfl rfl k) ?_
      obtain ⟨h18, e_h18, hb19⟩ := ob2 hb17
      refine sx_callV (dc := 2) (as := [.int (0 : Int32), .ref x7]) (stq := []) (by omega) dX1_tread_37 MX2_keep kX1_53 iX2_keep sX2_keep rfl rfl (Past_keep_o e_h18) rfl rfl (Nat.le_of_ble_eq_true rfl) (Nat.le_of_ble_eq_true rfl) (Past_keep_s e_h18) rfl ?_
      refine Sx.o (fun _ _ _ k => ex_aload_n dX1_tread_40 rfl rfl k) ?_
      obtain ⟨x21, e_x21, hb22⟩ := ob2 hb19
      refine Sx.o (fun _ _ _ k => op_getR fX1_39 dX1_tread_41 e_x21 k) ?_
      refine Sx.o (fun _ _ _ k => ex_aload_n dX1_tread_44 rfl rfl k) ?_
      obtain ⟨h23, e_h23, hb24⟩ := ob2 hb22
      refine sx_callV (dc := 3) (as := [.ref x7]) (stq := []) (by omega) dX1_tread_45 MX6_make kX1_57 iX6_make sX6_make rfl rfl (Steps_make_o e_h23) rfl rfl (Nat.le_of_ble_eq_true rfl) (Nat.le_of_ble_eq_true rfl) (Steps_make_s e_h23) rfl ?_
      refine Sx.o (fun _ _ _ k => ex_aload_n dX1_tread_48 rfl rfl k) ?_
      obtain ⟨x26, e_x26, hb27⟩ := ob2 hb24
      refine Sx.o (fun _ _ _ k => op_getI fX1_61 dX1_tread_49 e_x26 k) ?_
      obtain rfl := Option.some.inj hb27
      exact Sx.r (fun _ _ _ k => ex_iret rfl dX1_tread_52 k)
    · have hb15 := iq q hb12
      refine Sx.o (fun _ _ _ k => op_bipush (-3 : Int32) dX1_tread_28 (by decide) k) ?_
      obtain rfl := Option.some.inj hb15
      exact Sx.r (fun _ _ _ k => ex_iret rfl dX1_tread_30 k)
  · have hb6 := ip q hb4
    refine Sx.o (fun _ _ _ k => op_bipush (-2 : Int32) dX1_tread_13 (by decide) k) ?_
    obtain rfl := Option.some.inj hb6
    exact Sx.r (fun _ _ _ k => ex_iret rfl dX1_tread_15 k)
set_option maxHeartbeats 1000000 in
set_option maxRecDepth 100000 in
theorem Hands_tread_q {v0 : Nat} {v1 : Int32} {h : am_H} {r : (Int32 × am_H)} (hb : Hands_tread v0 v1 h = some r) : Eqs h r.2 := by
  unfold Hands_tread at hb
  have hb := (iz hb).2
  have w0 := Eqs.rf h
  obtain ⟨x1, e_x1, hb2⟩ := ob2 hb
  obtain ⟨x3, e_x3, hb4⟩ := ob2 hb2
  by_cases q : x3 = none
  · have hb6 := ip q hb4
    obtain rfl := Option.some.inj hb6
    exact w0
  · have hb5 := iq q hb4
    obtain ⟨x7, e_x7, hb8⟩ := ob2 hb5
    subst e_x7
    obtain ⟨x9, e_x9, hb10⟩ := ob2 hb8
    obtain ⟨r11, e_r11, hb12⟩ := ob2 hb10
    have w13 := w0.tr (Steps_look_q e_r11)
    by_cases q : r11.1 = (3 : Int32)
    · have hb14 := ip q hb12
      obtain ⟨x16, e_x16, hb17⟩ := ob2 hb14
      obtain ⟨h18, e_h18, hb19⟩ := ob2 hb17
      have w20 := w13.tr (Past_keep_q e_h18)
      obtain ⟨x21, e_x21, hb22⟩ := ob2 hb19
      obtain ⟨h23, e_h23, hb24⟩ := ob2 hb22
      have w25 := w20.tr (Steps_make_q e_h23)
      obtain ⟨x26, e_x26, hb27⟩ := ob2 hb24
      obtain rfl := Option.some.inj hb27
      exact w25
    · have hb15 := iq q hb12
      obtain rfl := Option.some.inj hb15
      exact w13
theorem Hands_tread_o {v0 : Nat} {v1 : Int32} {h : am_H} {r : (Int32 × am_H)} (hb : Hands_tread v0 v1 h = some r) : isO h 1 v0 = true := by
  unfold Hands_tread at hb
  exact (iz hb).1
set_option maxHeartbeats 1000000 in
set_option maxRecDepth 100000 in
noncomputable def Hands_runOnce_149 (v0 : Nat) (v7 : Int32) (h : am_H) : Option (Int32 × am_H) := (gI h 1 v0 7).bind fun x1 => (pV h 1 v0 7 (.int (x1 + (1 : Int32)))).bind fun h3 => if v7 < (0 : Int32) then some ((0 : Int32), h3) else some ((1 : Int32), h3)
set_option maxHeartbeats 1000000 in
set_option maxRecDepth 100000 in
theorem Hands_runOnce_149_s {v0 : Nat} {v7 : Int32} {h : am_H} {r : (Int32 × am_H)} (hb : Hands_runOnce_149 v0 v7 h = some r) : Sx 5 mX1_runOnce 149 [.ref v0, .retAddr 0, .retAddr 0, .retAddr 0, .retAddr 0, .retAddr 0, .retAddr 0, .int v7] [] h (some (.int r.1)) r.2 := by
  unfold Hands_runOnce_149 at hb
  refine Sx.o (fun _ _ _ k => ex_aload_n dX1_runOnce_149 rfl rfl k) ?_
  refine Sx.o (fun _ _ _ k => ex_dup dX1_runOnce_150 rfl k) ?_
  obtain ⟨x1, e_x1, hb2⟩ := ob2 hb
  refine Sx.o (fun _ _ _ k => op_getI fX1_93 dX1_runOnce_151 e_x1 k) ?_
  refine Sx.o (fun _ _ _ k => op_iconst (1 : Int32) dX1_runOnce_154 (by decide) k) ?_
  refine Sx.o (fun _ _ _ k => ex_iadd dX1_runOnce_155 k) ?_
  obtain ⟨h3, e_h3, hb4⟩ := ob2 hb2
  refine Sx.p (pV_q e_h3) (fun _ _ _ k => op_put pX1_93 dX1_runOnce_156 e_h3 (fun _ => rfl) (fun _ => rfl) k) ?_
  refine Sx.o (fun _ _ _ k => ex_iload dX1_runOnce_159 rfl k) ?_
  refine Sx.b (fun _ _ _ k1 k2 => ex_if_lt 168 dX1_runOnce_161 (by decide) k1 k2) (fun q => ?_) (fun q => ?_)
  · have hb6 := ip q hb4
    refine Sx.o (fun _ _ _ k => op_iconst (0 : Int32) dX1_runOnce_168 (by decide) k) ?_
    obtain rfl := Option.some.inj hb6
    exact Sx.r (fun _ _ _ k => ex_zret rfl rfl dX1_runOnce_169 k)
  · have hb7 := iq q hb4
    refine Sx.o (fun _ _ _ k => op_iconst (1 : Int32) dX1_runOnce_164 (by decide) k) ?_
    refine Sx.o (fun _ _ _ k => ex_goto 169 dX1_runOnce_165 (by decide) k) ?_
    obtain rfl := Option.some.inj hb7
    exact Sx.r (fun _ _ _ k => ex_zret rfl rfl dX1_runOnce_169 k)
set_option maxHeartbeats 1000000 in
set_option maxRecDepth 100000 in
theorem Hands_runOnce_149_q {v0 : Nat} {v7 : Int32} {h : am_H} {r : (Int32 × am_H)} (hb : Hands_runOnce_149 v0 v7 h = some r) : Eqs h r.2 := by
  unfold Hands_runOnce_149 at hb
  have w0 := Eqs.rf h
  obtain ⟨x1, e_x1, hb2⟩ := ob2 hb
  obtain ⟨h3, e_h3, hb4⟩ := ob2 hb2
  have w5 := w0.tr (pV_q e_h3)
  by_cases q : v7 < (0 : Int32)
  · have hb6 := ip q hb4
    obtain rfl := Option.some.inj hb6
    exact w5
  · have hb7 := iq q hb4
    obtain rfl := Option.some.inj hb7
    exact w5
set_option maxHeartbeats 1000000 in
set_option maxRecDepth 100000 in
noncomputable def Hands_runOnce_147 (v0 : Nat) (s0 : Int32) (h : am_H) : Option (Int32 × am_H) := Hands_runOnce_149 v0 s0 h
set_option maxHeartbeats 1000000 in
set_option maxRecDepth 100000 in
theorem Hands_runOnce_147_s {v0 : Nat} {s0 : Int32} {h : am_H} {r : (Int32 × am_H)} (hb : Hands_runOnce_147 v0 s0 h = some r) : Sx 5 mX1_runOnce 147 [.ref v0, .retAddr 0, .retAddr 0, .retAddr 0, .retAddr 0, .retAddr 0, .retAddr 0, .retAddr 0] [.int s0] h (some (.int r.1)) r.2 := by
  unfold Hands_runOnce_147 at hb
  refine Sx.o (L' := [.ref v0, .retAddr 0, .retAddr 0, .retAddr 0, .retAddr 0, .retAddr 0, .retAddr 0, .int s0]) (fun _ _ _ k => ex_istore dX1_runOnce_147 (by decide) k) ?_
  exact Hands_runOnce_149_s hb
set_option maxHeartbeats 1000000 in
set_option maxRecDepth 100000 in
theorem Hands_runOnce_147_q {v0 : Nat} {s0 : Int32} {h : am_H} {r : (Int32 × am_H)} (hb : Hands_runOnce_147 v0 s0 h = some r) : Eqs h r.2 := by
  unfold Hands_runOnce_147 at hb
  have w0 := Eqs.rf h
  exact w0.tr (Hands_runOnce_149_q hb)
set_option maxHeartbeats 1000000 in
set_option maxRecDepth 100000 in
noncomputable def Hands_runOnce_75 (v0 : Nat) (v3 : Int32) (v4 : Int32) (v5 : Int32) (s0 : Int32) (h : am_H) : Option (Int32 × am_H) := if v4 = (-2147483648 : Int32) then some ((0 : Int32), h) else if v5 = (-2147483648 : Int32) then some ((0 : Int32), h) else if s0 = (-2147483648 : Int32) then some ((0 : Int32), h) else if v3 = (0 : Int32) then (Hands_tread v0 v4 h).bind fun r24 => (pV r24.2 1 v0 8 (.int r24.1)).bind fun h27 => Hands_runOnce_149 v0 r24.1 h27 else if v3 = (1 : Int32) then (Hands_exchange v0 s0 v4 v5 h).bind fun r21 => Hands_runOnce_147 v0 r21.1 r21.2 else (Hands_lift v0 v5 v4 h).bind fun r18 => Hands_runOnce_147 v0 r18.1 r18.2
set_option maxHeartbeats 1000000 in
set_option maxRecDepth 100000 in
theorem Hands_runOnce_75_s {v0 : Nat} {v3 : Int32} {v4 : Int32} {v5 : Int32} {s0 : Int32} {h : am_H} {r : (Int32 × am_H)} (hb : Hands_runOnce_75 v0 v3 v4 v5 s0 h = some r) : Sx 5 mX1_runOnce 75 [.ref v0, .retAddr 0, .retAddr 0, .int v3, .int v4, .int v5, .retAddr 0, .retAddr 0] [.int s0] h (some (.int r.1)) r.2 := by
  unfold Hands_runOnce_75 at hb
  refine Sx.o (L' := [.ref v0, .retAddr 0, .retAddr 0, .int v3, .int v4, .int v5, .int s0, .retAddr 0]) (fun _ _ _ k => ex_istore dX1_runOnce_75 (by decide) k) ?_
  refine Sx.o (fun _ _ _ k => ex_iload dX1_runOnce_77 rfl k) ?_
  refine Sx.o (fun _ _ _ k => ex_ldc dX1_runOnce_79 qX1_125 k) ?_
  refine Sx.b (fun _ _ _ k1 k2 => ex_icmp_eq 98 dX1_runOnce_81 (by decide) k1 k2) (fun q => ?_) (fun q => ?_)
  · have hb8 := ip q hb
    refine Sx.o (fun _ _ _ k => op_iconst (0 : Int32) dX1_runOnce_98 (by decide) k) ?_
    obtain rfl := Option.some.inj hb8
    exact Sx.r (fun _ _ _ k => ex_zret rfl rfl dX1_runOnce_99 k)
  · have hb9 := iq q hb
    refine Sx.o (fun _ _ _ k => ex_iload dX1_runOnce_84 rfl k) ?_
    refine Sx.o (fun _ _ _ k => ex_ldc dX1_runOnce_86 qX1_125 k) ?_
    refine Sx.b (fun _ _ _ k1 k2 => ex_icmp_eq 98 dX1_runOnce_88 (by decide) k1 k2) (fun q => ?_) (fun q => ?_)
    · have hb10 := ip q hb9
      refine Sx.o (fun _ _ _ k => op_iconst (0 : Int32) dX1_runOnce_98 (by decide) k) ?_
      obtain rfl := Option.some.inj hb10
      exact Sx.r (fun _ _ _ k => ex_zret rfl rfl dX1_runOnce_99 k)
    · have hb11 := iq q hb9
      refine Sx.o (fun _ _ _ k => ex_iload dX1_runOnce_91 rfl k) ?_
      refine Sx.o (fun _ _ _ k => ex_ldc dX1_runOnce_93 qX1_125 k) ?_
      refine Sx.bn (fun _ _ _ k1 k2 => ex_icmp_ne 100 dX1_runOnce_95 (by decide) k1 k2) (fun q => ?_) (fun q => ?_)
      · have hb12 := iq q hb11
        refine Sx.o (fun _ _ _ k => ex_iload_n dX1_runOnce_100 rfl k) ?_
        refine Sx.bn (fun _ _ _ k1 k2 => ex_if_ne 121 dX1_runOnce_101 (by decide) k1 k2) (fun q => ?_) (fun q => ?_)
        · have hb14 := iq q hb12
          refine Sx.o (fun _ _ _ k => ex_iload_n dX1_runOnce_121 rfl k) ?_
          refine Sx.o (fun _ _ _ k => op_iconst (1 : Int32) dX1_runOnce_122 (by decide) k) ?_
          refine Sx.bn (fun _ _ _ k1 k2 => ex_icmp_ne 139 dX1_runOnce_123 (by decide) k1 k2) (fun q => ?_) (fun q => ?_)
          · have hb16 := iq q hb14
            refine Sx.o (fun _ _ _ k => ex_aload_n dX1_runOnce_139 rfl rfl k) ?_
            refine Sx.o (fun _ _ _ k => ex_iload dX1_runOnce_140 rfl k) ?_
            refine Sx.o (fun _ _ _ k => ex_iload dX1_runOnce_142 rfl k) ?_
            obtain ⟨r18, e_r18, hb19⟩ := ob2 hb16
            refine sx_callV (dc := 3) (as := [.int v5, .int v4]) (stq := [.int r18.1]) (by omega) dX1_runOnce_144 MX1_lift kX1_132 iX1_lift sX1_lift rfl rfl (Hands_lift_o e_r18) rfl rfl (Nat.le_of_ble_eq_true rfl) (Nat.le_of_ble_eq_true rfl) (Hands_lift_s e_r18) rfl ?_
            refine Sx.fg [true, true, true, false, false, false, false, true] ?_
            exact Hands_runOnce_147_s hb19
          · have hb17 := ip q hb14
            refine Sx.o (fun _ _ _ k => ex_aload_n dX1_runOnce_126 rfl rfl k) ?_
            refine Sx.o (fun _ _ _ k => ex_iload dX1_runOnce_127 rfl k) ?_
            refine Sx.o (fun _ _ _ k => ex_iload dX1_runOnce_129 rfl k) ?_
            refine Sx.o (fun _ _ _ k => ex_iload dX1_runOnce_131 rfl k) ?_
            obtain ⟨r21, e_r21, hb22⟩ := ob2 hb17
            refine sx_callV (dc := 3) (as := [.int s0, .int v4, .int v5]) (stq := [.int r21.1]) (by omega) dX1_runOnce_133 MX1_exchange kX1_129 iX1_exchange sX1_exchange rfl rfl (Hands_exchange_o e_r21) rfl rfl (Nat.le_of_ble_eq_true rfl) (Nat.le_of_ble_eq_true rfl) (Hands_exchange_s e_r21) rfl ?_
            refine Sx.o (fun _ _ _ k => ex_goto 147 dX1_runOnce_136 (by decide) k) ?_
            refine Sx.fg [true, true, true, false, false, false, false, true] ?_
            exact Hands_runOnce_147_s hb22
        · have hb15 := ip q hb12
          refine Sx.o (fun _ _ _ k => ex_aload_n dX1_runOnce_104 rfl rfl k) ?_
          refine Sx.o (fun _ _ _ k => ex_iload dX1_runOnce_105 rfl k) ?_
          obtain ⟨r24, e_r24, hb25⟩ := ob2 hb15
          refine sx_callV (dc := 4) (as := [.int v4]) (stq := [.int r24.1]) (by omega) dX1_runOnce_107 MX1_tread kX1_126 iX1_tread sX1_tread rfl rfl (Hands_tread_o e_r24) rfl rfl (Nat.le_of_ble_eq_true rfl) (Nat.le_of_ble_eq_true rfl) (Hands_tread_s e_r24) rfl ?_
          refine Sx.o (L' := [.ref v0, .retAddr 0, .retAddr 0, .int v3, .int v4, .int v5, .int s0, .int r24.1]) (fun _ _ _ k => ex_istore dX1_runOnce_110 (by decide) k) ?_
          refine Sx.o (fun _ _ _ k => ex_aload_n dX1_runOnce_112 rfl rfl k) ?_
          refine Sx.o (fun _ _ _ k => ex_iload dX1_runOnce_113 rfl k) ?_
          obtain ⟨h27, e_h27, hb28⟩ := ob2 hb25
          refine Sx.p (pV_q e_h27) (fun _ _ _ k => op_put pX1_96 dX1_runOnce_115 e_h27 (fun _ => rfl) (fun _ => rfl) k) ?_
          refine Sx.o (fun _ _ _ k => ex_goto 149 dX1_runOnce_118 (by decide) k) ?_
          refine Sx.fg [true, true, true, false, false, false, false, true] ?_
          exact Hands_runOnce_149_s hb28
      · have hb13 := ip q hb11
        refine Sx.o (fun _ _ _ k => op_iconst (0 : Int32) dX1_runOnce_98 (by decide) k) ?_
        obtain rfl := Option.some.inj hb13
        exact Sx.r (fun _ _ _ k => ex_zret rfl rfl dX1_runOnce_99 k)
set_option maxHeartbeats 1000000 in
set_option maxRecDepth 100000 in
theorem Hands_runOnce_75_q {v0 : Nat} {v3 : Int32} {v4 : Int32} {v5 : Int32} {s0 : Int32} {h : am_H} {r : (Int32 × am_H)} (hb : Hands_runOnce_75 v0 v3 v4 v5 s0 h = some r) : Eqs h r.2 := by
  unfold Hands_runOnce_75 at hb
  have w0 := Eqs.rf h
  by_cases q : v4 = (-2147483648 : Int32)
  · have hb8 := ip q hb
    obtain rfl := Option.some.inj hb8
    exact w0
  · have hb9 := iq q hb
    by_cases q : v5 = (-2147483648 : Int32)
    · have hb10 := ip q hb9
      obtain rfl := Option.some.inj hb10
      exact w0
    · have hb11 := iq q hb9
      by_cases q : s0 = (-2147483648 : Int32)
      · have hb13 := ip q hb11
        obtain rfl := Option.some.inj hb13
        exact w0
      · have hb12 := iq q hb11
        by_cases q : v3 = (0 : Int32)
        · have hb15 := ip q hb12
          obtain ⟨r24, e_r24, hb25⟩ := ob2 hb15
          have w26 := w0.tr (Hands_tread_q e_r24)
          obtain ⟨h27, e_h27, hb28⟩ := ob2 hb25
          have w29 := w26.tr (pV_q e_h27)
          exact w29.tr (Hands_runOnce_149_q hb28)
        · have hb14 := iq q hb12
          by_cases q : v3 = (1 : Int32)
          · have hb17 := ip q hb14
            obtain ⟨r21, e_r21, hb22⟩ := ob2 hb17
            have w23 := w0.tr (Hands_exchange_q e_r21)
            exact w23.tr (Hands_runOnce_147_q hb22)
          · have hb16 := iq q hb14
            obtain ⟨r18, e_r18, hb19⟩ := ob2 hb16
            have w20 := w0.tr (Hands_lift_q e_r18)
            exact w20.tr (Hands_runOnce_147_q hb19)
set_option maxHeartbeats 1000000 in
set_option maxRecDepth 100000 in
noncomputable def Hands_runOnce_54 (v0 : Nat) (v1 : Nat) (v2 : Int32) (v3 : Int32) (v4 : Int32) (s0 : Int32) (h : am_H) : Option (Int32 × am_H) := if v3 = (1 : Int32) then (gR h 1 v0 6).bind fun x32 => (Text_sumOf v1 v2 (2 : Int32) x32 h).bind fun r34 => Hands_runOnce_75 v0 v3 v4 s0 r34.1 r34.2 else Hands_runOnce_75 v0 v3 v4 s0 (0 : Int32) h
set_option maxHeartbeats 1000000 in
set_option maxRecDepth 100000 in
theorem Hands_runOnce_54_s {v0 : Nat} {v1 : Nat} {v2 : Int32} {v3 : Int32} {v4 : Int32} {s0 : Int32} {h : am_H} {r : (Int32 × am_H)} (hb : Hands_runOnce_54 v0 v1 v2 v3 v4 s0 h = some r) : Sx 5 mX1_runOnce 54 [.ref v0, .ref v1, .int v2, .int v3, .int v4, .retAddr 0, .retAddr 0, .retAddr 0] [.int s0] h (some (.int r.1)) r.2 := by
  unfold Hands_runOnce_54 at hb
  refine Sx.o (L' := [.ref v0, .ref v1, .int v2, .int v3, .int v4, .int s0, .retAddr 0, .retAddr 0]) (fun _ _ _ k => ex_istore dX1_runOnce_54 (by decide) k) ?_
  refine Sx.o (fun _ _ _ k => ex_iload_n dX1_runOnce_56 rfl k) ?_
  refine Sx.o (fun _ _ _ k => op_iconst (1 : Int32) dX1_runOnce_57 (by decide) k) ?_
  refine Sx.bn (fun _ _ _ k1 k2 => ex_icmp_ne 74 dX1_runOnce_58 (by decide) k1 k2) (fun q => ?_) (fun q => ?_)
  · have hb30 := iq q hb
    refine Sx.o (fun _ _ _ k => op_iconst (0 : Int32) dX1_runOnce_74 (by decide) k) ?_
    refine Sx.fg [true, false, false, true, true, true, true, true] ?_
    exact Hands_runOnce_75_s hb30
  · have hb31 := ip q hb
    refine Sx.o (fun _ _ _ k => ex_aload_n dX1_runOnce_61 rfl rfl k) ?_
    refine Sx.o (fun _ _ _ k => ex_iload_n dX1_runOnce_62 rfl k) ?_
    refine Sx.o (fun _ _ _ k => op_iconst (2 : Int32) dX1_runOnce_63 (by decide) k) ?_
    refine Sx.o (fun _ _ _ k => ex_aload_n dX1_runOnce_64 rfl rfl k) ?_
    obtain ⟨x32, e_x32, hb33⟩ := ob2 hb31
    refine Sx.o (fun _ _ _ k => op_getR fX1_29 dX1_runOnce_65 e_x32 k) ?_
    obtain ⟨r34, e_r34, hb35⟩ := ob2 hb33
    refine sx_callV (dc := 2) (as := [.int v2, .int (2 : Int32), .ref x32]) (stq := [.int r34.1]) (by omega) dX1_runOnce_68 MX9_sumOf kX1_121 iX9_sumOf sX9_sumOf rfl rfl (Text_sumOf_o e_r34) rfl rfl (Nat.le_of_ble_eq_true rfl) (Nat.le_of_ble_eq_true rfl) (Text_sumOf_s e_r34) rfl ?_
    refine Sx.o (fun _ _ _ k => ex_goto 75 dX1_runOnce_71 (by decide) k) ?_
    refine Sx.fg [true, false, false, true, true, true, true, true] ?_
    exact Hands_runOnce_75_s hb35
set_option maxHeartbeats 1000000 in
set_option maxRecDepth 100000 in
theorem Hands_runOnce_54_q {v0 : Nat} {v1 : Nat} {v2 : Int32} {v3 : Int32} {v4 : Int32} {s0 : Int32} {h : am_H} {r : (Int32 × am_H)} (hb : Hands_runOnce_54 v0 v1 v2 v3 v4 s0 h = some r) : Eqs h r.2 := by
  unfold Hands_runOnce_54 at hb
  have w0 := Eqs.rf h
  by_cases q : v3 = (1 : Int32)
  · have hb31 := ip q hb
    obtain ⟨x32, e_x32, hb33⟩ := ob2 hb31
    obtain ⟨r34, e_r34, hb35⟩ := ob2 hb33
    have w36 := w0.tr (Text_sumOf_q e_r34)
    exact w36.tr (Hands_runOnce_75_q hb35)
  · have hb30 := iq q hb
    exact w0.tr (Hands_runOnce_75_q hb30)
set_option maxHeartbeats 1000000 in
set_option maxRecDepth 100000 in
noncomputable def Hands_runOnce (v0 : Nat) (v1 : Nat) (v2 : Int32) (h : am_H) : Option (Int32 × am_H) := if isO h 1 v0 = true then (Hands_fillWords v0 h).bind fun h37 => (gR h37 1 v0 6).bind fun x40 => (Text_isSo v1 v2 x40 h37).bind fun r42 => if r42.1 = (0 : Int32) then some ((1 : Int32), r42.2) else (Text_kindOf v1 v2 r42.2).bind fun x47 => (gR r42.2 1 v0 6).bind fun x49 => (Text_sumOf v1 v2 (0 : Int32) x49 r42.2).bind fun r51 => if x47 = (0 : Int32) then Hands_runOnce_54 v0 v1 v2 x47 r51.1 (0 : Int32) r51.2 else (gR r51.2 1 v0 6).bind fun x56 => (Text_sumOf v1 v2 (1 : Int32) x56 r51.2).bind fun r58 => Hands_runOnce_54 v0 v1 v2 x47 r51.1 r58.1 r58.2 else none
set_option maxHeartbeats 1000000 in
set_option maxRecDepth 100000 in
theorem Hands_runOnce_s {v0 : Nat} {v1 : Nat} {v2 : Int32} {h : am_H} {r : (Int32 × am_H)} (hb : Hands_runOnce v0 v1 v2 h = some r) : Sx 5 mX1_runOnce 0 (am_en [.ref v0, .ref v1, .int v2] 8) [] h (some (.int r.1)) r.2 := by
  unfold Hands_runOnce at hb
  have hb := (iz hb).2
  show Sx 5 mX1_runOnce 0 [.ref v0, .ref v1, .int v2, .retAddr 0, .retAddr 0, .retAddr 0, .retAddr 0, .retAddr 0] [] h (some (.int r.1)) r.2
  refine Sx.o (fun _ _ _ k => ex_aload_n dX1_runOnce_0 rfl rfl k) ?_
  obtain ⟨h37, e_h37, hb38⟩ := ob2 hb
  refine sx_callV (dc := 1) (as := []) (stq := []) (by omega) dX1_runOnce_1 MX1_fillWords kX1_111 iX1_fillWords sX1_fillWords rfl rfl (Hands_fillWords_o e_h37) rfl rfl (Nat.le_of_ble_eq_true rfl) (Nat.le_of_ble_eq_true rfl) (Hands_fillWords_s e_h37) rfl ?_
  refine Sx.o (fun _ _ _ k => ex_aload_n dX1_runOnce_4 rfl rfl k) ?_
  refine Sx.o (fun _ _ _ k => ex_iload_n dX1_runOnce_5 rfl k) ?_
  refine Sx.o (fun _ _ _ k => ex_aload_n dX1_runOnce_6 rfl rfl k) ?_
  obtain ⟨x40, e_x40, hb41⟩ := ob2 hb38
  refine Sx.o (fun _ _ _ k => op_getR fX1_29 dX1_runOnce_7 e_x40 k) ?_
  obtain ⟨r42, e_r42, hb43⟩ := ob2 hb41
  refine sx_callV (dc := 2) (as := [.int v2, .ref x40]) (stq := [.int r42.1]) (by omega) dX1_runOnce_10 MX9_isSo kX1_114 iX9_isSo sX9_isSo rfl rfl (Text_isSo_o e_r42) rfl rfl (Nat.le_of_ble_eq_true rfl) (Nat.le_of_ble_eq_true rfl) (Text_isSo_s e_r42) rfl ?_
  refine Sx.bn (fun _ _ _ k1 k2 => ex_if_ne 18 dX1_runOnce_13 (by decide) k1 k2) (fun q => ?_) (fun q => ?_)
  · have hb45 := iq q hb43
    refine Sx.o (fun _ _ _ k => ex_aload_n dX1_runOnce_18 rfl rfl k) ?_
    refine Sx.o (fun _ _ _ k => ex_iload_n dX1_runOnce_19 rfl k) ?_
    obtain ⟨x47, e_x47, hb48⟩ := ob2 hb45
    refine sx_callV (dc := 0) (as := [.int v2]) (stq := [.int x47]) (by omega) dX1_runOnce_20 MX9_kindOf kX1_118 iX9_kindOf sX9_kindOf rfl rfl (Text_kindOf_o e_x47) rfl rfl (Nat.le_of_ble_eq_true rfl) (Nat.le_of_ble_eq_true rfl) (Text_kindOf_s e_x47) rfl ?_
    refine Sx.o (L' := [.ref v0, .ref v1, .int v2, .int x47, .retAddr 0, .retAddr 0, .retAddr 0, .retAddr 0]) (fun _ _ _ k => ex_istore_n dX1_runOnce_23 (by decide) k) ?_
    refine Sx.o (fun _ _ _ k => ex_aload_n dX1_runOnce_24 rfl rfl k) ?_
    refine Sx.o (fun _ _ _ k => ex_iload_n dX1_runOnce_25 rfl k) ?_
    refine Sx.o (fun _ _ _ k => op_iconst (0 : Int32) dX1_runOnce_26 (by decide) k) ?_
    refine Sx.o (fun _ _ _ k => ex_aload_n dX1_runOnce_27 rfl rfl k) ?_
    obtain ⟨x49, e_x49, hb50⟩ := ob2 hb48
    refine Sx.o (fun _ _ _ k => op_getR fX1_29 dX1_runOnce_28 e_x49 k) ?_
    obtain ⟨r51, e_r51, hb52⟩ := ob2 hb50
    refine sx_callV (dc := 2) (as := [.int v2, .int (0 : Int32), .ref x49]) (stq := [.int r51.1]) (by omega) dX1_runOnce_31 MX9_sumOf kX1_121 iX9_sumOf sX9_sumOf rfl rfl (Text_sumOf_o e_r51) rfl rfl (Nat.le_of_ble_eq_true rfl) (Nat.le_of_ble_eq_true rfl) (Text_sumOf_s e_r51) rfl ?_
    refine Sx.o (L' := [.ref v0, .ref v1, .int v2, .int x47, .int r51.1, .retAddr 0, .retAddr 0, .retAddr 0]) (fun _ _ _ k => ex_istore dX1_runOnce_34 (by decide) k) ?_
    refine Sx.o (fun _ _ _ k => ex_iload_n dX1_runOnce_36 rfl k) ?_
    refine Sx.bn (fun _ _ _ k1 k2 => ex_if_ne 44 dX1_runOnce_37 (by decide) k1 k2) (fun q => ?_) (fun q => ?_)
    · have hb54 := iq q hb52
      refine Sx.o (fun _ _ _ k => ex_aload_n dX1_runOnce_44 rfl rfl k) ?_
      refine Sx.o (fun _ _ _ k => ex_iload_n dX1_runOnce_45 rfl k) ?_
      refine Sx.o (fun _ _ _ k => op_iconst (1 : Int32) dX1_runOnce_46 (by decide) k) ?_
      refine Sx.o (fun _ _ _ k => ex_aload_n dX1_runOnce_47 rfl rfl k) ?_
      obtain ⟨x56, e_x56, hb57⟩ := ob2 hb54
      refine Sx.o (fun _ _ _ k => op_getR fX1_29 dX1_runOnce_48 e_x56 k) ?_
      obtain ⟨r58, e_r58, hb59⟩ := ob2 hb57
      refine sx_callV (dc := 2) (as := [.int v2, .int (1 : Int32), .ref x56]) (stq := [.int r58.1]) (by omega) dX1_runOnce_51 MX9_sumOf kX1_121 iX9_sumOf sX9_sumOf rfl rfl (Text_sumOf_o e_r58) rfl rfl (Nat.le_of_ble_eq_true rfl) (Nat.le_of_ble_eq_true rfl) (Text_sumOf_s e_r58) rfl ?_
      exact Hands_runOnce_54_s hb59
    · have hb55 := ip q hb52
      refine Sx.o (fun _ _ _ k => op_iconst (0 : Int32) dX1_runOnce_40 (by decide) k) ?_
      refine Sx.o (fun _ _ _ k => ex_goto 54 dX1_runOnce_41 (by decide) k) ?_
      exact Hands_runOnce_54_s hb55
  · have hb46 := ip q hb43
    refine Sx.o (fun _ _ _ k => op_iconst (1 : Int32) dX1_runOnce_16 (by decide) k) ?_
    obtain rfl := Option.some.inj hb46
    exact Sx.r (fun _ _ _ k => ex_zret rfl rfl dX1_runOnce_17 k)
set_option maxHeartbeats 1000000 in
set_option maxRecDepth 100000 in
theorem Hands_runOnce_q {v0 : Nat} {v1 : Nat} {v2 : Int32} {h : am_H} {r : (Int32 × am_H)} (hb : Hands_runOnce v0 v1 v2 h = some r) : Eqs h r.2 := by
  unfold Hands_runOnce at hb
  have hb := (iz hb).2
  have w0 := Eqs.rf h
  obtain ⟨h37, e_h37, hb38⟩ := ob2 hb
  have w39 := w0.tr (Hands_fillWords_q e_h37)
  obtain ⟨x40, e_x40, hb41⟩ := ob2 hb38
  obtain ⟨r42, e_r42, hb43⟩ := ob2 hb41
  have w44 := w39.tr (Text_isSo_q e_r42)
  by_cases q : r42.1 = (0 : Int32)
  · have hb46 := ip q hb43
    obtain rfl := Option.some.inj hb46
    exact w44
  · have hb45 := iq q hb43
    obtain ⟨x47, e_x47, hb48⟩ := ob2 hb45
    obtain ⟨x49, e_x49, hb50⟩ := ob2 hb48
    obtain ⟨r51, e_r51, hb52⟩ := ob2 hb50
    have w53 := w44.tr (Text_sumOf_q e_r51)
    by_cases q : x47 = (0 : Int32)
    · have hb55 := ip q hb52
      exact w53.tr (Hands_runOnce_54_q hb55)
    · have hb54 := iq q hb52
      obtain ⟨x56, e_x56, hb57⟩ := ob2 hb54
      obtain ⟨r58, e_r58, hb59⟩ := ob2 hb57
      have w60 := w53.tr (Text_sumOf_q e_r58)
      exact w60.tr (Hands_runOnce_54_q hb59)
theorem Hands_runOnce_o {v0 : Nat} {v1 : Nat} {v2 : Int32} {h : am_H} {r : (Int32 × am_H)} (hb : Hands_runOnce v0 v1 v2 h = some r) : isO h 1 v0 = true := by
  unfold Hands_runOnce at hb
  exact (iz hb).1
set_option maxHeartbeats 1000000 in
set_option maxRecDepth 100000 in
noncomputable def Hands_run_34_b (g : (Nat × Int32 × Int32 × Nat × Nat × am_H) → Option (Int32 × am_H)) (v0 : Nat) (v1 : Nat) (v2 : Int32) (h : am_H) : Option (Int32 × am_H) := (gI h 9 v1 2).bind fun x1 => if x1 ≤ v2 then (gI h 1 v0 7).bind fun x5 => some (x5, h) else g (44, v2, (0 : Int32), v0, v1, h)
set_option maxHeartbeats 1000000 in
set_option maxRecDepth 100000 in
theorem Hands_run_34_m {g g2 : (Nat × Int32 × Int32 × Nat × Nat × am_H) → Option (Int32 × am_H)} (hg : ∀ s, Le (g s) (g2 s)) (v0 : Nat) (v1 : Nat) (v2 : Int32) (h : am_H) : Le (Hands_run_34_b g v0 v1 v2 h) (Hands_run_34_b g2 v0 v1 v2 h) := by unfold Hands_run_34_b; exact le_b (le_r _) fun x1 => le_i (le_r _) (hg _)
set_option maxHeartbeats 1000000 in
set_option maxRecDepth 100000 in
noncomputable def Hands_run_44_b (g : (Nat × Int32 × Int32 × Nat × Nat × am_H) → Option (Int32 × am_H)) (v0 : Nat) (v1 : Nat) (v2 : Int32) (v3 : Int32) (h : am_H) : Option (Int32 × am_H) := (Text_timesOf v1 v2 h).bind fun x7 => if x7 ≤ v3 then g (34, (v2 + (1 : Int32)), 0, v0, v1, h) else (Hands_runOnce v0 v1 v2 h).bind fun r11 => if r11.1 = (0 : Int32) then (gR r11.2 1 v0 1).bind fun x16 => (gR r11.2 1 v0 4).bind fun x18 => (Table_copyHeaps x16 x18 r11.2).bind fun h20 => (gR h20 1 v0 2).bind fun x23 => (gR h20 1 v0 5).bind fun x25 => (Past_copy x23 x25 h20).bind fun h27 => (pV h27 1 v0 0 (.int v2)).bind fun h30 => some ((-3 : Int32), h30) else g (44, v2, (v3 + (1 : Int32)), v0, v1, r11.2)
set_option maxHeartbeats 1000000 in
set_option maxRecDepth 100000 in
theorem Hands_run_44_m {g g2 : (Nat × Int32 × Int32 × Nat × Nat × am_H) → Option (Int32 × am_H)} (hg : ∀ s, Le (g s) (g2 s)) (v0 : Nat) (v1 : Nat) (v2 : Int32) (v3 : Int32) (h : am_H) : Le (Hands_run_44_b g v0 v1 v2 v3 h) (Hands_run_44_b g2 v0 v1 v2 v3 h) := by unfold Hands_run_44_b; exact le_b (le_r _) fun x7 => le_i (hg _) (le_b (le_r _) fun r11 => le_i (le_r _) (hg _))
noncomputable def Hands_run_34_F (g : (Nat × Int32 × Int32 × Nat × Nat × am_H) → Option (Int32 × am_H)) (s : (Nat × Int32 × Int32 × Nat × Nat × am_H)) : Option (Int32 × am_H) := if s.1 = 34 then Hands_run_34_b g s.2.2.2.1 s.2.2.2.2.1 s.2.1 s.2.2.2.2.2 else if s.1 = 44 then Hands_run_44_b g s.2.2.2.1 s.2.2.2.2.1 s.2.1 s.2.2.1 s.2.2.2.2.2 else none
theorem Hands_run_34_M : Mn Hands_run_34_F := fun g g2 hg s => by unfold Hands_run_34_F; exact le_i (Hands_run_34_m hg s.2.2.2.1 s.2.2.2.2.1 s.2.1 s.2.2.2.2.2) (le_i (Hands_run_44_m hg s.2.2.2.1 s.2.2.2.2.1 s.2.1 s.2.2.1 s.2.2.2.2.2) (le_r _))
def Hands_run_34_P (s : (Nat × Int32 × Int32 × Nat × Nat × am_H)) (r : (Int32 × am_H)) : Prop := (s.1 = 34 → Sx 6 mX1_run 34 [.ref s.2.2.2.1, .ref s.2.2.2.2.1, .int s.2.1, .retAddr 0] [] s.2.2.2.2.2 (some (.int r.1)) r.2) ∧ (s.1 = 44 → Sx 6 mX1_run 44 [.ref s.2.2.2.1, .ref s.2.2.2.2.1, .int s.2.1, .int s.2.2.1] [] s.2.2.2.2.2 (some (.int r.1)) r.2) ∧ True
set_option maxHeartbeats 1000000 in
set_option maxRecDepth 100000 in
theorem Hands_run_34_t {g : (Nat × Int32 × Int32 × Nat × Nat × am_H) → Option (Int32 × am_H)} (hg : ∀ s r, g s = some r → Hands_run_34_P s r) {v0 : Nat} {v1 : Nat} {v2 : Int32} {h : am_H} {r : (Int32 × am_H)} (hb : Hands_run_34_b g v0 v1 v2 h = some r) : Sx 6 mX1_run 34 [.ref v0, .ref v1, .int v2, .retAddr 0] [] h (some (.int r.1)) r.2 := by
  unfold Hands_run_34_b at hb
  refine Sx.o (fun _ _ _ k => ex_iload_n dX1_run_34 rfl k) ?_
  refine Sx.o (fun _ _ _ k => ex_aload_n dX1_run_35 rfl rfl k) ?_
  obtain ⟨x1, e_x1, hb2⟩ := ob2 hb
  refine Sx.o (fun _ _ _ k => op_getI fX1_99 dX1_run_36 e_x1 k) ?_
  refine Sx.b (fun _ _ _ k1 k2 => ex_icmp_ge 104 dX1_run_39 (by decide) k1 k2) (fun q => ?_) (fun q => ?_)
  · have hb3 := ip q hb2
    refine Sx.o (fun _ _ _ k => ex_aload_n dX1_run_104 rfl rfl k) ?_
    obtain ⟨x5, e_x5, hb6⟩ := ob2 hb3
    refine Sx.o (fun _ _ _ k => op_getI fX1_93 dX1_run_105 e_x5 k) ?_
    obtain rfl := Option.some.inj hb6
    exact Sx.r (fun _ _ _ k => ex_iret rfl dX1_run_108 k)
  · have hb4 := iq q hb2
    refine Sx.o (fun _ _ _ k => op_iconst (0 : Int32) dX1_run_42 (by decide) k) ?_
    refine Sx.o (L' := [.ref v0, .ref v1, .int v2, .int (0 : Int32)]) (fun _ _ _ k => ex_istore_n dX1_run_43 (by decide) k) ?_
    exact (hg _ _ hb4).2.1 rfl
set_option maxHeartbeats 1000000 in
set_option maxRecDepth 100000 in
theorem Hands_run_44_t {g : (Nat × Int32 × Int32 × Nat × Nat × am_H) → Option (Int32 × am_H)} (hg : ∀ s r, g s = some r → Hands_run_34_P s r) {v0 : Nat} {v1 : Nat} {v2 : Int32} {v3 : Int32} {h : am_H} {r : (Int32 × am_H)} (hb : Hands_run_44_b g v0 v1 v2 v3 h = some r) : Sx 6 mX1_run 44 [.ref v0, .ref v1, .int v2, .int v3] [] h (some (.int r.1)) r.2 := by
  unfold Hands_run_44_b at hb
  refine Sx.o (fun _ _ _ k => ex_iload_n dX1_run_44 rfl k) ?_
  refine Sx.o (fun _ _ _ k => ex_aload_n dX1_run_45 rfl rfl k) ?_
  refine Sx.o (fun _ _ _ k => ex_iload_n dX1_run_46 rfl k) ?_
  obtain ⟨x7, e_x7, hb8⟩ := ob2 hb
  refine sx_callV (dc := 0) (as := [.int v2]) (stq := [.int x7, .int v3]) (by omega) dX1_run_47 MX9_timesOf kX1_104 iX9_timesOf sX9_timesOf rfl rfl (Text_timesOf_o e_x7) rfl rfl (Nat.le_of_ble_eq_true rfl) (Nat.le_of_ble_eq_true rfl) (Text_timesOf_s e_x7) rfl ?_
  refine Sx.b (fun _ _ _ k1 k2 => ex_icmp_ge 98 dX1_run_50 (by decide) k1 k2) (fun q => ?_) (fun q => ?_)
  · have hb9 := ip q hb8
    refine Sx.o (L' := [.ref v0, .ref v1, .int (v2 + (1 : Int32)), .int v3]) (fun _ _ _ k => op_iinc (1 : Int32) dX1_run_98 (by decide) rfl (by decide) k) ?_
    refine Sx.o (fun _ _ _ k => ex_goto 34 dX1_run_101 (by decide) k) ?_
    refine Sx.fg [true, true, true, false] ?_
    exact (hg _ _ hb9).1 rfl
  · have hb10 := iq q hb8
    refine Sx.o (fun _ _ _ k => ex_aload_n dX1_run_53 rfl rfl k) ?_
    refine Sx.o (fun _ _ _ k => ex_aload_n dX1_run_54 rfl rfl k) ?_
    refine Sx.o (fun _ _ _ k => ex_iload_n dX1_run_55 rfl k) ?_
    obtain ⟨r11, e_r11, hb12⟩ := ob2 hb10
    refine sx_callV (dc := 5) (as := [.ref v1, .int v2]) (stq := [.int r11.1]) (by omega) dX1_run_56 MX1_runOnce kX1_107 iX1_runOnce sX1_runOnce rfl rfl (Hands_runOnce_o e_r11) rfl rfl (Nat.le_of_ble_eq_true rfl) (Nat.le_of_ble_eq_true rfl) (Hands_runOnce_s e_r11) rfl ?_
    refine Sx.bn (fun _ _ _ k1 k2 => ex_if_ne 92 dX1_run_59 (by decide) k1 k2) (fun q => ?_) (fun q => ?_)
    · have hb14 := iq q hb12
      refine Sx.o (L' := [.ref v0, .ref v1, .int v2, .int (v3 + (1 : Int32))]) (fun _ _ _ k => op_iinc (1 : Int32) dX1_run_92 (by decide) rfl (by decide) k) ?_
      refine Sx.o (fun _ _ _ k => ex_goto 44 dX1_run_95 (by decide) k) ?_
      exact (hg _ _ hb14).2.1 rfl
    · have hb15 := ip q hb12
      refine Sx.o (fun _ _ _ k => ex_aload_n dX1_run_62 rfl rfl k) ?_
      obtain ⟨x16, e_x16, hb17⟩ := ob2 hb15
      refine Sx.o (fun _ _ _ k => op_getR fX1_33 dX1_run_63 e_x16 k) ?_
      refine Sx.o (fun _ _ _ k => ex_aload_n dX1_run_66 rfl rfl k) ?_
      obtain ⟨x18, e_x18, hb19⟩ := ob2 hb17
      refine Sx.o (fun _ _ _ k => op_getR fX1_18 dX1_run_67 e_x18 k) ?_
      obtain ⟨h20, e_h20, hb21⟩ := ob2 hb19
      refine sx_callV (dc := 2) (as := [.ref x18]) (stq := []) (by omega) dX1_run_70 MX7_copyHeaps kX1_85 iX7_copyHeaps sX7_copyHeaps rfl rfl (Table_copyHeaps_o e_h20) rfl rfl (Nat.le_of_ble_eq_true rfl) (Nat.le_of_ble_eq_true rfl) (Table_copyHeaps_s e_h20) rfl ?_
      refine Sx.o (fun _ _ _ k => ex_aload_n dX1_run_73 rfl rfl k) ?_
      obtain ⟨x23, e_x23, hb24⟩ := ob2 hb21
      refine Sx.o (fun _ _ _ k => op_getR fX1_36 dX1_run_74 e_x23 k) ?_
      refine Sx.o (fun _ _ _ k => ex_aload_n dX1_run_77 rfl rfl k) ?_
      obtain ⟨x25, e_x25, hb26⟩ := ob2 hb24
      refine Sx.o (fun _ _ _ k => op_getR fX1_25 dX1_run_78 e_x25 k) ?_
      obtain ⟨h27, e_h27, hb28⟩ := ob2 hb26
      refine sx_callV (dc := 2) (as := [.ref x25]) (stq := []) (by omega) dX1_run_81 MX2_copy kX1_89 iX2_copy sX2_copy rfl rfl (Past_copy_o e_h27) rfl rfl (Nat.le_of_ble_eq_true rfl) (Nat.le_of_ble_eq_true rfl) (Past_copy_s e_h27) rfl ?_
      refine Sx.o (fun _ _ _ k => ex_aload_n dX1_run_84 rfl rfl k) ?_
      refine Sx.o (fun _ _ _ k => ex_iload_n dX1_run_85 rfl k) ?_
      obtain ⟨h30, e_h30, hb31⟩ := ob2 hb28
      refine Sx.p (pV_q e_h30) (fun _ _ _ k => op_put pX1_9 dX1_run_86 e_h30 (fun _ => rfl) (fun _ => rfl) k) ?_
      refine Sx.o (fun _ _ _ k => op_bipush (-3 : Int32) dX1_run_89 (by decide) k) ?_
      obtain rfl := Option.some.inj hb31
      exact Sx.r (fun _ _ _ k => ex_iret rfl dX1_run_91 k)
theorem Hands_run_34_T : ∀ s r, fx Hands_run_34_F Hands_run_34_M s = some r → Hands_run_34_P s r := fx_ind Hands_run_34_M Hands_run_34_P (fun g hg s r hb => by
  unfold Hands_run_34_F at hb
  exact ⟨fun q => Hands_run_34_t hg (ip q hb), fun q => Hands_run_44_t hg (ip q (iq (by rw [q]; decide) hb)), trivial⟩)
set_option maxHeartbeats 1000000 in
set_option maxRecDepth 100000 in
theorem Hands_run_34_r {g : (Nat × Int32 × Int32 × Nat × Nat × am_H) → Option (Int32 × am_H)} (hg : ∀ s r, g s = some r → Eqs s.2.2.2.2.2 r.2) {v0 : Nat} {v1 : Nat} {v2 : Int32} {h : am_H} {r : (Int32 × am_H)} (hb : Hands_run_34_b g v0 v1 v2 h = some r) : Eqs h r.2 := by
  unfold Hands_run_34_b at hb
  have w0 := Eqs.rf h
  obtain ⟨x1, e_x1, hb2⟩ := ob2 hb
  by_cases q : x1 ≤ v2
  · have hb3 := ip q hb2
    obtain ⟨x5, e_x5, hb6⟩ := ob2 hb3
    obtain rfl := Option.some.inj hb6
    exact w0
  · have hb4 := iq q hb2
    exact w0.tr (hg _ _ hb4)
set_option maxHeartbeats 1000000 in
set_option maxRecDepth 100000 in
theorem Hands_run_44_r {g : (Nat × Int32 × Int32 × Nat × Nat × am_H) → Option (Int32 × am_H)} (hg : ∀ s r, g s = some r → Eqs s.2.2.2.2.2 r.2) {v0 : Nat} {v1 : Nat} {v2 : Int32} {v3 : Int32} {h : am_H} {r : (Int32 × am_H)} (hb : Hands_run_44_b g v0 v1 v2 v3 h = some r) : Eqs h r.2 := by
  unfold Hands_run_44_b at hb
  have w0 := Eqs.rf h
  obtain ⟨x7, e_x7, hb8⟩ := ob2 hb
  by_cases q : x7 ≤ v3
  · have hb9 := ip q hb8
    exact w0.tr (hg _ _ hb9)
  · have hb10 := iq q hb8
    obtain ⟨r11, e_r11, hb12⟩ := ob2 hb10
    have w13 := w0.tr (Hands_runOnce_q e_r11)
    by_cases q : r11.1 = (0 : Int32)
    · have hb15 := ip q hb12
      obtain ⟨x16, e_x16, hb17⟩ := ob2 hb15
      obtain ⟨x18, e_x18, hb19⟩ := ob2 hb17
      obtain ⟨h20, e_h20, hb21⟩ := ob2 hb19
      have w22 := w13.tr (Table_copyHeaps_q e_h20)
      obtain ⟨x23, e_x23, hb24⟩ := ob2 hb21
      obtain ⟨x25, e_x25, hb26⟩ := ob2 hb24
      obtain ⟨h27, e_h27, hb28⟩ := ob2 hb26
      have w29 := w22.tr (Past_copy_q e_h27)
      obtain ⟨h30, e_h30, hb31⟩ := ob2 hb28
      have w32 := w29.tr (pV_q e_h30)
      obtain rfl := Option.some.inj hb31
      exact w32
    · have hb14 := iq q hb12
      exact w13.tr (hg _ _ hb14)
theorem Hands_run_34_Q : ∀ s r, fx Hands_run_34_F Hands_run_34_M s = some r → Eqs s.2.2.2.2.2 r.2 := fx_ind Hands_run_34_M (fun s r => Eqs s.2.2.2.2.2 r.2) (fun g hg s r hb => by
  unfold Hands_run_34_F at hb
  by_cases q0 : s.1 = 34
  · exact Hands_run_34_r hg (ip q0 hb)
  · have hb0 := iq q0 hb
    by_cases q1 : s.1 = 44
    · exact Hands_run_44_r hg (ip q1 hb0)
    · have hb1 := iq q1 hb0
      exact nomatch hb1)
noncomputable def Hands_run_34 (v0 : Nat) (v1 : Nat) (v2 : Int32) (h : am_H) : Option (Int32 × am_H) := fx Hands_run_34_F Hands_run_34_M (34, v2, 0, v0, v1, h)
noncomputable def Hands_run_44 (v0 : Nat) (v1 : Nat) (v2 : Int32) (v3 : Int32) (h : am_H) : Option (Int32 × am_H) := fx Hands_run_34_F Hands_run_34_M (44, v2, v3, v0, v1, h)
set_option maxHeartbeats 1000000 in
set_option maxRecDepth 100000 in
theorem Hands_run_34_e (v0 : Nat) (v1 : Nat) (v2 : Int32) (h : am_H) : Hands_run_34 v0 v1 v2 h = ((gI h 9 v1 2).bind fun x1 => if x1 ≤ v2 then (gI h 1 v0 7).bind fun x5 => some (x5, h) else Hands_run_44 v0 v1 v2 (0 : Int32) h) := (fx_eq Hands_run_34_M (34, v2, 0, v0, v1, h)).trans (if_pos rfl)
theorem Hands_run_34_q {v0 : Nat} {v1 : Nat} {v2 : Int32} {h : am_H} {r : (Int32 × am_H)} (hb : Hands_run_34 v0 v1 v2 h = some r) : Eqs h r.2 := Hands_run_34_Q _ _ hb
theorem Hands_run_34_s {v0 : Nat} {v1 : Nat} {v2 : Int32} {h : am_H} {r : (Int32 × am_H)} (hb : Hands_run_34 v0 v1 v2 h = some r) : Sx 6 mX1_run 34 [.ref v0, .ref v1, .int v2, .retAddr 0] [] h (some (.int r.1)) r.2 := (Hands_run_34_T _ _ hb).1 rfl
set_option maxHeartbeats 1000000 in
set_option maxRecDepth 100000 in
theorem Hands_run_44_e (v0 : Nat) (v1 : Nat) (v2 : Int32) (v3 : Int32) (h : am_H) : Hands_run_44 v0 v1 v2 v3 h = ((Text_timesOf v1 v2 h).bind fun x7 => if x7 ≤ v3 then Hands_run_34 v0 v1 (v2 + (1 : Int32)) h else (Hands_runOnce v0 v1 v2 h).bind fun r11 => if r11.1 = (0 : Int32) then (gR r11.2 1 v0 1).bind fun x16 => (gR r11.2 1 v0 4).bind fun x18 => (Table_copyHeaps x16 x18 r11.2).bind fun h20 => (gR h20 1 v0 2).bind fun x23 => (gR h20 1 v0 5).bind fun x25 => (Past_copy x23 x25 h20).bind fun h27 => (pV h27 1 v0 0 (.int v2)).bind fun h30 => some ((-3 : Int32), h30) else Hands_run_44 v0 v1 v2 (v3 + (1 : Int32)) r11.2) := (fx_eq Hands_run_34_M (44, v2, v3, v0, v1, h)).trans ((if_neg (show ¬ (44 : Nat) = 34 by decide)).trans (if_pos rfl))
theorem Hands_run_44_q {v0 : Nat} {v1 : Nat} {v2 : Int32} {v3 : Int32} {h : am_H} {r : (Int32 × am_H)} (hb : Hands_run_44 v0 v1 v2 v3 h = some r) : Eqs h r.2 := Hands_run_34_Q _ _ hb
theorem Hands_run_44_s {v0 : Nat} {v1 : Nat} {v2 : Int32} {v3 : Int32} {h : am_H} {r : (Int32 × am_H)} (hb : Hands_run_44 v0 v1 v2 v3 h = some r) : Sx 6 mX1_run 44 [.ref v0, .ref v1, .int v2, .int v3] [] h (some (.int r.1)) r.2 := (Hands_run_34_T _ _ hb).2.1 rfl
set_option maxHeartbeats 1000000 in
set_option maxRecDepth 100000 in
noncomputable def Hands_run (v0 : Nat) (v1 : Nat) (h : am_H) : Option (Int32 × am_H) := if isO h 1 v0 = true then (gR h 1 v0 4).bind fun x33 => (gR h 1 v0 1).bind fun x35 => (Table_copyHeaps x33 x35 h).bind fun h37 => (gR h37 1 v0 5).bind fun x40 => (gR h37 1 v0 2).bind fun x42 => (Past_copy x40 x42 h37).bind fun h44 => (pV h44 1 v0 7 (.int (0 : Int32))).bind fun h47 => (pV h47 1 v0 8 (.int (-1 : Int32))).bind fun h50 => Hands_run_34 v0 v1 (0 : Int32) h50 else none
set_option maxHeartbeats 1000000 in
set_option maxRecDepth 100000 in
theorem Hands_run_s {v0 : Nat} {v1 : Nat} {h : am_H} {r : (Int32 × am_H)} (hb : Hands_run v0 v1 h = some r) : Sx 6 mX1_run 0 (am_en [.ref v0, .ref v1] 4) [] h (some (.int r.1)) r.2 := by
  unfold Hands_run at hb
  have hb := (iz hb).2
  show Sx 6 mX1_run 0 [.ref v0, .ref v1, .retAddr 0, .retAddr 0] [] h (some (.int r.1)) r.2
  refine Sx.o (fun _ _ _ k => ex_aload_n dX1_run_0 rfl rfl k) ?_
  obtain ⟨x33, e_x33, hb34⟩ := ob2 hb
  refine Sx.o (fun _ _ _ k => op_getR fX1_18 dX1_run_1 e_x33 k) ?_
  refine Sx.o (fun _ _ _ k => ex_aload_n dX1_run_4 rfl rfl k) ?_
  obtain ⟨x35, e_x35, hb36⟩ := ob2 hb34
  refine Sx.o (fun _ _ _ k => op_getR fX1_33 dX1_run_5 e_x35 k) ?_
  obtain ⟨h37, e_h37, hb38⟩ := ob2 hb36
  refine sx_callV (dc := 2) (as := [.ref x35]) (stq := []) (by omega) dX1_run_8 MX7_copyHeaps kX1_85 iX7_copyHeaps sX7_copyHeaps rfl rfl (Table_copyHeaps_o e_h37) rfl rfl (Nat.le_of_ble_eq_true rfl) (Nat.le_of_ble_eq_true rfl) (Table_copyHeaps_s e_h37) rfl ?_
  refine Sx.o (fun _ _ _ k => ex_aload_n dX1_run_11 rfl rfl k) ?_
  obtain ⟨x40, e_x40, hb41⟩ := ob2 hb38
  refine Sx.o (fun _ _ _ k => op_getR fX1_25 dX1_run_12 e_x40 k) ?_
  refine Sx.o (fun _ _ _ k => ex_aload_n dX1_run_15 rfl rfl k) ?_
  obtain ⟨x42, e_x42, hb43⟩ := ob2 hb41
  refine Sx.o (fun _ _ _ k => op_getR fX1_36 dX1_run_16 e_x42 k) ?_
  obtain ⟨h44, e_h44, hb45⟩ := ob2 hb43
  refine sx_callV (dc := 2) (as := [.ref x42]) (stq := []) (by omega) dX1_run_19 MX2_copy kX1_89 iX2_copy sX2_copy rfl rfl (Past_copy_o e_h44) rfl rfl (Nat.le_of_ble_eq_true rfl) (Nat.le_of_ble_eq_true rfl) (Past_copy_s e_h44) rfl ?_
  refine Sx.o (fun _ _ _ k => ex_aload_n dX1_run_22 rfl rfl k) ?_
  refine Sx.o (fun _ _ _ k => op_iconst (0 : Int32) dX1_run_23 (by decide) k) ?_
  obtain ⟨h47, e_h47, hb48⟩ := ob2 hb45
  refine Sx.p (pV_q e_h47) (fun _ _ _ k => op_put pX1_93 dX1_run_24 e_h47 (fun _ => rfl) (fun _ => rfl) k) ?_
  refine Sx.o (fun _ _ _ k => ex_aload_n dX1_run_27 rfl rfl k) ?_
  refine Sx.o (fun _ _ _ k => op_iconst (-1 : Int32) dX1_run_28 (by decide) k) ?_
  obtain ⟨h50, e_h50, hb51⟩ := ob2 hb48
  refine Sx.p (pV_q e_h50) (fun _ _ _ k => op_put pX1_96 dX1_run_29 e_h50 (fun _ => rfl) (fun _ => rfl) k) ?_
  refine Sx.o (fun _ _ _ k => op_iconst (0 : Int32) dX1_run_32 (by decide) k) ?_
  refine Sx.o (L' := [.ref v0, .ref v1, .int (0 : Int32), .retAddr 0]) (fun _ _ _ k => ex_istore_n dX1_run_33 (by decide) k) ?_
  exact Hands_run_34_s hb51
set_option maxHeartbeats 1000000 in
set_option maxRecDepth 100000 in
theorem Hands_run_q {v0 : Nat} {v1 : Nat} {h : am_H} {r : (Int32 × am_H)} (hb : Hands_run v0 v1 h = some r) : Eqs h r.2 := by
  unfold Hands_run at hb
  have hb := (iz hb).2
  have w0 := Eqs.rf h
  obtain ⟨x33, e_x33, hb34⟩ := ob2 hb
  obtain ⟨x35, e_x35, hb36⟩ := ob2 hb34
  obtain ⟨h37, e_h37, hb38⟩ := ob2 hb36
  have w39 := w0.tr (Table_copyHeaps_q e_h37)
  obtain ⟨x40, e_x40, hb41⟩ := ob2 hb38
  obtain ⟨x42, e_x42, hb43⟩ := ob2 hb41
  obtain ⟨h44, e_h44, hb45⟩ := ob2 hb43
  have w46 := w39.tr (Past_copy_q e_h44)
  obtain ⟨h47, e_h47, hb48⟩ := ob2 hb45
  have w49 := w46.tr (pV_q e_h47)
  obtain ⟨h50, e_h50, hb51⟩ := ob2 hb48
  have w52 := w49.tr (pV_q e_h50)
  exact w52.tr (Hands_run_34_q hb51)
theorem Hands_run_o {v0 : Nat} {v1 : Nat} {h : am_H} {r : (Int32 × am_H)} (hb : Hands_run v0 v1 h = some r) : isO h 1 v0 = true := by
  unfold Hands_run at hb
  exact (iz hb).1
