/-! Row: its methods as functions (by wip/whole/dec.py) -/
set_option maxHeartbeats 1000000 in
set_option maxRecDepth 100000 in
noncomputable def Row_has (v0 : Nat) (v1 : Int32) (h : am_H) : Option Int32 := if isO h 4 v0 = true then if v1 < (0 : Int32) then some (0 : Int32) else (gI h 4 v0 1).bind fun x3 => if x3 ≤ v1 then some (0 : Int32) else some (1 : Int32) else none
set_option maxHeartbeats 1000000 in
set_option maxRecDepth 100000 in
theorem Row_has_s {v0 : Nat} {v1 : Int32} {h : am_H} {r : Int32} (hb : Row_has v0 v1 h = some r) : Sx 0 mX4_has 0 (am_en [.ref v0, .int v1] 2) [] h (some (.int r)) h := by
  unfold Row_has at hb
  have hb := (iz hb).2
  show Sx 0 mX4_has 0 [.ref v0, .int v1] [] h (some (.int r)) h
  refine Sx.o (fun _ _ _ k => ex_iload_n dX4_has_0 rfl k) ?_
  refine Sx.b (fun _ _ _ k1 k2 => ex_if_lt 16 dX4_has_1 (by decide) k1 k2) (fun q => ?_) (fun q => ?_)
  · have hb1 := ip q hb
    refine Sx.o (fun _ _ _ k => op_iconst (0 : Int32) dX4_has_16 (by decide) k) ?_
    obtain rfl := Option.some.inj hb1
    exact Sx.r (fun _ _ _ k => ex_zret rfl rfl dX4_has_17 k)
  · have hb2 := iq q hb
    refine Sx.o (fun _ _ _ k => ex_iload_n dX4_has_4 rfl k) ?_
    refine Sx.o (fun _ _ _ k => ex_aload_n dX4_has_5 rfl rfl k) ?_
    obtain ⟨x3, e_x3, hb4⟩ := ob2 hb2
    refine Sx.o (fun _ _ _ k => op_getI fX4_25 dX4_has_6 e_x3 k) ?_
    refine Sx.b (fun _ _ _ k1 k2 => ex_icmp_ge 16 dX4_has_9 (by decide) k1 k2) (fun q => ?_) (fun q => ?_)
    · have hb5 := ip q hb4
      refine Sx.o (fun _ _ _ k => op_iconst (0 : Int32) dX4_has_16 (by decide) k) ?_
      obtain rfl := Option.some.inj hb5
      exact Sx.r (fun _ _ _ k => ex_zret rfl rfl dX4_has_17 k)
    · have hb6 := iq q hb4
      refine Sx.o (fun _ _ _ k => op_iconst (1 : Int32) dX4_has_12 (by decide) k) ?_
      refine Sx.o (fun _ _ _ k => ex_goto 17 dX4_has_13 (by decide) k) ?_
      obtain rfl := Option.some.inj hb6
      exact Sx.r (fun _ _ _ k => ex_zret rfl rfl dX4_has_17 k)
theorem Row_has_o {v0 : Nat} {v1 : Int32} {h : am_H} {r : Int32} (hb : Row_has v0 v1 h = some r) : isO h 4 v0 = true := by
  unfold Row_has at hb
  exact (iz hb).1
set_option maxHeartbeats 1000000 in
set_option maxRecDepth 100000 in
noncomputable def Row_exchange (v0 : Nat) (v1 : Int32) (v2 : Int32) (h : am_H) : Option am_H := if isO h 4 v0 = true then (Row_has v0 v1 h).bind fun x1 => if x1 = (0 : Int32) then some h else (Row_has v0 v2 h).bind fun x5 => if x5 = (0 : Int32) then some h else (gR h 4 v0 0).bind fun x9 => (aI h 0 x9 v1).bind fun x11 => (gR h 4 v0 0).bind fun x13 => (gR h 4 v0 0).bind fun x15 => (aI h 0 x15 v2).bind fun x17 => (sI h x13 v1 x17).bind fun h19 => (gR h19 4 v0 0).bind fun x22 => (sI h19 x22 v2 x11).bind fun h24 => some h24 else none
set_option maxHeartbeats 1000000 in
set_option maxRecDepth 100000 in
theorem Row_exchange_s {v0 : Nat} {v1 : Int32} {v2 : Int32} {h : am_H} {r : am_H} (hb : Row_exchange v0 v1 v2 h = some r) : Sx 1 mX4_exchange 0 (am_en [.ref v0, .int v1, .int v2] 4) [] h none r := by
  unfold Row_exchange at hb
  have hb := (iz hb).2
  show Sx 1 mX4_exchange 0 [.ref v0, .int v1, .int v2, .retAddr 0] [] h none r
  refine Sx.o (fun _ _ _ k => ex_aload_n dX4_exchange_0 rfl rfl k) ?_
  refine Sx.o (fun _ _ _ k => ex_iload_n dX4_exchange_1 rfl k) ?_
  obtain ⟨x1, e_x1, hb2⟩ := ob2 hb
  refine sx_callV (dc := 0) (as := [.int v1]) (stq := [.int x1]) (by omega) dX4_exchange_2 MX4_has kX4_43 iX4_has sX4_has rfl rfl (Row_has_o e_x1) rfl rfl (Nat.le_of_ble_eq_true rfl) (Nat.le_of_ble_eq_true rfl) (Row_has_s e_x1) rfl ?_
  refine Sx.b (fun _ _ _ k1 k2 => ex_if_eq 42 dX4_exchange_5 (by decide) k1 k2) (fun q => ?_) (fun q => ?_)
  · have hb3 := ip q hb2
    obtain rfl := Option.some.inj hb3
    exact Sx.r (fun _ _ _ k => ex_vret rfl dX4_exchange_42 k)
  · have hb4 := iq q hb2
    refine Sx.o (fun _ _ _ k => ex_aload_n dX4_exchange_8 rfl rfl k) ?_
    refine Sx.o (fun _ _ _ k => ex_iload_n dX4_exchange_9 rfl k) ?_
    obtain ⟨x5, e_x5, hb6⟩ := ob2 hb4
    refine sx_callV (dc := 0) (as := [.int v2]) (stq := [.int x5]) (by omega) dX4_exchange_10 MX4_has kX4_43 iX4_has sX4_has rfl rfl (Row_has_o e_x5) rfl rfl (Nat.le_of_ble_eq_true rfl) (Nat.le_of_ble_eq_true rfl) (Row_has_s e_x5) rfl ?_
    refine Sx.b (fun _ _ _ k1 k2 => ex_if_eq 42 dX4_exchange_13 (by decide) k1 k2) (fun q => ?_) (fun q => ?_)
    · have hb7 := ip q hb6
      obtain rfl := Option.some.inj hb7
      exact Sx.r (fun _ _ _ k => ex_vret rfl dX4_exchange_42 k)
    · have hb8 := iq q hb6
      refine Sx.o (fun _ _ _ k => ex_aload_n dX4_exchange_16 rfl rfl k) ?_
      obtain ⟨x9, e_x9, hb10⟩ := ob2 hb8
      refine Sx.o (fun _ _ _ k => op_getR fX4_9 dX4_exchange_17 e_x9 k) ?_
      refine Sx.o (fun _ _ _ k => ex_iload_n dX4_exchange_20 rfl k) ?_
      obtain ⟨x11, e_x11, hb12⟩ := ob2 hb10
      refine Sx.o (fun _ _ _ k => op_iald dX4_exchange_21 e_x11 k) ?_
      refine Sx.o (L' := [.ref v0, .int v1, .int v2, .int x11]) (fun _ _ _ k => ex_istore_n dX4_exchange_22 (by decide) k) ?_
      refine Sx.o (fun _ _ _ k => ex_aload_n dX4_exchange_23 rfl rfl k) ?_
      obtain ⟨x13, e_x13, hb14⟩ := ob2 hb12
      refine Sx.o (fun _ _ _ k => op_getR fX4_9 dX4_exchange_24 e_x13 k) ?_
      refine Sx.o (fun _ _ _ k => ex_iload_n dX4_exchange_27 rfl k) ?_
      refine Sx.o (fun _ _ _ k => ex_aload_n dX4_exchange_28 rfl rfl k) ?_
      obtain ⟨x15, e_x15, hb16⟩ := ob2 hb14
      refine Sx.o (fun _ _ _ k => op_getR fX4_9 dX4_exchange_29 e_x15 k) ?_
      refine Sx.o (fun _ _ _ k => ex_iload_n dX4_exchange_32 rfl k) ?_
      obtain ⟨x17, e_x17, hb18⟩ := ob2 hb16
      refine Sx.o (fun _ _ _ k => op_iald dX4_exchange_33 e_x17 k) ?_
      obtain ⟨h19, e_h19, hb20⟩ := ob2 hb18
      refine Sx.p (sI_q e_h19) (fun _ _ _ k => op_iast dX4_exchange_34 e_h19 k) ?_
      refine Sx.o (fun _ _ _ k => ex_aload_n dX4_exchange_35 rfl rfl k) ?_
      obtain ⟨x22, e_x22, hb23⟩ := ob2 hb20
      refine Sx.o (fun _ _ _ k => op_getR fX4_9 dX4_exchange_36 e_x22 k) ?_
      refine Sx.o (fun _ _ _ k => ex_iload_n dX4_exchange_39 rfl k) ?_
      refine Sx.o (fun _ _ _ k => ex_iload_n dX4_exchange_40 rfl k) ?_
      obtain ⟨h24, e_h24, hb25⟩ := ob2 hb23
      refine Sx.p (sI_q e_h24) (fun _ _ _ k => op_iast dX4_exchange_41 e_h24 k) ?_
      obtain rfl := Option.some.inj hb25
      exact Sx.r (fun _ _ _ k => ex_vret rfl dX4_exchange_42 k)
set_option maxHeartbeats 1000000 in
set_option maxRecDepth 100000 in
theorem Row_exchange_q {v0 : Nat} {v1 : Int32} {v2 : Int32} {h : am_H} {r : am_H} (hb : Row_exchange v0 v1 v2 h = some r) : Eqs h r := by
  unfold Row_exchange at hb
  have hb := (iz hb).2
  have w0 := Eqs.rf h
  obtain ⟨x1, e_x1, hb2⟩ := ob2 hb
  by_cases q : x1 = (0 : Int32)
  · have hb3 := ip q hb2
    obtain rfl := Option.some.inj hb3
    exact w0
  · have hb4 := iq q hb2
    obtain ⟨x5, e_x5, hb6⟩ := ob2 hb4
    by_cases q : x5 = (0 : Int32)
    · have hb7 := ip q hb6
      obtain rfl := Option.some.inj hb7
      exact w0
    · have hb8 := iq q hb6
      obtain ⟨x9, e_x9, hb10⟩ := ob2 hb8
      obtain ⟨x11, e_x11, hb12⟩ := ob2 hb10
      obtain ⟨x13, e_x13, hb14⟩ := ob2 hb12
      obtain ⟨x15, e_x15, hb16⟩ := ob2 hb14
      obtain ⟨x17, e_x17, hb18⟩ := ob2 hb16
      obtain ⟨h19, e_h19, hb20⟩ := ob2 hb18
      have w21 := w0.tr (sI_q e_h19)
      obtain ⟨x22, e_x22, hb23⟩ := ob2 hb20
      obtain ⟨h24, e_h24, hb25⟩ := ob2 hb23
      have w26 := w21.tr (sI_q e_h24)
      obtain rfl := Option.some.inj hb25
      exact w26
theorem Row_exchange_o {v0 : Nat} {v1 : Int32} {v2 : Int32} {h : am_H} {r : am_H} (hb : Row_exchange v0 v1 v2 h = some r) : isO h 4 v0 = true := by
  unfold Row_exchange at hb
  exact (iz hb).1
set_option maxHeartbeats 1000000 in
set_option maxRecDepth 100000 in
noncomputable def Row_copy (v0 : Nat) (v1 : Nat) (h : am_H) : Option am_H := if isO h 4 v0 = true then (gR h 4 v1 0).bind fun x1 => (gR h 4 v0 0).bind fun x3 => (cpy h x1 (0 : Int32) x3 (0 : Int32) (13 : Int32)).bind fun h5 => (gI h5 4 v1 1).bind fun x8 => (pV h5 4 v0 1 (.int x8)).bind fun h10 => (gI h10 4 v1 2).bind fun x13 => (pV h10 4 v0 2 (.int x13)).bind fun h15 => (gI h15 4 v1 3).bind fun x18 => (pV h15 4 v0 3 (.int x18)).bind fun h20 => (gI h20 4 v1 4).bind fun x23 => (pV h20 4 v0 4 (.int x23)).bind fun h25 => some h25 else none
set_option maxHeartbeats 1000000 in
set_option maxRecDepth 100000 in
theorem Row_copy_s {v0 : Nat} {v1 : Nat} {h : am_H} {r : am_H} (hb : Row_copy v0 v1 h = some r) : Sx 1 mX4_copy 0 (am_en [.ref v0, .ref v1] 2) [] h none r := by
  unfold Row_copy at hb
  have hb := (iz hb).2
  show Sx 1 mX4_copy 0 [.ref v0, .ref v1] [] h none r
  refine Sx.o (fun _ _ _ k => ex_aload_n dX4_copy_0 rfl rfl k) ?_
  obtain ⟨x1, e_x1, hb2⟩ := ob2 hb
  refine Sx.o (fun _ _ _ k => op_getR fX4_9 dX4_copy_1 e_x1 k) ?_
  refine Sx.o (fun _ _ _ k => op_iconst (0 : Int32) dX4_copy_4 (by decide) k) ?_
  refine Sx.o (fun _ _ _ k => ex_aload_n dX4_copy_5 rfl rfl k) ?_
  obtain ⟨x3, e_x3, hb4⟩ := ob2 hb2
  refine Sx.o (fun _ _ _ k => op_getR fX4_9 dX4_copy_6 e_x3 k) ?_
  refine Sx.o (fun _ _ _ k => op_iconst (0 : Int32) dX4_copy_9 (by decide) k) ?_
  refine Sx.o (fun _ _ _ k => op_bipush (13 : Int32) dX4_copy_10 (by decide) k) ?_
  obtain ⟨h5, e_h5, hb6⟩ := ob2 hb4
  refine Sx.p (cpy_q e_h5) (fun _ _ _ k => op_cpy (by omega) dX4_copy_12 kX4_19 (Nat.le_of_ble_eq_true rfl) e_h5 k) ?_
  refine Sx.o (fun _ _ _ k => ex_aload_n dX4_copy_15 rfl rfl k) ?_
  refine Sx.o (fun _ _ _ k => ex_aload_n dX4_copy_16 rfl rfl k) ?_
  obtain ⟨x8, e_x8, hb9⟩ := ob2 hb6
  refine Sx.o (fun _ _ _ k => op_getI fX4_25 dX4_copy_17 e_x8 k) ?_
  obtain ⟨h10, e_h10, hb11⟩ := ob2 hb9
  refine Sx.p (pV_q e_h10) (fun _ _ _ k => op_put pX4_25 dX4_copy_20 e_h10 (fun _ => rfl) (fun _ => rfl) k) ?_
  refine Sx.o (fun _ _ _ k => ex_aload_n dX4_copy_23 rfl rfl k) ?_
  refine Sx.o (fun _ _ _ k => ex_aload_n dX4_copy_24 rfl rfl k) ?_
  obtain ⟨x13, e_x13, hb14⟩ := ob2 hb11
  refine Sx.o (fun _ _ _ k => op_getI fX4_28 dX4_copy_25 e_x13 k) ?_
  obtain ⟨h15, e_h15, hb16⟩ := ob2 hb14
  refine Sx.p (pV_q e_h15) (fun _ _ _ k => op_put pX4_28 dX4_copy_28 e_h15 (fun _ => rfl) (fun _ => rfl) k) ?_
  refine Sx.o (fun _ _ _ k => ex_aload_n dX4_copy_31 rfl rfl k) ?_
  refine Sx.o (fun _ _ _ k => ex_aload_n dX4_copy_32 rfl rfl k) ?_
  obtain ⟨x18, e_x18, hb19⟩ := ob2 hb16
  refine Sx.o (fun _ _ _ k => op_getI fX4_31 dX4_copy_33 e_x18 k) ?_
  obtain ⟨h20, e_h20, hb21⟩ := ob2 hb19
  refine Sx.p (pV_q e_h20) (fun _ _ _ k => op_put pX4_31 dX4_copy_36 e_h20 (fun _ => rfl) (fun _ => rfl) k) ?_
  refine Sx.o (fun _ _ _ k => ex_aload_n dX4_copy_39 rfl rfl k) ?_
  refine Sx.o (fun _ _ _ k => ex_aload_n dX4_copy_40 rfl rfl k) ?_
  obtain ⟨x23, e_x23, hb24⟩ := ob2 hb21
  refine Sx.o (fun _ _ _ k => op_getI fX4_15 dX4_copy_41 e_x23 k) ?_
  obtain ⟨h25, e_h25, hb26⟩ := ob2 hb24
  refine Sx.p (pV_q e_h25) (fun _ _ _ k => op_put pX4_15 dX4_copy_44 e_h25 (fun _ => rfl) (fun _ => rfl) k) ?_
  obtain rfl := Option.some.inj hb26
  exact Sx.r (fun _ _ _ k => ex_vret rfl dX4_copy_47 k)
set_option maxHeartbeats 1000000 in
set_option maxRecDepth 100000 in
theorem Row_copy_q {v0 : Nat} {v1 : Nat} {h : am_H} {r : am_H} (hb : Row_copy v0 v1 h = some r) : Eqs h r := by
  unfold Row_copy at hb
  have hb := (iz hb).2
  have w0 := Eqs.rf h
  obtain ⟨x1, e_x1, hb2⟩ := ob2 hb
  obtain ⟨x3, e_x3, hb4⟩ := ob2 hb2
  obtain ⟨h5, e_h5, hb6⟩ := ob2 hb4
  have w7 := w0.tr (cpy_q e_h5)
  obtain ⟨x8, e_x8, hb9⟩ := ob2 hb6
  obtain ⟨h10, e_h10, hb11⟩ := ob2 hb9
  have w12 := w7.tr (pV_q e_h10)
  obtain ⟨x13, e_x13, hb14⟩ := ob2 hb11
  obtain ⟨h15, e_h15, hb16⟩ := ob2 hb14
  have w17 := w12.tr (pV_q e_h15)
  obtain ⟨x18, e_x18, hb19⟩ := ob2 hb16
  obtain ⟨h20, e_h20, hb21⟩ := ob2 hb19
  have w22 := w17.tr (pV_q e_h20)
  obtain ⟨x23, e_x23, hb24⟩ := ob2 hb21
  obtain ⟨h25, e_h25, hb26⟩ := ob2 hb24
  have w27 := w22.tr (pV_q e_h25)
  obtain rfl := Option.some.inj hb26
  exact w27
theorem Row_copy_o {v0 : Nat} {v1 : Nat} {h : am_H} {r : am_H} (hb : Row_copy v0 v1 h = some r) : isO h 4 v0 = true := by
  unfold Row_copy at hb
  exact (iz hb).1
set_option maxHeartbeats 1000000 in
set_option maxRecDepth 100000 in
noncomputable def Row_packed_8_b (g : (Nat × Int32 × Int64 × Nat × am_H) → Option Int64) (v0 : Nat) (v1 : Int64) (v3 : Int32) (h : am_H) : Option Int64 := (gI h 4 v0 1).bind fun x1 => if x1 ≤ v3 then some v1 else (gR h 4 v0 0).bind fun x5 => (aI h 0 x5 v3).bind fun x7 => g (8, (v3 + (1 : Int32)), ((v1 <<< (Int32.toInt64 (4 : Int32) &&& 63)) ||| (Int32.toInt64 x7)), v0, h)
set_option maxHeartbeats 1000000 in
set_option maxRecDepth 100000 in
theorem Row_packed_8_m {g g2 : (Nat × Int32 × Int64 × Nat × am_H) → Option Int64} (hg : ∀ s, Le (g s) (g2 s)) (v0 : Nat) (v1 : Int64) (v3 : Int32) (h : am_H) : Le (Row_packed_8_b g v0 v1 v3 h) (Row_packed_8_b g2 v0 v1 v3 h) := by unfold Row_packed_8_b; exact le_b (le_r _) fun x1 => le_i (le_r _) (le_b (le_r _) fun x5 => le_b (le_r _) fun x7 => hg _)
noncomputable def Row_packed_8_F (g : (Nat × Int32 × Int64 × Nat × am_H) → Option Int64) (s : (Nat × Int32 × Int64 × Nat × am_H)) : Option Int64 := if s.1 = 8 then Row_packed_8_b g s.2.2.2.1 s.2.2.1 s.2.1 s.2.2.2.2 else none
theorem Row_packed_8_M : Mn Row_packed_8_F := fun g g2 hg s => by unfold Row_packed_8_F; exact le_i (Row_packed_8_m hg s.2.2.2.1 s.2.2.1 s.2.1 s.2.2.2.2) (le_r _)
def Row_packed_8_P (s : (Nat × Int32 × Int64 × Nat × am_H)) (r : Int64) : Prop := (s.1 = 8 → Sx 0 mX4_packed 8 [.ref s.2.2.2.1, .long s.2.2.1, .retAddr 0, .int s.2.1] [] s.2.2.2.2 (some (.long r)) s.2.2.2.2) ∧ True
set_option maxHeartbeats 1000000 in
set_option maxRecDepth 100000 in
theorem Row_packed_8_t {g : (Nat × Int32 × Int64 × Nat × am_H) → Option Int64} (hg : ∀ s r, g s = some r → Row_packed_8_P s r) {v0 : Nat} {v1 : Int64} {v3 : Int32} {h : am_H} {r : Int64} (hb : Row_packed_8_b g v0 v1 v3 h = some r) : Sx 0 mX4_packed 8 [.ref v0, .long v1, .retAddr 0, .int v3] [] h (some (.long r)) h := by
  unfold Row_packed_8_b at hb
  refine Sx.o (fun _ _ _ k => ex_iload_n dX4_packed_8 rfl k) ?_
  refine Sx.o (fun _ _ _ k => ex_aload_n dX4_packed_9 rfl rfl k) ?_
  obtain ⟨x1, e_x1, hb2⟩ := ob2 hb
  refine Sx.o (fun _ _ _ k => op_getI fX4_25 dX4_packed_10 e_x1 k) ?_
  refine Sx.b (fun _ _ _ k1 k2 => ex_icmp_ge 34 dX4_packed_13 (by decide) k1 k2) (fun q => ?_) (fun q => ?_)
  · have hb3 := ip q hb2
    refine Sx.o (fun _ _ _ k => ex_lload_n dX4_packed_34 rfl k) ?_
    obtain rfl := Option.some.inj hb3
    exact Sx.r (fun _ _ _ k => ex_lret rfl dX4_packed_35 k)
  · have hb4 := iq q hb2
    refine Sx.o (fun _ _ _ k => ex_lload_n dX4_packed_16 rfl k) ?_
    refine Sx.o (fun _ _ _ k => op_iconst (4 : Int32) dX4_packed_17 (by decide) k) ?_
    refine Sx.o (fun _ _ _ k => ex_lshl dX4_packed_18 k) ?_
    refine Sx.o (fun _ _ _ k => ex_aload_n dX4_packed_19 rfl rfl k) ?_
    obtain ⟨x5, e_x5, hb6⟩ := ob2 hb4
    refine Sx.o (fun _ _ _ k => op_getR fX4_9 dX4_packed_20 e_x5 k) ?_
    refine Sx.o (fun _ _ _ k => ex_iload_n dX4_packed_23 rfl k) ?_
    obtain ⟨x7, e_x7, hb8⟩ := ob2 hb6
    refine Sx.o (fun _ _ _ k => op_iald dX4_packed_24 e_x7 k) ?_
    refine Sx.o (fun _ _ _ k => ex_i2l dX4_packed_25 k) ?_
    refine Sx.o (fun _ _ _ k => ex_lor dX4_packed_26 k) ?_
    refine Sx.o (L' := [.ref v0, .long ((v1 <<< (Int32.toInt64 (4 : Int32) &&& 63)) ||| (Int32.toInt64 x7)), .retAddr 0, .int v3]) (fun _ _ _ k => ex_lstore_n dX4_packed_27 (by decide) k) ?_
    refine Sx.o (L' := [.ref v0, .long ((v1 <<< (Int32.toInt64 (4 : Int32) &&& 63)) ||| (Int32.toInt64 x7)), .retAddr 0, .int (v3 + (1 : Int32))]) (fun _ _ _ k => op_iinc (1 : Int32) dX4_packed_28 (by decide) rfl (by decide) k) ?_
    refine Sx.o (fun _ _ _ k => ex_goto 8 dX4_packed_31 (by decide) k) ?_
    exact (hg _ _ hb8).1 rfl
theorem Row_packed_8_T : ∀ s r, fx Row_packed_8_F Row_packed_8_M s = some r → Row_packed_8_P s r := fx_ind Row_packed_8_M Row_packed_8_P (fun g hg s r hb => by
  unfold Row_packed_8_F at hb
  exact ⟨fun q => Row_packed_8_t hg (ip q hb), trivial⟩)
noncomputable def Row_packed_8 (v0 : Nat) (v1 : Int64) (v3 : Int32) (h : am_H) : Option Int64 := fx Row_packed_8_F Row_packed_8_M (8, v3, v1, v0, h)
set_option maxHeartbeats 1000000 in
set_option maxRecDepth 100000 in
theorem Row_packed_8_e (v0 : Nat) (v1 : Int64) (v3 : Int32) (h : am_H) : Row_packed_8 v0 v1 v3 h = ((gI h 4 v0 1).bind fun x1 => if x1 ≤ v3 then some v1 else (gR h 4 v0 0).bind fun x5 => (aI h 0 x5 v3).bind fun x7 => Row_packed_8 v0 ((v1 <<< (Int32.toInt64 (4 : Int32) &&& 63)) ||| (Int32.toInt64 x7)) (v3 + (1 : Int32)) h) := (fx_eq Row_packed_8_M (8, v3, v1, v0, h)).trans (if_pos rfl)
theorem Row_packed_8_s {v0 : Nat} {v1 : Int64} {v3 : Int32} {h : am_H} {r : Int64} (hb : Row_packed_8 v0 v1 v3 h = some r) : Sx 0 mX4_packed 8 [.ref v0, .long v1, .retAddr 0, .int v3] [] h (some (.long r)) h := (Row_packed_8_T _ _ hb).1 rfl
set_option maxHeartbeats 1000000 in
set_option maxRecDepth 100000 in
noncomputable def Row_packed (v0 : Nat) (h : am_H) : Option Int64 := if isO h 4 v0 = true then (gI h 4 v0 3).bind fun x9 => Row_packed_8 v0 (Int32.toInt64 x9) (0 : Int32) h else none
set_option maxHeartbeats 1000000 in
set_option maxRecDepth 100000 in
theorem Row_packed_s {v0 : Nat} {h : am_H} {r : Int64} (hb : Row_packed v0 h = some r) : Sx 0 mX4_packed 0 (am_en [.ref v0] 4) [] h (some (.long r)) h := by
  unfold Row_packed at hb
  have hb := (iz hb).2
  show Sx 0 mX4_packed 0 [.ref v0, .retAddr 0, .retAddr 0, .retAddr 0] [] h (some (.long r)) h
  refine Sx.o (fun _ _ _ k => ex_aload_n dX4_packed_0 rfl rfl k) ?_
  obtain ⟨x9, e_x9, hb10⟩ := ob2 hb
  refine Sx.o (fun _ _ _ k => op_getI fX4_31 dX4_packed_1 e_x9 k) ?_
  refine Sx.o (fun _ _ _ k => ex_i2l dX4_packed_4 k) ?_
  refine Sx.o (L' := [.ref v0, .long (Int32.toInt64 x9), .retAddr 0, .retAddr 0]) (fun _ _ _ k => ex_lstore_n dX4_packed_5 (by decide) k) ?_
  refine Sx.o (fun _ _ _ k => op_iconst (0 : Int32) dX4_packed_6 (by decide) k) ?_
  refine Sx.o (L' := [.ref v0, .long (Int32.toInt64 x9), .retAddr 0, .int (0 : Int32)]) (fun _ _ _ k => ex_istore_n dX4_packed_7 (by decide) k) ?_
  exact Row_packed_8_s hb10
theorem Row_packed_o {v0 : Nat} {h : am_H} {r : Int64} (hb : Row_packed v0 h = some r) : isO h 4 v0 = true := by
  unfold Row_packed at hb
  exact (iz hb).1
set_option maxHeartbeats 1000000 in
set_option maxRecDepth 100000 in
noncomputable def Row_card (v0 : Nat) (v1 : Int32) (h : am_H) : Option Int32 := if isO h 4 v0 = true then if v1 < (0 : Int32) then some (-1 : Int32) else (gI h 4 v0 1).bind fun x3 => if x3 ≤ v1 then some (-1 : Int32) else (gR h 4 v0 0).bind fun x7 => (aI h 0 x7 v1).bind fun x9 => some x9 else none
set_option maxHeartbeats 1000000 in
set_option maxRecDepth 100000 in
theorem Row_card_s {v0 : Nat} {v1 : Int32} {h : am_H} {r : Int32} (hb : Row_card v0 v1 h = some r) : Sx 0 mX4_card 0 (am_en [.ref v0, .int v1] 2) [] h (some (.int r)) h := by
  unfold Row_card at hb
  have hb := (iz hb).2
  show Sx 0 mX4_card 0 [.ref v0, .int v1] [] h (some (.int r)) h
  refine Sx.o (fun _ _ _ k => ex_iload_n dX4_card_0 rfl k) ?_
  refine Sx.b (fun _ _ _ k1 k2 => ex_if_lt 21 dX4_card_1 (by decide) k1 k2) (fun q => ?_) (fun q => ?_)
  · have hb1 := ip q hb
    refine Sx.o (fun _ _ _ k => op_iconst (-1 : Int32) dX4_card_21 (by decide) k) ?_
    obtain rfl := Option.some.inj hb1
    exact Sx.r (fun _ _ _ k => ex_iret rfl dX4_card_22 k)
  · have hb2 := iq q hb
    refine Sx.o (fun _ _ _ k => ex_iload_n dX4_card_4 rfl k) ?_
    refine Sx.o (fun _ _ _ k => ex_aload_n dX4_card_5 rfl rfl k) ?_
    obtain ⟨x3, e_x3, hb4⟩ := ob2 hb2
    refine Sx.o (fun _ _ _ k => op_getI fX4_25 dX4_card_6 e_x3 k) ?_
    refine Sx.b (fun _ _ _ k1 k2 => ex_icmp_ge 21 dX4_card_9 (by decide) k1 k2) (fun q => ?_) (fun q => ?_)
    · have hb5 := ip q hb4
      refine Sx.o (fun _ _ _ k => op_iconst (-1 : Int32) dX4_card_21 (by decide) k) ?_
      obtain rfl := Option.some.inj hb5
      exact Sx.r (fun _ _ _ k => ex_iret rfl dX4_card_22 k)
    · have hb6 := iq q hb4
      refine Sx.o (fun _ _ _ k => ex_aload_n dX4_card_12 rfl rfl k) ?_
      obtain ⟨x7, e_x7, hb8⟩ := ob2 hb6
      refine Sx.o (fun _ _ _ k => op_getR fX4_9 dX4_card_13 e_x7 k) ?_
      refine Sx.o (fun _ _ _ k => ex_iload_n dX4_card_16 rfl k) ?_
      obtain ⟨x9, e_x9, hb10⟩ := ob2 hb8
      refine Sx.o (fun _ _ _ k => op_iald dX4_card_17 e_x9 k) ?_
      refine Sx.o (fun _ _ _ k => ex_goto 22 dX4_card_18 (by decide) k) ?_
      obtain rfl := Option.some.inj hb10
      exact Sx.r (fun _ _ _ k => ex_iret rfl dX4_card_22 k)
theorem Row_card_o {v0 : Nat} {v1 : Int32} {h : am_H} {r : Int32} (hb : Row_card v0 v1 h = some r) : isO h 4 v0 = true := by
  unfold Row_card at hb
  exact (iz hb).1
set_option maxHeartbeats 1000000 in
set_option maxRecDepth 100000 in
noncomputable def Row_reverse_18_b (g : (Nat × Int32 × Int32 × Nat × am_H) → Option am_H) (v0 : Nat) (v3 : Int32) (v4 : Int32) (h : am_H) : Option am_H := if v3 ≤ v4 then some h else (gR h 4 v0 0).bind fun x3 => (aI h 0 x3 v4).bind fun x5 => (gR h 4 v0 0).bind fun x7 => (gR h 4 v0 0).bind fun x9 => (aI h 0 x9 v3).bind fun x11 => (sI h x7 v4 x11).bind fun h13 => (gR h13 4 v0 0).bind fun x16 => (sI h13 x16 v3 x5).bind fun h18 => g (18, (v3 + (-1 : Int32)), (v4 + (1 : Int32)), v0, h18)
set_option maxHeartbeats 1000000 in
set_option maxRecDepth 100000 in
theorem Row_reverse_18_m {g g2 : (Nat × Int32 × Int32 × Nat × am_H) → Option am_H} (hg : ∀ s, Le (g s) (g2 s)) (v0 : Nat) (v3 : Int32) (v4 : Int32) (h : am_H) : Le (Row_reverse_18_b g v0 v3 v4 h) (Row_reverse_18_b g2 v0 v3 v4 h) := by unfold Row_reverse_18_b; exact le_i (le_r _) (le_b (le_r _) fun x3 => le_b (le_r _) fun x5 => le_b (le_r _) fun x7 => le_b (le_r _) fun x9 => le_b (le_r _) fun x11 => le_b (le_r _) fun h13 => le_b (le_r _) fun x16 => le_b (le_r _) fun h18 => hg _)
noncomputable def Row_reverse_18_F (g : (Nat × Int32 × Int32 × Nat × am_H) → Option am_H) (s : (Nat × Int32 × Int32 × Nat × am_H)) : Option am_H := if s.1 = 18 then Row_reverse_18_b g s.2.2.2.1 s.2.1 s.2.2.1 s.2.2.2.2 else none
theorem Row_reverse_18_M : Mn Row_reverse_18_F := fun g g2 hg s => by unfold Row_reverse_18_F; exact le_i (Row_reverse_18_m hg s.2.2.2.1 s.2.1 s.2.2.1 s.2.2.2.2) (le_r _)
def Row_reverse_18_P (s : (Nat × Int32 × Int32 × Nat × am_H)) (r : am_H) : Prop := (s.1 = 18 → Sx 1 mX4_reverse 18 [.ref s.2.2.2.1, .retAddr 0, .retAddr 0, .int s.2.1, .int s.2.2.1, .retAddr 0] [] s.2.2.2.2 none r) ∧ True
set_option maxHeartbeats 1000000 in
set_option maxRecDepth 100000 in
theorem Row_reverse_18_t {g : (Nat × Int32 × Int32 × Nat × am_H) → Option am_H} (hg : ∀ s r, g s = some r → Row_reverse_18_P s r) {v0 : Nat} {v3 : Int32} {v4 : Int32} {h : am_H} {r : am_H} (hb : Row_reverse_18_b g v0 v3 v4 h = some r) : Sx 1 mX4_reverse 18 [.ref v0, .retAddr 0, .retAddr 0, .int v3, .int v4, .retAddr 0] [] h none r := by
  unfold Row_reverse_18_b at hb
  refine Sx.o (fun _ _ _ k => ex_iload dX4_reverse_18 rfl k) ?_
  refine Sx.o (fun _ _ _ k => ex_iload_n dX4_reverse_20 rfl k) ?_
  refine Sx.b (fun _ _ _ k1 k2 => ex_icmp_ge 63 dX4_reverse_21 (by decide) k1 k2) (fun q => ?_) (fun q => ?_)
  · have hb1 := ip q hb
    obtain rfl := Option.some.inj hb1
    exact Sx.r (fun _ _ _ k => ex_vret rfl dX4_reverse_63 k)
  · have hb2 := iq q hb
    refine Sx.o (fun _ _ _ k => ex_aload_n dX4_reverse_24 rfl rfl k) ?_
    obtain ⟨x3, e_x3, hb4⟩ := ob2 hb2
    refine Sx.o (fun _ _ _ k => op_getR fX4_9 dX4_reverse_25 e_x3 k) ?_
    refine Sx.o (fun _ _ _ k => ex_iload dX4_reverse_28 rfl k) ?_
    obtain ⟨x5, e_x5, hb6⟩ := ob2 hb4
    refine Sx.o (fun _ _ _ k => op_iald dX4_reverse_30 e_x5 k) ?_
    refine Sx.o (L' := [.ref v0, .retAddr 0, .retAddr 0, .int v3, .int v4, .int x5]) (fun _ _ _ k => ex_istore dX4_reverse_31 (by decide) k) ?_
    refine Sx.o (fun _ _ _ k => ex_aload_n dX4_reverse_33 rfl rfl k) ?_
    obtain ⟨x7, e_x7, hb8⟩ := ob2 hb6
    refine Sx.o (fun _ _ _ k => op_getR fX4_9 dX4_reverse_34 e_x7 k) ?_
    refine Sx.o (fun _ _ _ k => ex_iload dX4_reverse_37 rfl k) ?_
    refine Sx.o (fun _ _ _ k => ex_aload_n dX4_reverse_39 rfl rfl k) ?_
    obtain ⟨x9, e_x9, hb10⟩ := ob2 hb8
    refine Sx.o (fun _ _ _ k => op_getR fX4_9 dX4_reverse_40 e_x9 k) ?_
    refine Sx.o (fun _ _ _ k => ex_iload_n dX4_reverse_43 rfl k) ?_
    obtain ⟨x11, e_x11, hb12⟩ := ob2 hb10
    refine Sx.o (fun _ _ _ k => op_iald dX4_reverse_44 e_x11 k) ?_
    obtain ⟨h13, e_h13, hb14⟩ := ob2 hb12
    refine Sx.p (sI_q e_h13) (fun _ _ _ k => op_iast dX4_reverse_45 e_h13 k) ?_
    refine Sx.o (fun _ _ _ k => ex_aload_n dX4_reverse_46 rfl rfl k) ?_
    obtain ⟨x16, e_x16, hb17⟩ := ob2 hb14
    refine Sx.o (fun _ _ _ k => op_getR fX4_9 dX4_reverse_47 e_x16 k) ?_
    refine Sx.o (fun _ _ _ k => ex_iload_n dX4_reverse_50 rfl k) ?_
    refine Sx.o (fun _ _ _ k => ex_iload dX4_reverse_51 rfl k) ?_
    obtain ⟨h18, e_h18, hb19⟩ := ob2 hb17
    refine Sx.p (sI_q e_h18) (fun _ _ _ k => op_iast dX4_reverse_53 e_h18 k) ?_
    refine Sx.o (L' := [.ref v0, .retAddr 0, .retAddr 0, .int (v3 + (-1 : Int32)), .int v4, .int x5]) (fun _ _ _ k => op_iinc (-1 : Int32) dX4_reverse_54 (by decide) rfl (by decide) k) ?_
    refine Sx.o (L' := [.ref v0, .retAddr 0, .retAddr 0, .int (v3 + (-1 : Int32)), .int (v4 + (1 : Int32)), .int x5]) (fun _ _ _ k => op_iinc (1 : Int32) dX4_reverse_57 (by decide) rfl (by decide) k) ?_
    refine Sx.o (fun _ _ _ k => ex_goto 18 dX4_reverse_60 (by decide) k) ?_
    refine Sx.fg [true, true, true, true, true, false] ?_
    exact (hg _ _ hb19).1 rfl
theorem Row_reverse_18_T : ∀ s r, fx Row_reverse_18_F Row_reverse_18_M s = some r → Row_reverse_18_P s r := fx_ind Row_reverse_18_M Row_reverse_18_P (fun g hg s r hb => by
  unfold Row_reverse_18_F at hb
  exact ⟨fun q => Row_reverse_18_t hg (ip q hb), trivial⟩)
set_option maxHeartbeats 1000000 in
set_option maxRecDepth 100000 in
theorem Row_reverse_18_r {g : (Nat × Int32 × Int32 × Nat × am_H) → Option am_H} (hg : ∀ s r, g s = some r → Eqs s.2.2.2.2 r) {v0 : Nat} {v3 : Int32} {v4 : Int32} {h : am_H} {r : am_H} (hb : Row_reverse_18_b g v0 v3 v4 h = some r) : Eqs h r := by
  unfold Row_reverse_18_b at hb
  have w0 := Eqs.rf h
  by_cases q : v3 ≤ v4
  · have hb1 := ip q hb
    obtain rfl := Option.some.inj hb1
    exact w0
  · have hb2 := iq q hb
    obtain ⟨x3, e_x3, hb4⟩ := ob2 hb2
    obtain ⟨x5, e_x5, hb6⟩ := ob2 hb4
    obtain ⟨x7, e_x7, hb8⟩ := ob2 hb6
    obtain ⟨x9, e_x9, hb10⟩ := ob2 hb8
    obtain ⟨x11, e_x11, hb12⟩ := ob2 hb10
    obtain ⟨h13, e_h13, hb14⟩ := ob2 hb12
    have w15 := w0.tr (sI_q e_h13)
    obtain ⟨x16, e_x16, hb17⟩ := ob2 hb14
    obtain ⟨h18, e_h18, hb19⟩ := ob2 hb17
    have w20 := w15.tr (sI_q e_h18)
    exact w20.tr (hg _ _ hb19)
theorem Row_reverse_18_Q : ∀ s r, fx Row_reverse_18_F Row_reverse_18_M s = some r → Eqs s.2.2.2.2 r := fx_ind Row_reverse_18_M (fun s r => Eqs s.2.2.2.2 r) (fun g hg s r hb => by
  unfold Row_reverse_18_F at hb
  by_cases q0 : s.1 = 18
  · exact Row_reverse_18_r hg (ip q0 hb)
  · have hb0 := iq q0 hb
    exact nomatch hb0)
noncomputable def Row_reverse_18 (v0 : Nat) (v3 : Int32) (v4 : Int32) (h : am_H) : Option am_H := fx Row_reverse_18_F Row_reverse_18_M (18, v3, v4, v0, h)
set_option maxHeartbeats 1000000 in
set_option maxRecDepth 100000 in
theorem Row_reverse_18_e (v0 : Nat) (v3 : Int32) (v4 : Int32) (h : am_H) : Row_reverse_18 v0 v3 v4 h = (if v3 ≤ v4 then some h else (gR h 4 v0 0).bind fun x3 => (aI h 0 x3 v4).bind fun x5 => (gR h 4 v0 0).bind fun x7 => (gR h 4 v0 0).bind fun x9 => (aI h 0 x9 v3).bind fun x11 => (sI h x7 v4 x11).bind fun h13 => (gR h13 4 v0 0).bind fun x16 => (sI h13 x16 v3 x5).bind fun h18 => Row_reverse_18 v0 (v3 + (-1 : Int32)) (v4 + (1 : Int32)) h18) := (fx_eq Row_reverse_18_M (18, v3, v4, v0, h)).trans (if_pos rfl)
theorem Row_reverse_18_q {v0 : Nat} {v3 : Int32} {v4 : Int32} {h : am_H} {r : am_H} (hb : Row_reverse_18 v0 v3 v4 h = some r) : Eqs h r := Row_reverse_18_Q _ _ hb
theorem Row_reverse_18_s {v0 : Nat} {v3 : Int32} {v4 : Int32} {h : am_H} {r : am_H} (hb : Row_reverse_18 v0 v3 v4 h = some r) : Sx 1 mX4_reverse 18 [.ref v0, .retAddr 0, .retAddr 0, .int v3, .int v4, .retAddr 0] [] h none r := (Row_reverse_18_T _ _ hb).1 rfl
set_option maxHeartbeats 1000000 in
set_option maxRecDepth 100000 in
noncomputable def Row_reverse (v0 : Nat) (v1 : Int32) (v2 : Int32) (h : am_H) : Option am_H := if isO h 4 v0 = true then (gI h 4 v0 1).bind fun x21 => Row_reverse_18 v0 (if x21 - (1 : Int32) < v2 then x21 - (1 : Int32) else v2) (if v1 < (0 : Int32) then (0 : Int32) else v1) h else none
set_option maxHeartbeats 1000000 in
set_option maxRecDepth 100000 in
theorem Row_reverse_s {v0 : Nat} {v1 : Int32} {v2 : Int32} {h : am_H} {r : am_H} (hb : Row_reverse v0 v1 v2 h = some r) : Sx 1 mX4_reverse 0 (am_en [.ref v0, .int v1, .int v2] 6) [] h none r := by
  unfold Row_reverse at hb
  have hb := (iz hb).2
  show Sx 1 mX4_reverse 0 [.ref v0, .int v1, .int v2, .retAddr 0, .retAddr 0, .retAddr 0] [] h none r
  refine Sx.o (fun _ _ _ k => ex_iload_n dX4_reverse_0 rfl k) ?_
  refine Sx.o (fun _ _ _ k => ex_aload_n dX4_reverse_1 rfl rfl k) ?_
  obtain ⟨x21, e_x21, hb22⟩ := ob2 hb
  refine Sx.o (fun _ _ _ k => op_getI fX4_25 dX4_reverse_2 e_x21 k) ?_
  refine Sx.o (fun _ _ _ k => op_iconst (1 : Int32) dX4_reverse_5 (by decide) k) ?_
  refine Sx.o (fun _ _ _ k => ex_isub dX4_reverse_6 k) ?_
  refine Sx.o (fun _ _ _ k => op_mmin (by omega) dX4_reverse_7 kX4_34 (Nat.le_of_ble_eq_true rfl) k) ?_
  refine Sx.o (L' := [.ref v0, .int v1, .int v2, .int (if x21 - (1 : Int32) < v2 then x21 - (1 : Int32) else v2), .retAddr 0, .retAddr 0]) (fun _ _ _ k => ex_istore_n dX4_reverse_10 (by decide) k) ?_
  refine Sx.o (fun _ _ _ k => ex_iload_n dX4_reverse_11 rfl k) ?_
  refine Sx.o (fun _ _ _ k => op_iconst (0 : Int32) dX4_reverse_12 (by decide) k) ?_
  refine Sx.o (fun _ _ _ k => op_mmax (by omega) dX4_reverse_13 kX4_40 (Nat.le_of_ble_eq_true rfl) k) ?_
  refine Sx.o (L' := [.ref v0, .int v1, .int v2, .int (if x21 - (1 : Int32) < v2 then x21 - (1 : Int32) else v2), .int (if v1 < (0 : Int32) then (0 : Int32) else v1), .retAddr 0]) (fun _ _ _ k => ex_istore dX4_reverse_16 (by decide) k) ?_
  refine Sx.fg [true, false, false, true, true, true] ?_
  exact Row_reverse_18_s hb22
set_option maxHeartbeats 1000000 in
set_option maxRecDepth 100000 in
theorem Row_reverse_q {v0 : Nat} {v1 : Int32} {v2 : Int32} {h : am_H} {r : am_H} (hb : Row_reverse v0 v1 v2 h = some r) : Eqs h r := by
  unfold Row_reverse at hb
  have hb := (iz hb).2
  have w0 := Eqs.rf h
  obtain ⟨x21, e_x21, hb22⟩ := ob2 hb
  exact w0.tr (Row_reverse_18_q hb22)
theorem Row_reverse_o {v0 : Nat} {v1 : Int32} {v2 : Int32} {h : am_H} {r : am_H} (hb : Row_reverse v0 v1 v2 h = some r) : isO h 4 v0 = true := by
  unfold Row_reverse at hb
  exact (iz hb).1
set_option maxHeartbeats 1000000 in
set_option maxRecDepth 100000 in
noncomputable def Row_lower (v0 : Nat) (v1 : Int32) (h : am_H) : Option am_H := if isO h 4 v0 = true then (Row_reverse v0 (0 : Int32) (v1 - (1 : Int32)) h).bind fun h1 => (gI h1 4 v0 1).bind fun x4 => (Row_reverse v0 v1 (x4 - (1 : Int32)) h1).bind fun h6 => (gI h6 4 v0 1).bind fun x9 => (Row_reverse v0 (0 : Int32) (x9 - (1 : Int32)) h6).bind fun h11 => some h11 else none
set_option maxHeartbeats 1000000 in
set_option maxRecDepth 100000 in
theorem Row_lower_s {v0 : Nat} {v1 : Int32} {h : am_H} {r : am_H} (hb : Row_lower v0 v1 h = some r) : Sx 2 mX4_lower 0 (am_en [.ref v0, .int v1] 2) [] h none r := by
  unfold Row_lower at hb
  have hb := (iz hb).2
  show Sx 2 mX4_lower 0 [.ref v0, .int v1] [] h none r
  refine Sx.o (fun _ _ _ k => ex_aload_n dX4_lower_0 rfl rfl k) ?_
  refine Sx.o (fun _ _ _ k => op_iconst (0 : Int32) dX4_lower_1 (by decide) k) ?_
  refine Sx.o (fun _ _ _ k => ex_iload_n dX4_lower_2 rfl k) ?_
  refine Sx.o (fun _ _ _ k => op_iconst (1 : Int32) dX4_lower_3 (by decide) k) ?_
  refine Sx.o (fun _ _ _ k => ex_isub dX4_lower_4 k) ?_
  obtain ⟨h1, e_h1, hb2⟩ := ob2 hb
  refine sx_callV (dc := 1) (as := [.int (0 : Int32), .int (v1 - (1 : Int32))]) (stq := []) (by omega) dX4_lower_5 MX4_reverse kX4_47 iX4_reverse sX4_reverse rfl rfl (Row_reverse_o e_h1) rfl rfl (Nat.le_of_ble_eq_true rfl) (Nat.le_of_ble_eq_true rfl) (Row_reverse_s e_h1) rfl ?_
  refine Sx.o (fun _ _ _ k => ex_aload_n dX4_lower_8 rfl rfl k) ?_
  refine Sx.o (fun _ _ _ k => ex_iload_n dX4_lower_9 rfl k) ?_
  refine Sx.o (fun _ _ _ k => ex_aload_n dX4_lower_10 rfl rfl k) ?_
  obtain ⟨x4, e_x4, hb5⟩ := ob2 hb2
  refine Sx.o (fun _ _ _ k => op_getI fX4_25 dX4_lower_11 e_x4 k) ?_
  refine Sx.o (fun _ _ _ k => op_iconst (1 : Int32) dX4_lower_14 (by decide) k) ?_
  refine Sx.o (fun _ _ _ k => ex_isub dX4_lower_15 k) ?_
  obtain ⟨h6, e_h6, hb7⟩ := ob2 hb5
  refine sx_callV (dc := 1) (as := [.int v1, .int (x4 - (1 : Int32))]) (stq := []) (by omega) dX4_lower_16 MX4_reverse kX4_47 iX4_reverse sX4_reverse rfl rfl (Row_reverse_o e_h6) rfl rfl (Nat.le_of_ble_eq_true rfl) (Nat.le_of_ble_eq_true rfl) (Row_reverse_s e_h6) rfl ?_
  refine Sx.o (fun _ _ _ k => ex_aload_n dX4_lower_19 rfl rfl k) ?_
  refine Sx.o (fun _ _ _ k => op_iconst (0 : Int32) dX4_lower_20 (by decide) k) ?_
  refine Sx.o (fun _ _ _ k => ex_aload_n dX4_lower_21 rfl rfl k) ?_
  obtain ⟨x9, e_x9, hb10⟩ := ob2 hb7
  refine Sx.o (fun _ _ _ k => op_getI fX4_25 dX4_lower_22 e_x9 k) ?_
  refine Sx.o (fun _ _ _ k => op_iconst (1 : Int32) dX4_lower_25 (by decide) k) ?_
  refine Sx.o (fun _ _ _ k => ex_isub dX4_lower_26 k) ?_
  obtain ⟨h11, e_h11, hb12⟩ := ob2 hb10
  refine sx_callV (dc := 1) (as := [.int (0 : Int32), .int (x9 - (1 : Int32))]) (stq := []) (by omega) dX4_lower_27 MX4_reverse kX4_47 iX4_reverse sX4_reverse rfl rfl (Row_reverse_o e_h11) rfl rfl (Nat.le_of_ble_eq_true rfl) (Nat.le_of_ble_eq_true rfl) (Row_reverse_s e_h11) rfl ?_
  obtain rfl := Option.some.inj hb12
  exact Sx.r (fun _ _ _ k => ex_vret rfl dX4_lower_30 k)
set_option maxHeartbeats 1000000 in
set_option maxRecDepth 100000 in
theorem Row_lower_q {v0 : Nat} {v1 : Int32} {h : am_H} {r : am_H} (hb : Row_lower v0 v1 h = some r) : Eqs h r := by
  unfold Row_lower at hb
  have hb := (iz hb).2
  have w0 := Eqs.rf h
  obtain ⟨h1, e_h1, hb2⟩ := ob2 hb
  have w3 := w0.tr (Row_reverse_q e_h1)
  obtain ⟨x4, e_x4, hb5⟩ := ob2 hb2
  obtain ⟨h6, e_h6, hb7⟩ := ob2 hb5
  have w8 := w3.tr (Row_reverse_q e_h6)
  obtain ⟨x9, e_x9, hb10⟩ := ob2 hb7
  obtain ⟨h11, e_h11, hb12⟩ := ob2 hb10
  have w13 := w8.tr (Row_reverse_q e_h11)
  obtain rfl := Option.some.inj hb12
  exact w13
theorem Row_lower_o {v0 : Nat} {v1 : Int32} {h : am_H} {r : am_H} (hb : Row_lower v0 v1 h = some r) : isO h 4 v0 = true := by
  unfold Row_lower at hb
  exact (iz hb).1
set_option maxHeartbeats 1000000 in
set_option maxRecDepth 100000 in
noncomputable def Row_init (v0 : Nat) (h : am_H) : Option am_H := if isO h 4 v0 = true then (nA h 0 (13 : Int32)).bind fun h1 => (pV h1 4 v0 0 (.ref (List.length h))).bind fun h3 => (pV h3 4 v0 4 (.int (-1 : Int32))).bind fun h6 => some h6 else none
set_option maxHeartbeats 1000000 in
set_option maxRecDepth 100000 in
theorem Row_init_s {v0 : Nat} {h : am_H} {r : am_H} (hb : Row_init v0 h = some r) : Sx 1 mX4_init 0 (am_en [.ref v0] 1) [] h none r := by
  unfold Row_init at hb
  have hb := (iz hb).2
  show Sx 1 mX4_init 0 [.ref v0] [] h none r
  refine Sx.o (fun _ _ _ k => ex_aload_n dX4_init_0 rfl rfl k) ?_
  refine Sx.o (fun _ _ _ k => op_obj (by omega) dX4_init_1 kX4_3 (Nat.le_of_ble_eq_true rfl) k) ?_
  refine Sx.o (fun _ _ _ k => ex_aload_n dX4_init_4 rfl rfl k) ?_
  refine Sx.o (fun _ _ _ k => op_bipush (13 : Int32) dX4_init_5 (by decide) k) ?_
  obtain ⟨h1, e_h1, hb2⟩ := ob2 hb
  refine sx_newa (t := 0) (fun _ _ _ N c1 c2 c3 kk => ex_newa0 a_int dX4_init_7 c1 c2 c3 kk) e_h1 ?_
  obtain ⟨h3, e_h3, hb4⟩ := ob2 hb2
  refine Sx.p (pV_q e_h3) (fun _ _ _ k => op_putF pX4_9 (fun r hr => by cases hr; rfl) rfl dX4_init_9 e_h3 (fun _ => rfl) (fun _ => rfl) k) ?_
  refine Sx.o (fun _ _ _ k => ex_aload_n dX4_init_12 rfl rfl k) ?_
  refine Sx.o (fun _ _ _ k => op_iconst (-1 : Int32) dX4_init_13 (by decide) k) ?_
  obtain ⟨h6, e_h6, hb7⟩ := ob2 hb4
  refine Sx.p (pV_q e_h6) (fun _ _ _ k => op_put pX4_15 dX4_init_14 e_h6 (fun _ => rfl) (fun _ => rfl) k) ?_
  obtain rfl := Option.some.inj hb7
  exact Sx.r (fun _ _ _ k => ex_vret rfl dX4_init_17 k)
theorem Row_init_o {v0 : Nat} {h : am_H} {r : am_H} (hb : Row_init v0 h = some r) : isO h 4 v0 = true := by
  unfold Row_init at hb
  exact (iz hb).1
set_option maxHeartbeats 1000000 in
set_option maxRecDepth 100000 in
noncomputable def Row_rises_2_b (g : (Nat × Int32 × Nat × am_H) → Option Int32) (v0 : Nat) (v1 : Int32) (h : am_H) : Option Int32 := (gI h 4 v0 1).bind fun x1 => if x1 ≤ v1 then some (1 : Int32) else (gR h 4 v0 0).bind fun x5 => (aI h 0 x5 (v1 - (1 : Int32))).bind fun x7 => (gR h 4 v0 0).bind fun x9 => (aI h 0 x9 v1).bind fun x11 => if x7 ≤ x11 then g (2, (v1 + (1 : Int32)), v0, h) else some (0 : Int32)
set_option maxHeartbeats 1000000 in
set_option maxRecDepth 100000 in
theorem Row_rises_2_m {g g2 : (Nat × Int32 × Nat × am_H) → Option Int32} (hg : ∀ s, Le (g s) (g2 s)) (v0 : Nat) (v1 : Int32) (h : am_H) : Le (Row_rises_2_b g v0 v1 h) (Row_rises_2_b g2 v0 v1 h) := by unfold Row_rises_2_b; exact le_b (le_r _) fun x1 => le_i (le_r _) (le_b (le_r _) fun x5 => le_b (le_r _) fun x7 => le_b (le_r _) fun x9 => le_b (le_r _) fun x11 => le_i (hg _) (le_r _))
noncomputable def Row_rises_2_F (g : (Nat × Int32 × Nat × am_H) → Option Int32) (s : (Nat × Int32 × Nat × am_H)) : Option Int32 := if s.1 = 2 then Row_rises_2_b g s.2.2.1 s.2.1 s.2.2.2 else none
theorem Row_rises_2_M : Mn Row_rises_2_F := fun g g2 hg s => by unfold Row_rises_2_F; exact le_i (Row_rises_2_m hg s.2.2.1 s.2.1 s.2.2.2) (le_r _)
def Row_rises_2_P (s : (Nat × Int32 × Nat × am_H)) (r : Int32) : Prop := (s.1 = 2 → Sx 0 mX4_rises 2 [.ref s.2.2.1, .int s.2.1] [] s.2.2.2 (some (.int r)) s.2.2.2) ∧ True
set_option maxHeartbeats 1000000 in
set_option maxRecDepth 100000 in
theorem Row_rises_2_t {g : (Nat × Int32 × Nat × am_H) → Option Int32} (hg : ∀ s r, g s = some r → Row_rises_2_P s r) {v0 : Nat} {v1 : Int32} {h : am_H} {r : Int32} (hb : Row_rises_2_b g v0 v1 h = some r) : Sx 0 mX4_rises 2 [.ref v0, .int v1] [] h (some (.int r)) h := by
  unfold Row_rises_2_b at hb
  refine Sx.o (fun _ _ _ k => ex_iload_n dX4_rises_2 rfl k) ?_
  refine Sx.o (fun _ _ _ k => ex_aload_n dX4_rises_3 rfl rfl k) ?_
  obtain ⟨x1, e_x1, hb2⟩ := ob2 hb
  refine Sx.o (fun _ _ _ k => op_getI fX4_25 dX4_rises_4 e_x1 k) ?_
  refine Sx.b (fun _ _ _ k1 k2 => ex_icmp_ge 35 dX4_rises_7 (by decide) k1 k2) (fun q => ?_) (fun q => ?_)
  · have hb3 := ip q hb2
    refine Sx.o (fun _ _ _ k => op_iconst (1 : Int32) dX4_rises_35 (by decide) k) ?_
    obtain rfl := Option.some.inj hb3
    exact Sx.r (fun _ _ _ k => ex_zret rfl rfl dX4_rises_36 k)
  · have hb4 := iq q hb2
    refine Sx.o (fun _ _ _ k => ex_aload_n dX4_rises_10 rfl rfl k) ?_
    obtain ⟨x5, e_x5, hb6⟩ := ob2 hb4
    refine Sx.o (fun _ _ _ k => op_getR fX4_9 dX4_rises_11 e_x5 k) ?_
    refine Sx.o (fun _ _ _ k => ex_iload_n dX4_rises_14 rfl k) ?_
    refine Sx.o (fun _ _ _ k => op_iconst (1 : Int32) dX4_rises_15 (by decide) k) ?_
    refine Sx.o (fun _ _ _ k => ex_isub dX4_rises_16 k) ?_
    obtain ⟨x7, e_x7, hb8⟩ := ob2 hb6
    refine Sx.o (fun _ _ _ k => op_iald dX4_rises_17 e_x7 k) ?_
    refine Sx.o (fun _ _ _ k => ex_aload_n dX4_rises_18 rfl rfl k) ?_
    obtain ⟨x9, e_x9, hb10⟩ := ob2 hb8
    refine Sx.o (fun _ _ _ k => op_getR fX4_9 dX4_rises_19 e_x9 k) ?_
    refine Sx.o (fun _ _ _ k => ex_iload_n dX4_rises_22 rfl k) ?_
    obtain ⟨x11, e_x11, hb12⟩ := ob2 hb10
    refine Sx.o (fun _ _ _ k => op_iald dX4_rises_23 e_x11 k) ?_
    refine Sx.b (fun _ _ _ k1 k2 => ex_icmp_le 29 dX4_rises_24 (by decide) k1 k2) (fun q => ?_) (fun q => ?_)
    · have hb13 := ip q hb12
      refine Sx.o (L' := [.ref v0, .int (v1 + (1 : Int32))]) (fun _ _ _ k => op_iinc (1 : Int32) dX4_rises_29 (by decide) rfl (by decide) k) ?_
      refine Sx.o (fun _ _ _ k => ex_goto 2 dX4_rises_32 (by decide) k) ?_
      exact (hg _ _ hb13).1 rfl
    · have hb14 := iq q hb12
      refine Sx.o (fun _ _ _ k => op_iconst (0 : Int32) dX4_rises_27 (by decide) k) ?_
      obtain rfl := Option.some.inj hb14
      exact Sx.r (fun _ _ _ k => ex_zret rfl rfl dX4_rises_28 k)
theorem Row_rises_2_T : ∀ s r, fx Row_rises_2_F Row_rises_2_M s = some r → Row_rises_2_P s r := fx_ind Row_rises_2_M Row_rises_2_P (fun g hg s r hb => by
  unfold Row_rises_2_F at hb
  exact ⟨fun q => Row_rises_2_t hg (ip q hb), trivial⟩)
noncomputable def Row_rises_2 (v0 : Nat) (v1 : Int32) (h : am_H) : Option Int32 := fx Row_rises_2_F Row_rises_2_M (2, v1, v0, h)
set_option maxHeartbeats 1000000 in
set_option maxRecDepth 100000 in
theorem Row_rises_2_e (v0 : Nat) (v1 : Int32) (h : am_H) : Row_rises_2 v0 v1 h = ((gI h 4 v0 1).bind fun x1 => if x1 ≤ v1 then some (1 : Int32) else (gR h 4 v0 0).bind fun x5 => (aI h 0 x5 (v1 - (1 : Int32))).bind fun x7 => (gR h 4 v0 0).bind fun x9 => (aI h 0 x9 v1).bind fun x11 => if x7 ≤ x11 then Row_rises_2 v0 (v1 + (1 : Int32)) h else some (0 : Int32)) := (fx_eq Row_rises_2_M (2, v1, v0, h)).trans (if_pos rfl)
theorem Row_rises_2_s {v0 : Nat} {v1 : Int32} {h : am_H} {r : Int32} (hb : Row_rises_2 v0 v1 h = some r) : Sx 0 mX4_rises 2 [.ref v0, .int v1] [] h (some (.int r)) h := (Row_rises_2_T _ _ hb).1 rfl
set_option maxHeartbeats 1000000 in
set_option maxRecDepth 100000 in
noncomputable def Row_rises (v0 : Nat) (h : am_H) : Option Int32 := if isO h 4 v0 = true then Row_rises_2 v0 (1 : Int32) h else none
set_option maxHeartbeats 1000000 in
set_option maxRecDepth 100000 in
theorem Row_rises_s {v0 : Nat} {h : am_H} {r : Int32} (hb : Row_rises v0 h = some r) : Sx 0 mX4_rises 0 (am_en [.ref v0] 2) [] h (some (.int r)) h := by
  unfold Row_rises at hb
  have hb := (iz hb).2
  show Sx 0 mX4_rises 0 [.ref v0, .retAddr 0] [] h (some (.int r)) h
  refine Sx.o (fun _ _ _ k => op_iconst (1 : Int32) dX4_rises_0 (by decide) k) ?_
  refine Sx.o (L' := [.ref v0, .int (1 : Int32)]) (fun _ _ _ k => ex_istore_n dX4_rises_1 (by decide) k) ?_
  exact Row_rises_2_s hb
theorem Row_rises_o {v0 : Nat} {h : am_H} {r : Int32} (hb : Row_rises v0 h = some r) : isO h 4 v0 = true := by
  unfold Row_rises at hb
  exact (iz hb).1
set_option maxHeartbeats 1000000 in
set_option maxRecDepth 100000 in
noncomputable def Row_order_8_b (g : (Nat × Int32 × Int32 × Int32 × Nat × am_H) → Option am_H) (v0 : Nat) (v1 : Int32) (v2 : Int32) (h : am_H) : Option am_H := (gI h 4 v0 1).bind fun x1 => if x1 ≤ v2 then some h else g (18, v1, v2, v2, v0, h)
set_option maxHeartbeats 1000000 in
set_option maxRecDepth 100000 in
theorem Row_order_8_m {g g2 : (Nat × Int32 × Int32 × Int32 × Nat × am_H) → Option am_H} (hg : ∀ s, Le (g s) (g2 s)) (v0 : Nat) (v1 : Int32) (v2 : Int32) (h : am_H) : Le (Row_order_8_b g v0 v1 v2 h) (Row_order_8_b g2 v0 v1 v2 h) := by unfold Row_order_8_b; exact le_b (le_r _) fun x1 => le_i (le_r _) (hg _)
set_option maxHeartbeats 1000000 in
set_option maxRecDepth 100000 in
noncomputable def Row_order_18_b (g : (Nat × Int32 × Int32 × Int32 × Nat × am_H) → Option am_H) (v0 : Nat) (v1 : Int32) (v2 : Int32) (v3 : Int32) (h : am_H) : Option am_H := if v3 ≤ v1 then g (58, v1, v2, 0, v0, h) else if v3 ≤ (0 : Int32) then g (58, v1, v2, 0, v0, h) else (gR h 4 v0 0).bind fun x9 => (aI h 0 x9 (v3 - (1 : Int32))).bind fun x11 => (gR h 4 v0 0).bind fun x13 => (aI h 0 x13 v3).bind fun x15 => if x11 ≤ x15 then g (58, v1, v2, 0, v0, h) else (Row_exchange v0 (v3 - (1 : Int32)) v3 h).bind fun h19 => g (18, v1, v2, (v3 + (-1 : Int32)), v0, h19)
set_option maxHeartbeats 1000000 in
set_option maxRecDepth 100000 in
theorem Row_order_18_m {g g2 : (Nat × Int32 × Int32 × Int32 × Nat × am_H) → Option am_H} (hg : ∀ s, Le (g s) (g2 s)) (v0 : Nat) (v1 : Int32) (v2 : Int32) (v3 : Int32) (h : am_H) : Le (Row_order_18_b g v0 v1 v2 v3 h) (Row_order_18_b g2 v0 v1 v2 v3 h) := by unfold Row_order_18_b; exact le_i (hg _) (le_i (hg _) (le_b (le_r _) fun x9 => le_b (le_r _) fun x11 => le_b (le_r _) fun x13 => le_b (le_r _) fun x15 => le_i (hg _) (le_b (le_r _) fun h19 => hg _)))
set_option maxHeartbeats 1000000 in
set_option maxRecDepth 100000 in
noncomputable def Row_order_58_b (g : (Nat × Int32 × Int32 × Int32 × Nat × am_H) → Option am_H) (v0 : Nat) (v1 : Int32) (v2 : Int32) (h : am_H) : Option am_H := g (8, v1, (v2 + (1 : Int32)), 0, v0, h)
set_option maxHeartbeats 1000000 in
set_option maxRecDepth 100000 in
theorem Row_order_58_m {g g2 : (Nat × Int32 × Int32 × Int32 × Nat × am_H) → Option am_H} (hg : ∀ s, Le (g s) (g2 s)) (v0 : Nat) (v1 : Int32) (v2 : Int32) (h : am_H) : Le (Row_order_58_b g v0 v1 v2 h) (Row_order_58_b g2 v0 v1 v2 h) := by unfold Row_order_58_b; exact hg _
noncomputable def Row_order_8_F (g : (Nat × Int32 × Int32 × Int32 × Nat × am_H) → Option am_H) (s : (Nat × Int32 × Int32 × Int32 × Nat × am_H)) : Option am_H := if s.1 = 8 then Row_order_8_b g s.2.2.2.2.1 s.2.1 s.2.2.1 s.2.2.2.2.2 else if s.1 = 18 then Row_order_18_b g s.2.2.2.2.1 s.2.1 s.2.2.1 s.2.2.2.1 s.2.2.2.2.2 else if s.1 = 58 then Row_order_58_b g s.2.2.2.2.1 s.2.1 s.2.2.1 s.2.2.2.2.2 else none
theorem Row_order_8_M : Mn Row_order_8_F := fun g g2 hg s => by unfold Row_order_8_F; exact le_i (Row_order_8_m hg s.2.2.2.2.1 s.2.1 s.2.2.1 s.2.2.2.2.2) (le_i (Row_order_18_m hg s.2.2.2.2.1 s.2.1 s.2.2.1 s.2.2.2.1 s.2.2.2.2.2) (le_i (Row_order_58_m hg s.2.2.2.2.1 s.2.1 s.2.2.1 s.2.2.2.2.2) (le_r _)))
def Row_order_8_P (s : (Nat × Int32 × Int32 × Int32 × Nat × am_H)) (r : am_H) : Prop := (s.1 = 8 → Sx 2 mX4_order 8 [.ref s.2.2.2.2.1, .int s.2.1, .int s.2.2.1, .retAddr 0] [] s.2.2.2.2.2 none r) ∧ (s.1 = 18 → Sx 2 mX4_order 18 [.ref s.2.2.2.2.1, .int s.2.1, .int s.2.2.1, .int s.2.2.2.1] [] s.2.2.2.2.2 none r) ∧ (s.1 = 58 → Sx 2 mX4_order 58 [.ref s.2.2.2.2.1, .int s.2.1, .int s.2.2.1, .retAddr 0] [] s.2.2.2.2.2 none r) ∧ True
set_option maxHeartbeats 1000000 in
set_option maxRecDepth 100000 in
theorem Row_order_8_t {g : (Nat × Int32 × Int32 × Int32 × Nat × am_H) → Option am_H} (hg : ∀ s r, g s = some r → Row_order_8_P s r) {v0 : Nat} {v1 : Int32} {v2 : Int32} {h : am_H} {r : am_H} (hb : Row_order_8_b g v0 v1 v2 h = some r) : Sx 2 mX4_order 8 [.ref v0, .int v1, .int v2, .retAddr 0] [] h none r := by
  unfold Row_order_8_b at hb
  refine Sx.o (fun _ _ _ k => ex_iload_n dX4_order_8 rfl k) ?_
  refine Sx.o (fun _ _ _ k => ex_aload_n dX4_order_9 rfl rfl k) ?_
  obtain ⟨x1, e_x1, hb2⟩ := ob2 hb
  refine Sx.o (fun _ _ _ k => op_getI fX4_25 dX4_order_10 e_x1 k) ?_
  refine Sx.b (fun _ _ _ k1 k2 => ex_icmp_ge 64 dX4_order_13 (by decide) k1 k2) (fun q => ?_) (fun q => ?_)
  · have hb3 := ip q hb2
    obtain rfl := Option.some.inj hb3
    exact Sx.r (fun _ _ _ k => ex_vret rfl dX4_order_64 k)
  · have hb4 := iq q hb2
    refine Sx.o (fun _ _ _ k => ex_iload_n dX4_order_16 rfl k) ?_
    refine Sx.o (L' := [.ref v0, .int v1, .int v2, .int v2]) (fun _ _ _ k => ex_istore_n dX4_order_17 (by decide) k) ?_
    exact (hg _ _ hb4).2.1 rfl
set_option maxHeartbeats 1000000 in
set_option maxRecDepth 100000 in
theorem Row_order_18_t {g : (Nat × Int32 × Int32 × Int32 × Nat × am_H) → Option am_H} (hg : ∀ s r, g s = some r → Row_order_8_P s r) {v0 : Nat} {v1 : Int32} {v2 : Int32} {v3 : Int32} {h : am_H} {r : am_H} (hb : Row_order_18_b g v0 v1 v2 v3 h = some r) : Sx 2 mX4_order 18 [.ref v0, .int v1, .int v2, .int v3] [] h none r := by
  unfold Row_order_18_b at hb
  refine Sx.o (fun _ _ _ k => ex_iload_n dX4_order_18 rfl k) ?_
  refine Sx.o (fun _ _ _ k => ex_iload_n dX4_order_19 rfl k) ?_
  refine Sx.b (fun _ _ _ k1 k2 => ex_icmp_le 58 dX4_order_20 (by decide) k1 k2) (fun q => ?_) (fun q => ?_)
  · have hb5 := ip q hb
    refine Sx.fg [true, true, true, false] ?_
    exact (hg _ _ hb5).2.2.1 rfl
  · have hb6 := iq q hb
    refine Sx.o (fun _ _ _ k => ex_iload_n dX4_order_23 rfl k) ?_
    refine Sx.b (fun _ _ _ k1 k2 => ex_if_le 58 dX4_order_24 (by decide) k1 k2) (fun q => ?_) (fun q => ?_)
    · have hb7 := ip q hb6
      refine Sx.fg [true, true, true, false] ?_
      exact (hg _ _ hb7).2.2.1 rfl
    · have hb8 := iq q hb6
      refine Sx.o (fun _ _ _ k => ex_aload_n dX4_order_27 rfl rfl k) ?_
      obtain ⟨x9, e_x9, hb10⟩ := ob2 hb8
      refine Sx.o (fun _ _ _ k => op_getR fX4_9 dX4_order_28 e_x9 k) ?_
      refine Sx.o (fun _ _ _ k => ex_iload_n dX4_order_31 rfl k) ?_
      refine Sx.o (fun _ _ _ k => op_iconst (1 : Int32) dX4_order_32 (by decide) k) ?_
      refine Sx.o (fun _ _ _ k => ex_isub dX4_order_33 k) ?_
      obtain ⟨x11, e_x11, hb12⟩ := ob2 hb10
      refine Sx.o (fun _ _ _ k => op_iald dX4_order_34 e_x11 k) ?_
      refine Sx.o (fun _ _ _ k => ex_aload_n dX4_order_35 rfl rfl k) ?_
      obtain ⟨x13, e_x13, hb14⟩ := ob2 hb12
      refine Sx.o (fun _ _ _ k => op_getR fX4_9 dX4_order_36 e_x13 k) ?_
      refine Sx.o (fun _ _ _ k => ex_iload_n dX4_order_39 rfl k) ?_
      obtain ⟨x15, e_x15, hb16⟩ := ob2 hb14
      refine Sx.o (fun _ _ _ k => op_iald dX4_order_40 e_x15 k) ?_
      refine Sx.b (fun _ _ _ k1 k2 => ex_icmp_le 58 dX4_order_41 (by decide) k1 k2) (fun q => ?_) (fun q => ?_)
      · have hb17 := ip q hb16
        refine Sx.fg [true, true, true, false] ?_
        exact (hg _ _ hb17).2.2.1 rfl
      · have hb18 := iq q hb16
        refine Sx.o (fun _ _ _ k => ex_aload_n dX4_order_44 rfl rfl k) ?_
        refine Sx.o (fun _ _ _ k => ex_iload_n dX4_order_45 rfl k) ?_
        refine Sx.o (fun _ _ _ k => op_iconst (1 : Int32) dX4_order_46 (by decide) k) ?_
        refine Sx.o (fun _ _ _ k => ex_isub dX4_order_47 k) ?_
        refine Sx.o (fun _ _ _ k => ex_iload_n dX4_order_48 rfl k) ?_
        obtain ⟨h19, e_h19, hb20⟩ := ob2 hb18
        refine sx_callV (dc := 1) (as := [.int (v3 - (1 : Int32)), .int v3]) (stq := []) (by omega) dX4_order_49 MX4_exchange kX4_51 iX4_exchange sX4_exchange rfl rfl (Row_exchange_o e_h19) rfl rfl (Nat.le_of_ble_eq_true rfl) (Nat.le_of_ble_eq_true rfl) (Row_exchange_s e_h19) rfl ?_
        refine Sx.o (L' := [.ref v0, .int v1, .int v2, .int (v3 + (-1 : Int32))]) (fun _ _ _ k => op_iinc (-1 : Int32) dX4_order_52 (by decide) rfl (by decide) k) ?_
        refine Sx.o (fun _ _ _ k => ex_goto 18 dX4_order_55 (by decide) k) ?_
        exact (hg _ _ hb20).2.1 rfl
set_option maxHeartbeats 1000000 in
set_option maxRecDepth 100000 in
theorem Row_order_58_t {g : (Nat × Int32 × Int32 × Int32 × Nat × am_H) → Option am_H} (hg : ∀ s r, g s = some r → Row_order_8_P s r) {v0 : Nat} {v1 : Int32} {v2 : Int32} {h : am_H} {r : am_H} (hb : Row_order_58_b g v0 v1 v2 h = some r) : Sx 2 mX4_order 58 [.ref v0, .int v1, .int v2, .retAddr 0] [] h none r := by
  unfold Row_order_58_b at hb
  refine Sx.o (L' := [.ref v0, .int v1, .int (v2 + (1 : Int32)), .retAddr 0]) (fun _ _ _ k => op_iinc (1 : Int32) dX4_order_58 (by decide) rfl (by decide) k) ?_
  refine Sx.o (fun _ _ _ k => ex_goto 8 dX4_order_61 (by decide) k) ?_
  exact (hg _ _ hb).1 rfl
theorem Row_order_8_T : ∀ s r, fx Row_order_8_F Row_order_8_M s = some r → Row_order_8_P s r := fx_ind Row_order_8_M Row_order_8_P (fun g hg s r hb => by
  unfold Row_order_8_F at hb
  exact ⟨fun q => Row_order_8_t hg (ip q hb), fun q => Row_order_18_t hg (ip q (iq (by rw [q]; decide) hb)), fun q => Row_order_58_t hg (ip q (iq (by rw [q]; decide) (iq (by rw [q]; decide) hb))), trivial⟩)
set_option maxHeartbeats 1000000 in
set_option maxRecDepth 100000 in
theorem Row_order_8_r {g : (Nat × Int32 × Int32 × Int32 × Nat × am_H) → Option am_H} (hg : ∀ s r, g s = some r → Eqs s.2.2.2.2.2 r) {v0 : Nat} {v1 : Int32} {v2 : Int32} {h : am_H} {r : am_H} (hb : Row_order_8_b g v0 v1 v2 h = some r) : Eqs h r := by
  unfold Row_order_8_b at hb
  have w0 := Eqs.rf h
  obtain ⟨x1, e_x1, hb2⟩ := ob2 hb
  by_cases q : x1 ≤ v2
  · have hb3 := ip q hb2
    obtain rfl := Option.some.inj hb3
    exact w0
  · have hb4 := iq q hb2
    exact w0.tr (hg _ _ hb4)
set_option maxHeartbeats 1000000 in
set_option maxRecDepth 100000 in
theorem Row_order_18_r {g : (Nat × Int32 × Int32 × Int32 × Nat × am_H) → Option am_H} (hg : ∀ s r, g s = some r → Eqs s.2.2.2.2.2 r) {v0 : Nat} {v1 : Int32} {v2 : Int32} {v3 : Int32} {h : am_H} {r : am_H} (hb : Row_order_18_b g v0 v1 v2 v3 h = some r) : Eqs h r := by
  unfold Row_order_18_b at hb
  have w0 := Eqs.rf h
  by_cases q : v3 ≤ v1
  · have hb5 := ip q hb
    exact w0.tr (hg _ _ hb5)
  · have hb6 := iq q hb
    by_cases q : v3 ≤ (0 : Int32)
    · have hb7 := ip q hb6
      exact w0.tr (hg _ _ hb7)
    · have hb8 := iq q hb6
      obtain ⟨x9, e_x9, hb10⟩ := ob2 hb8
      obtain ⟨x11, e_x11, hb12⟩ := ob2 hb10
      obtain ⟨x13, e_x13, hb14⟩ := ob2 hb12
      obtain ⟨x15, e_x15, hb16⟩ := ob2 hb14
      by_cases q : x11 ≤ x15
      · have hb17 := ip q hb16
        exact w0.tr (hg _ _ hb17)
      · have hb18 := iq q hb16
        obtain ⟨h19, e_h19, hb20⟩ := ob2 hb18
        have w21 := w0.tr (Row_exchange_q e_h19)
        exact w21.tr (hg _ _ hb20)
set_option maxHeartbeats 1000000 in
set_option maxRecDepth 100000 in
theorem Row_order_58_r {g : (Nat × Int32 × Int32 × Int32 × Nat × am_H) → Option am_H} (hg : ∀ s r, g s = some r → Eqs s.2.2.2.2.2 r) {v0 : Nat} {v1 : Int32} {v2 : Int32} {h : am_H} {r : am_H} (hb : Row_order_58_b g v0 v1 v2 h = some r) : Eqs h r := by
  unfold Row_order_58_b at hb
  have w0 := Eqs.rf h
  exact w0.tr (hg _ _ hb)
theorem Row_order_8_Q : ∀ s r, fx Row_order_8_F Row_order_8_M s = some r → Eqs s.2.2.2.2.2 r := fx_ind Row_order_8_M (fun s r => Eqs s.2.2.2.2.2 r) (fun g hg s r hb => by
  unfold Row_order_8_F at hb
  by_cases q0 : s.1 = 8
  · exact Row_order_8_r hg (ip q0 hb)
  · have hb0 := iq q0 hb
    by_cases q1 : s.1 = 18
    · exact Row_order_18_r hg (ip q1 hb0)
    · have hb1 := iq q1 hb0
      by_cases q2 : s.1 = 58
      · exact Row_order_58_r hg (ip q2 hb1)
      · have hb2 := iq q2 hb1
        exact nomatch hb2)
noncomputable def Row_order_8 (v0 : Nat) (v1 : Int32) (v2 : Int32) (h : am_H) : Option am_H := fx Row_order_8_F Row_order_8_M (8, v1, v2, 0, v0, h)
noncomputable def Row_order_18 (v0 : Nat) (v1 : Int32) (v2 : Int32) (v3 : Int32) (h : am_H) : Option am_H := fx Row_order_8_F Row_order_8_M (18, v1, v2, v3, v0, h)
noncomputable def Row_order_58 (v0 : Nat) (v1 : Int32) (v2 : Int32) (h : am_H) : Option am_H := fx Row_order_8_F Row_order_8_M (58, v1, v2, 0, v0, h)
set_option maxHeartbeats 1000000 in
set_option maxRecDepth 100000 in
theorem Row_order_8_e (v0 : Nat) (v1 : Int32) (v2 : Int32) (h : am_H) : Row_order_8 v0 v1 v2 h = ((gI h 4 v0 1).bind fun x1 => if x1 ≤ v2 then some h else Row_order_18 v0 v1 v2 v2 h) := (fx_eq Row_order_8_M (8, v1, v2, 0, v0, h)).trans (if_pos rfl)
theorem Row_order_8_q {v0 : Nat} {v1 : Int32} {v2 : Int32} {h : am_H} {r : am_H} (hb : Row_order_8 v0 v1 v2 h = some r) : Eqs h r := Row_order_8_Q _ _ hb
theorem Row_order_8_s {v0 : Nat} {v1 : Int32} {v2 : Int32} {h : am_H} {r : am_H} (hb : Row_order_8 v0 v1 v2 h = some r) : Sx 2 mX4_order 8 [.ref v0, .int v1, .int v2, .retAddr 0] [] h none r := (Row_order_8_T _ _ hb).1 rfl
set_option maxHeartbeats 1000000 in
set_option maxRecDepth 100000 in
theorem Row_order_18_e (v0 : Nat) (v1 : Int32) (v2 : Int32) (v3 : Int32) (h : am_H) : Row_order_18 v0 v1 v2 v3 h = (if v3 ≤ v1 then Row_order_58 v0 v1 v2 h else if v3 ≤ (0 : Int32) then Row_order_58 v0 v1 v2 h else (gR h 4 v0 0).bind fun x9 => (aI h 0 x9 (v3 - (1 : Int32))).bind fun x11 => (gR h 4 v0 0).bind fun x13 => (aI h 0 x13 v3).bind fun x15 => if x11 ≤ x15 then Row_order_58 v0 v1 v2 h else (Row_exchange v0 (v3 - (1 : Int32)) v3 h).bind fun h19 => Row_order_18 v0 v1 v2 (v3 + (-1 : Int32)) h19) := (fx_eq Row_order_8_M (18, v1, v2, v3, v0, h)).trans ((if_neg (show ¬ (18 : Nat) = 8 by decide)).trans (if_pos rfl))
theorem Row_order_18_q {v0 : Nat} {v1 : Int32} {v2 : Int32} {v3 : Int32} {h : am_H} {r : am_H} (hb : Row_order_18 v0 v1 v2 v3 h = some r) : Eqs h r := Row_order_8_Q _ _ hb
theorem Row_order_18_s {v0 : Nat} {v1 : Int32} {v2 : Int32} {v3 : Int32} {h : am_H} {r : am_H} (hb : Row_order_18 v0 v1 v2 v3 h = some r) : Sx 2 mX4_order 18 [.ref v0, .int v1, .int v2, .int v3] [] h none r := (Row_order_8_T _ _ hb).2.1 rfl
set_option maxHeartbeats 1000000 in
set_option maxRecDepth 100000 in
theorem Row_order_58_e (v0 : Nat) (v1 : Int32) (v2 : Int32) (h : am_H) : Row_order_58 v0 v1 v2 h = (Row_order_8 v0 v1 (v2 + (1 : Int32)) h) := (fx_eq Row_order_8_M (58, v1, v2, 0, v0, h)).trans ((if_neg (show ¬ (58 : Nat) = 8 by decide)).trans ((if_neg (show ¬ (58 : Nat) = 18 by decide)).trans (if_pos rfl)))
theorem Row_order_58_q {v0 : Nat} {v1 : Int32} {v2 : Int32} {h : am_H} {r : am_H} (hb : Row_order_58 v0 v1 v2 h = some r) : Eqs h r := Row_order_8_Q _ _ hb
theorem Row_order_58_s {v0 : Nat} {v1 : Int32} {v2 : Int32} {h : am_H} {r : am_H} (hb : Row_order_58 v0 v1 v2 h = some r) : Sx 2 mX4_order 58 [.ref v0, .int v1, .int v2, .retAddr 0] [] h none r := (Row_order_8_T _ _ hb).2.2.1 rfl
set_option maxHeartbeats 1000000 in
set_option maxRecDepth 100000 in
noncomputable def Row_order (v0 : Nat) (v1 : Int32) (h : am_H) : Option am_H := if isO h 4 v0 = true then Row_order_8 v0 v1 ((if v1 < (0 : Int32) then (0 : Int32) else v1) + (1 : Int32)) h else none
set_option maxHeartbeats 1000000 in
set_option maxRecDepth 100000 in
theorem Row_order_s {v0 : Nat} {v1 : Int32} {h : am_H} {r : am_H} (hb : Row_order v0 v1 h = some r) : Sx 2 mX4_order 0 (am_en [.ref v0, .int v1] 4) [] h none r := by
  unfold Row_order at hb
  have hb := (iz hb).2
  show Sx 2 mX4_order 0 [.ref v0, .int v1, .retAddr 0, .retAddr 0] [] h none r
  refine Sx.o (fun _ _ _ k => ex_iload_n dX4_order_0 rfl k) ?_
  refine Sx.o (fun _ _ _ k => op_iconst (0 : Int32) dX4_order_1 (by decide) k) ?_
  refine Sx.o (fun _ _ _ k => op_mmax (by omega) dX4_order_2 kX4_40 (Nat.le_of_ble_eq_true rfl) k) ?_
  refine Sx.o (fun _ _ _ k => op_iconst (1 : Int32) dX4_order_5 (by decide) k) ?_
  refine Sx.o (fun _ _ _ k => ex_iadd dX4_order_6 k) ?_
  refine Sx.o (L' := [.ref v0, .int v1, .int ((if v1 < (0 : Int32) then (0 : Int32) else v1) + (1 : Int32)), .retAddr 0]) (fun _ _ _ k => ex_istore_n dX4_order_7 (by decide) k) ?_
  exact Row_order_8_s hb
set_option maxHeartbeats 1000000 in
set_option maxRecDepth 100000 in
theorem Row_order_q {v0 : Nat} {v1 : Int32} {h : am_H} {r : am_H} (hb : Row_order v0 v1 h = some r) : Eqs h r := by
  unfold Row_order at hb
  have hb := (iz hb).2
  have w0 := Eqs.rf h
  exact w0.tr (Row_order_8_q hb)
theorem Row_order_o {v0 : Nat} {v1 : Int32} {h : am_H} {r : am_H} (hb : Row_order v0 v1 h = some r) : isO h 4 v0 = true := by
  unfold Row_order at hb
  exact (iz hb).1
set_option maxHeartbeats 1000000 in
set_option maxRecDepth 100000 in
noncomputable def Row_advance_83 (v0 : Nat) (v2 : Int32) (v3 : Int32) (h : am_H) : Option (Int32 × am_H) := (Row_exchange v0 v2 v3 h).bind fun h1 => (gI h1 4 v0 1).bind fun x4 => (Row_reverse v0 (v2 + (1 : Int32)) (x4 - (1 : Int32)) h1).bind fun h6 => some ((1 : Int32), h6)
set_option maxHeartbeats 1000000 in
set_option maxRecDepth 100000 in
theorem Row_advance_83_s {v0 : Nat} {v2 : Int32} {v3 : Int32} {h : am_H} {r : (Int32 × am_H)} (hb : Row_advance_83 v0 v2 v3 h = some r) : Sx 2 mX4_advance 83 [.ref v0, .retAddr 0, .int v2, .int v3] [] h (some (.int r.1)) r.2 := by
  unfold Row_advance_83 at hb
  refine Sx.o (fun _ _ _ k => ex_aload_n dX4_advance_83 rfl rfl k) ?_
  refine Sx.o (fun _ _ _ k => ex_iload_n dX4_advance_84 rfl k) ?_
  refine Sx.o (fun _ _ _ k => ex_iload_n dX4_advance_85 rfl k) ?_
  obtain ⟨h1, e_h1, hb2⟩ := ob2 hb
  refine sx_callV (dc := 1) (as := [.int v2, .int v3]) (stq := []) (by omega) dX4_advance_86 MX4_exchange kX4_51 iX4_exchange sX4_exchange rfl rfl (Row_exchange_o e_h1) rfl rfl (Nat.le_of_ble_eq_true rfl) (Nat.le_of_ble_eq_true rfl) (Row_exchange_s e_h1) rfl ?_
  refine Sx.o (fun _ _ _ k => ex_aload_n dX4_advance_89 rfl rfl k) ?_
  refine Sx.o (fun _ _ _ k => ex_iload_n dX4_advance_90 rfl k) ?_
  refine Sx.o (fun _ _ _ k => op_iconst (1 : Int32) dX4_advance_91 (by decide) k) ?_
  refine Sx.o (fun _ _ _ k => ex_iadd dX4_advance_92 k) ?_
  refine Sx.o (fun _ _ _ k => ex_aload_n dX4_advance_93 rfl rfl k) ?_
  obtain ⟨x4, e_x4, hb5⟩ := ob2 hb2
  refine Sx.o (fun _ _ _ k => op_getI fX4_25 dX4_advance_94 e_x4 k) ?_
  refine Sx.o (fun _ _ _ k => op_iconst (1 : Int32) dX4_advance_97 (by decide) k) ?_
  refine Sx.o (fun _ _ _ k => ex_isub dX4_advance_98 k) ?_
  obtain ⟨h6, e_h6, hb7⟩ := ob2 hb5
  refine sx_callV (dc := 1) (as := [.int (v2 + (1 : Int32)), .int (x4 - (1 : Int32))]) (stq := []) (by omega) dX4_advance_99 MX4_reverse kX4_47 iX4_reverse sX4_reverse rfl rfl (Row_reverse_o e_h6) rfl rfl (Nat.le_of_ble_eq_true rfl) (Nat.le_of_ble_eq_true rfl) (Row_reverse_s e_h6) rfl ?_
  refine Sx.o (fun _ _ _ k => op_iconst (1 : Int32) dX4_advance_102 (by decide) k) ?_
  obtain rfl := Option.some.inj hb7
  exact Sx.r (fun _ _ _ k => ex_zret rfl rfl dX4_advance_103 k)
set_option maxHeartbeats 1000000 in
set_option maxRecDepth 100000 in
theorem Row_advance_83_q {v0 : Nat} {v2 : Int32} {v3 : Int32} {h : am_H} {r : (Int32 × am_H)} (hb : Row_advance_83 v0 v2 v3 h = some r) : Eqs h r.2 := by
  unfold Row_advance_83 at hb
  have w0 := Eqs.rf h
  obtain ⟨h1, e_h1, hb2⟩ := ob2 hb
  have w3 := w0.tr (Row_exchange_q e_h1)
  obtain ⟨x4, e_x4, hb5⟩ := ob2 hb2
  obtain ⟨h6, e_h6, hb7⟩ := ob2 hb5
  have w8 := w3.tr (Row_reverse_q e_h6)
  obtain rfl := Option.some.inj hb7
  exact w8
set_option maxHeartbeats 1000000 in
set_option maxRecDepth 100000 in
noncomputable def Row_advance_57_b (g : (Nat × Int32 × Int32 × Nat × am_H) → Option (Int32 × am_H)) (v0 : Nat) (v2 : Int32) (v3 : Int32) (h : am_H) : Option (Int32 × am_H) := if v3 ≤ v2 then Row_advance_83 v0 v2 v3 h else (gR h 4 v0 0).bind fun x11 => (aI h 0 x11 v3).bind fun x13 => (gR h 4 v0 0).bind fun x15 => (aI h 0 x15 v2).bind fun x17 => if x17 < x13 then Row_advance_83 v0 v2 v3 h else g (57, v2, (v3 + (-1 : Int32)), v0, h)
set_option maxHeartbeats 1000000 in
set_option maxRecDepth 100000 in
theorem Row_advance_57_m {g g2 : (Nat × Int32 × Int32 × Nat × am_H) → Option (Int32 × am_H)} (hg : ∀ s, Le (g s) (g2 s)) (v0 : Nat) (v2 : Int32) (v3 : Int32) (h : am_H) : Le (Row_advance_57_b g v0 v2 v3 h) (Row_advance_57_b g2 v0 v2 v3 h) := by unfold Row_advance_57_b; exact le_i (le_r _) (le_b (le_r _) fun x11 => le_b (le_r _) fun x13 => le_b (le_r _) fun x15 => le_b (le_r _) fun x17 => le_i (le_r _) (hg _))
noncomputable def Row_advance_57_F (g : (Nat × Int32 × Int32 × Nat × am_H) → Option (Int32 × am_H)) (s : (Nat × Int32 × Int32 × Nat × am_H)) : Option (Int32 × am_H) := if s.1 = 57 then Row_advance_57_b g s.2.2.2.1 s.2.1 s.2.2.1 s.2.2.2.2 else none
theorem Row_advance_57_M : Mn Row_advance_57_F := fun g g2 hg s => by unfold Row_advance_57_F; exact le_i (Row_advance_57_m hg s.2.2.2.1 s.2.1 s.2.2.1 s.2.2.2.2) (le_r _)
def Row_advance_57_P (s : (Nat × Int32 × Int32 × Nat × am_H)) (r : (Int32 × am_H)) : Prop := (s.1 = 57 → Sx 2 mX4_advance 57 [.ref s.2.2.2.1, .retAddr 0, .int s.2.1, .int s.2.2.1] [] s.2.2.2.2 (some (.int r.1)) r.2) ∧ True
set_option maxHeartbeats 1000000 in
set_option maxRecDepth 100000 in
theorem Row_advance_57_t {g : (Nat × Int32 × Int32 × Nat × am_H) → Option (Int32 × am_H)} (hg : ∀ s r, g s = some r → Row_advance_57_P s r) {v0 : Nat} {v2 : Int32} {v3 : Int32} {h : am_H} {r : (Int32 × am_H)} (hb : Row_advance_57_b g v0 v2 v3 h = some r) : Sx 2 mX4_advance 57 [.ref v0, .retAddr 0, .int v2, .int v3] [] h (some (.int r.1)) r.2 := by
  unfold Row_advance_57_b at hb
  refine Sx.o (fun _ _ _ k => ex_iload_n dX4_advance_57 rfl k) ?_
  refine Sx.o (fun _ _ _ k => ex_iload_n dX4_advance_58 rfl k) ?_
  refine Sx.b (fun _ _ _ k1 k2 => ex_icmp_le 83 dX4_advance_59 (by decide) k1 k2) (fun q => ?_) (fun q => ?_)
  · have hb9 := ip q hb
    exact Row_advance_83_s hb9
  · have hb10 := iq q hb
    refine Sx.o (fun _ _ _ k => ex_aload_n dX4_advance_62 rfl rfl k) ?_
    obtain ⟨x11, e_x11, hb12⟩ := ob2 hb10
    refine Sx.o (fun _ _ _ k => op_getR fX4_9 dX4_advance_63 e_x11 k) ?_
    refine Sx.o (fun _ _ _ k => ex_iload_n dX4_advance_66 rfl k) ?_
    obtain ⟨x13, e_x13, hb14⟩ := ob2 hb12
    refine Sx.o (fun _ _ _ k => op_iald dX4_advance_67 e_x13 k) ?_
    refine Sx.o (fun _ _ _ k => ex_aload_n dX4_advance_68 rfl rfl k) ?_
    obtain ⟨x15, e_x15, hb16⟩ := ob2 hb14
    refine Sx.o (fun _ _ _ k => op_getR fX4_9 dX4_advance_69 e_x15 k) ?_
    refine Sx.o (fun _ _ _ k => ex_iload_n dX4_advance_72 rfl k) ?_
    obtain ⟨x17, e_x17, hb18⟩ := ob2 hb16
    refine Sx.o (fun _ _ _ k => op_iald dX4_advance_73 e_x17 k) ?_
    refine Sx.b (fun _ _ _ k1 k2 => ex_icmp_gt 83 dX4_advance_74 (by decide) k1 k2) (fun q => ?_) (fun q => ?_)
    · have hb19 := ip q hb18
      exact Row_advance_83_s hb19
    · have hb20 := iq q hb18
      refine Sx.o (L' := [.ref v0, .retAddr 0, .int v2, .int (v3 + (-1 : Int32))]) (fun _ _ _ k => op_iinc (-1 : Int32) dX4_advance_77 (by decide) rfl (by decide) k) ?_
      refine Sx.o (fun _ _ _ k => ex_goto 57 dX4_advance_80 (by decide) k) ?_
      exact (hg _ _ hb20).1 rfl
theorem Row_advance_57_T : ∀ s r, fx Row_advance_57_F Row_advance_57_M s = some r → Row_advance_57_P s r := fx_ind Row_advance_57_M Row_advance_57_P (fun g hg s r hb => by
  unfold Row_advance_57_F at hb
  exact ⟨fun q => Row_advance_57_t hg (ip q hb), trivial⟩)
set_option maxHeartbeats 1000000 in
set_option maxRecDepth 100000 in
theorem Row_advance_57_r {g : (Nat × Int32 × Int32 × Nat × am_H) → Option (Int32 × am_H)} (hg : ∀ s r, g s = some r → Eqs s.2.2.2.2 r.2) {v0 : Nat} {v2 : Int32} {v3 : Int32} {h : am_H} {r : (Int32 × am_H)} (hb : Row_advance_57_b g v0 v2 v3 h = some r) : Eqs h r.2 := by
  unfold Row_advance_57_b at hb
  have w0 := Eqs.rf h
  by_cases q : v3 ≤ v2
  · have hb9 := ip q hb
    exact w0.tr (Row_advance_83_q hb9)
  · have hb10 := iq q hb
    obtain ⟨x11, e_x11, hb12⟩ := ob2 hb10
    obtain ⟨x13, e_x13, hb14⟩ := ob2 hb12
    obtain ⟨x15, e_x15, hb16⟩ := ob2 hb14
    obtain ⟨x17, e_x17, hb18⟩ := ob2 hb16
    by_cases q : x17 < x13
    · have hb19 := ip q hb18
      exact w0.tr (Row_advance_83_q hb19)
    · have hb20 := iq q hb18
      exact w0.tr (hg _ _ hb20)
theorem Row_advance_57_Q : ∀ s r, fx Row_advance_57_F Row_advance_57_M s = some r → Eqs s.2.2.2.2 r.2 := fx_ind Row_advance_57_M (fun s r => Eqs s.2.2.2.2 r.2) (fun g hg s r hb => by
  unfold Row_advance_57_F at hb
  by_cases q0 : s.1 = 57
  · exact Row_advance_57_r hg (ip q0 hb)
  · have hb0 := iq q0 hb
    exact nomatch hb0)
noncomputable def Row_advance_57 (v0 : Nat) (v2 : Int32) (v3 : Int32) (h : am_H) : Option (Int32 × am_H) := fx Row_advance_57_F Row_advance_57_M (57, v2, v3, v0, h)
set_option maxHeartbeats 1000000 in
set_option maxRecDepth 100000 in
theorem Row_advance_57_e (v0 : Nat) (v2 : Int32) (v3 : Int32) (h : am_H) : Row_advance_57 v0 v2 v3 h = (if v3 ≤ v2 then Row_advance_83 v0 v2 v3 h else (gR h 4 v0 0).bind fun x11 => (aI h 0 x11 v3).bind fun x13 => (gR h 4 v0 0).bind fun x15 => (aI h 0 x15 v2).bind fun x17 => if x17 < x13 then Row_advance_83 v0 v2 v3 h else Row_advance_57 v0 v2 (v3 + (-1 : Int32)) h) := (fx_eq Row_advance_57_M (57, v2, v3, v0, h)).trans (if_pos rfl)
theorem Row_advance_57_q {v0 : Nat} {v2 : Int32} {v3 : Int32} {h : am_H} {r : (Int32 × am_H)} (hb : Row_advance_57 v0 v2 v3 h = some r) : Eqs h r.2 := Row_advance_57_Q _ _ hb
theorem Row_advance_57_s {v0 : Nat} {v2 : Int32} {v3 : Int32} {h : am_H} {r : (Int32 × am_H)} (hb : Row_advance_57 v0 v2 v3 h = some r) : Sx 2 mX4_advance 57 [.ref v0, .retAddr 0, .int v2, .int v3] [] h (some (.int r.1)) r.2 := (Row_advance_57_T _ _ hb).1 rfl
set_option maxHeartbeats 1000000 in
set_option maxRecDepth 100000 in
noncomputable def Row_advance_39 (v0 : Nat) (v1 : Int32) (v2 : Int32) (h : am_H) : Option (Int32 × am_H) := if v2 < v1 then some ((0 : Int32), h) else if (0 : Int32) ≤ v2 then (gI h 4 v0 1).bind fun x25 => Row_advance_57 v0 v2 (x25 - (1 : Int32)) h else some ((0 : Int32), h)
set_option maxHeartbeats 1000000 in
set_option maxRecDepth 100000 in
theorem Row_advance_39_s {v0 : Nat} {v1 : Int32} {v2 : Int32} {h : am_H} {r : (Int32 × am_H)} (hb : Row_advance_39 v0 v1 v2 h = some r) : Sx 2 mX4_advance 39 [.ref v0, .int v1, .int v2, .retAddr 0] [] h (some (.int r.1)) r.2 := by
  unfold Row_advance_39 at hb
  refine Sx.o (fun _ _ _ k => ex_iload_n dX4_advance_39 rfl k) ?_
  refine Sx.o (fun _ _ _ k => ex_iload_n dX4_advance_40 rfl k) ?_
  refine Sx.b (fun _ _ _ k1 k2 => ex_icmp_lt 48 dX4_advance_41 (by decide) k1 k2) (fun q => ?_) (fun q => ?_)
  · have hb21 := ip q hb
    refine Sx.o (fun _ _ _ k => op_iconst (0 : Int32) dX4_advance_48 (by decide) k) ?_
    obtain rfl := Option.some.inj hb21
    exact Sx.r (fun _ _ _ k => ex_zret rfl rfl dX4_advance_49 k)
  · have hb22 := iq q hb
    refine Sx.o (fun _ _ _ k => ex_iload_n dX4_advance_44 rfl k) ?_
    refine Sx.b (fun _ _ _ k1 k2 => ex_if_ge 50 dX4_advance_45 (by decide) k1 k2) (fun q => ?_) (fun q => ?_)
    · have hb23 := ip q hb22
      refine Sx.o (fun _ _ _ k => ex_aload_n dX4_advance_50 rfl rfl k) ?_
      obtain ⟨x25, e_x25, hb26⟩ := ob2 hb23
      refine Sx.o (fun _ _ _ k => op_getI fX4_25 dX4_advance_51 e_x25 k) ?_
      refine Sx.o (fun _ _ _ k => op_iconst (1 : Int32) dX4_advance_54 (by decide) k) ?_
      refine Sx.o (fun _ _ _ k => ex_isub dX4_advance_55 k) ?_
      refine Sx.o (L' := [.ref v0, .int v1, .int v2, .int (x25 - (1 : Int32))]) (fun _ _ _ k => ex_istore_n dX4_advance_56 (by decide) k) ?_
      refine Sx.fg [true, false, true, true] ?_
      exact Row_advance_57_s hb26
    · have hb24 := iq q hb22
      refine Sx.o (fun _ _ _ k => op_iconst (0 : Int32) dX4_advance_48 (by decide) k) ?_
      obtain rfl := Option.some.inj hb24
      exact Sx.r (fun _ _ _ k => ex_zret rfl rfl dX4_advance_49 k)
set_option maxHeartbeats 1000000 in
set_option maxRecDepth 100000 in
theorem Row_advance_39_q {v0 : Nat} {v1 : Int32} {v2 : Int32} {h : am_H} {r : (Int32 × am_H)} (hb : Row_advance_39 v0 v1 v2 h = some r) : Eqs h r.2 := by
  unfold Row_advance_39 at hb
  have w0 := Eqs.rf h
  by_cases q : v2 < v1
  · have hb21 := ip q hb
    obtain rfl := Option.some.inj hb21
    exact w0
  · have hb22 := iq q hb
    by_cases q : (0 : Int32) ≤ v2
    · have hb23 := ip q hb22
      obtain ⟨x25, e_x25, hb26⟩ := ob2 hb23
      exact w0.tr (Row_advance_57_q hb26)
    · have hb24 := iq q hb22
      obtain rfl := Option.some.inj hb24
      exact w0
set_option maxHeartbeats 1000000 in
set_option maxRecDepth 100000 in
noncomputable def Row_advance_7_b (g : (Nat × Int32 × Int32 × Nat × am_H) → Option (Int32 × am_H)) (v0 : Nat) (v1 : Int32) (v2 : Int32) (h : am_H) : Option (Int32 × am_H) := if v2 < v1 then Row_advance_39 v0 v1 v2 h else if v2 < (0 : Int32) then Row_advance_39 v0 v1 v2 h else (gR h 4 v0 0).bind fun x31 => (aI h 0 x31 v2).bind fun x33 => (gR h 4 v0 0).bind fun x35 => (aI h 0 x35 (v2 + (1 : Int32))).bind fun x37 => if x33 < x37 then Row_advance_39 v0 v1 v2 h else g (7, v1, (v2 + (-1 : Int32)), v0, h)
set_option maxHeartbeats 1000000 in
set_option maxRecDepth 100000 in
theorem Row_advance_7_m {g g2 : (Nat × Int32 × Int32 × Nat × am_H) → Option (Int32 × am_H)} (hg : ∀ s, Le (g s) (g2 s)) (v0 : Nat) (v1 : Int32) (v2 : Int32) (h : am_H) : Le (Row_advance_7_b g v0 v1 v2 h) (Row_advance_7_b g2 v0 v1 v2 h) := by unfold Row_advance_7_b; exact le_i (le_r _) (le_i (le_r _) (le_b (le_r _) fun x31 => le_b (le_r _) fun x33 => le_b (le_r _) fun x35 => le_b (le_r _) fun x37 => le_i (le_r _) (hg _)))
noncomputable def Row_advance_7_F (g : (Nat × Int32 × Int32 × Nat × am_H) → Option (Int32 × am_H)) (s : (Nat × Int32 × Int32 × Nat × am_H)) : Option (Int32 × am_H) := if s.1 = 7 then Row_advance_7_b g s.2.2.2.1 s.2.1 s.2.2.1 s.2.2.2.2 else none
theorem Row_advance_7_M : Mn Row_advance_7_F := fun g g2 hg s => by unfold Row_advance_7_F; exact le_i (Row_advance_7_m hg s.2.2.2.1 s.2.1 s.2.2.1 s.2.2.2.2) (le_r _)
def Row_advance_7_P (s : (Nat × Int32 × Int32 × Nat × am_H)) (r : (Int32 × am_H)) : Prop := (s.1 = 7 → Sx 2 mX4_advance 7 [.ref s.2.2.2.1, .int s.2.1, .int s.2.2.1, .retAddr 0] [] s.2.2.2.2 (some (.int r.1)) r.2) ∧ True
set_option maxHeartbeats 1000000 in
set_option maxRecDepth 100000 in
theorem Row_advance_7_t {g : (Nat × Int32 × Int32 × Nat × am_H) → Option (Int32 × am_H)} (hg : ∀ s r, g s = some r → Row_advance_7_P s r) {v0 : Nat} {v1 : Int32} {v2 : Int32} {h : am_H} {r : (Int32 × am_H)} (hb : Row_advance_7_b g v0 v1 v2 h = some r) : Sx 2 mX4_advance 7 [.ref v0, .int v1, .int v2, .retAddr 0] [] h (some (.int r.1)) r.2 := by
  unfold Row_advance_7_b at hb
  refine Sx.o (fun _ _ _ k => ex_iload_n dX4_advance_7 rfl k) ?_
  refine Sx.o (fun _ _ _ k => ex_iload_n dX4_advance_8 rfl k) ?_
  refine Sx.b (fun _ _ _ k1 k2 => ex_icmp_lt 39 dX4_advance_9 (by decide) k1 k2) (fun q => ?_) (fun q => ?_)
  · have hb27 := ip q hb
    exact Row_advance_39_s hb27
  · have hb28 := iq q hb
    refine Sx.o (fun _ _ _ k => ex_iload_n dX4_advance_12 rfl k) ?_
    refine Sx.b (fun _ _ _ k1 k2 => ex_if_lt 39 dX4_advance_13 (by decide) k1 k2) (fun q => ?_) (fun q => ?_)
    · have hb29 := ip q hb28
      exact Row_advance_39_s hb29
    · have hb30 := iq q hb28
      refine Sx.o (fun _ _ _ k => ex_aload_n dX4_advance_16 rfl rfl k) ?_
      obtain ⟨x31, e_x31, hb32⟩ := ob2 hb30
      refine Sx.o (fun _ _ _ k => op_getR fX4_9 dX4_advance_17 e_x31 k) ?_
      refine Sx.o (fun _ _ _ k => ex_iload_n dX4_advance_20 rfl k) ?_
      obtain ⟨x33, e_x33, hb34⟩ := ob2 hb32
      refine Sx.o (fun _ _ _ k => op_iald dX4_advance_21 e_x33 k) ?_
      refine Sx.o (fun _ _ _ k => ex_aload_n dX4_advance_22 rfl rfl k) ?_
      obtain ⟨x35, e_x35, hb36⟩ := ob2 hb34
      refine Sx.o (fun _ _ _ k => op_getR fX4_9 dX4_advance_23 e_x35 k) ?_
      refine Sx.o (fun _ _ _ k => ex_iload_n dX4_advance_26 rfl k) ?_
      refine Sx.o (fun _ _ _ k => op_iconst (1 : Int32) dX4_advance_27 (by decide) k) ?_
      refine Sx.o (fun _ _ _ k => ex_iadd dX4_advance_28 k) ?_
      obtain ⟨x37, e_x37, hb38⟩ := ob2 hb36
      refine Sx.o (fun _ _ _ k => op_iald dX4_advance_29 e_x37 k) ?_
      refine Sx.b (fun _ _ _ k1 k2 => ex_icmp_lt 39 dX4_advance_30 (by decide) k1 k2) (fun q => ?_) (fun q => ?_)
      · have hb39 := ip q hb38
        exact Row_advance_39_s hb39
      · have hb40 := iq q hb38
        refine Sx.o (L' := [.ref v0, .int v1, .int (v2 + (-1 : Int32)), .retAddr 0]) (fun _ _ _ k => op_iinc (-1 : Int32) dX4_advance_33 (by decide) rfl (by decide) k) ?_
        refine Sx.o (fun _ _ _ k => ex_goto 7 dX4_advance_36 (by decide) k) ?_
        exact (hg _ _ hb40).1 rfl
theorem Row_advance_7_T : ∀ s r, fx Row_advance_7_F Row_advance_7_M s = some r → Row_advance_7_P s r := fx_ind Row_advance_7_M Row_advance_7_P (fun g hg s r hb => by
  unfold Row_advance_7_F at hb
  exact ⟨fun q => Row_advance_7_t hg (ip q hb), trivial⟩)
set_option maxHeartbeats 1000000 in
set_option maxRecDepth 100000 in
theorem Row_advance_7_r {g : (Nat × Int32 × Int32 × Nat × am_H) → Option (Int32 × am_H)} (hg : ∀ s r, g s = some r → Eqs s.2.2.2.2 r.2) {v0 : Nat} {v1 : Int32} {v2 : Int32} {h : am_H} {r : (Int32 × am_H)} (hb : Row_advance_7_b g v0 v1 v2 h = some r) : Eqs h r.2 := by
  unfold Row_advance_7_b at hb
  have w0 := Eqs.rf h
  by_cases q : v2 < v1
  · have hb27 := ip q hb
    exact w0.tr (Row_advance_39_q hb27)
  · have hb28 := iq q hb
    by_cases q : v2 < (0 : Int32)
    · have hb29 := ip q hb28
      exact w0.tr (Row_advance_39_q hb29)
    · have hb30 := iq q hb28
      obtain ⟨x31, e_x31, hb32⟩ := ob2 hb30
      obtain ⟨x33, e_x33, hb34⟩ := ob2 hb32
      obtain ⟨x35, e_x35, hb36⟩ := ob2 hb34
      obtain ⟨x37, e_x37, hb38⟩ := ob2 hb36
      by_cases q : x33 < x37
      · have hb39 := ip q hb38
        exact w0.tr (Row_advance_39_q hb39)
      · have hb40 := iq q hb38
        exact w0.tr (hg _ _ hb40)
theorem Row_advance_7_Q : ∀ s r, fx Row_advance_7_F Row_advance_7_M s = some r → Eqs s.2.2.2.2 r.2 := fx_ind Row_advance_7_M (fun s r => Eqs s.2.2.2.2 r.2) (fun g hg s r hb => by
  unfold Row_advance_7_F at hb
  by_cases q0 : s.1 = 7
  · exact Row_advance_7_r hg (ip q0 hb)
  · have hb0 := iq q0 hb
    exact nomatch hb0)
noncomputable def Row_advance_7 (v0 : Nat) (v1 : Int32) (v2 : Int32) (h : am_H) : Option (Int32 × am_H) := fx Row_advance_7_F Row_advance_7_M (7, v1, v2, v0, h)
set_option maxHeartbeats 1000000 in
set_option maxRecDepth 100000 in
theorem Row_advance_7_e (v0 : Nat) (v1 : Int32) (v2 : Int32) (h : am_H) : Row_advance_7 v0 v1 v2 h = (if v2 < v1 then Row_advance_39 v0 v1 v2 h else if v2 < (0 : Int32) then Row_advance_39 v0 v1 v2 h else (gR h 4 v0 0).bind fun x31 => (aI h 0 x31 v2).bind fun x33 => (gR h 4 v0 0).bind fun x35 => (aI h 0 x35 (v2 + (1 : Int32))).bind fun x37 => if x33 < x37 then Row_advance_39 v0 v1 v2 h else Row_advance_7 v0 v1 (v2 + (-1 : Int32)) h) := (fx_eq Row_advance_7_M (7, v1, v2, v0, h)).trans (if_pos rfl)
theorem Row_advance_7_q {v0 : Nat} {v1 : Int32} {v2 : Int32} {h : am_H} {r : (Int32 × am_H)} (hb : Row_advance_7 v0 v1 v2 h = some r) : Eqs h r.2 := Row_advance_7_Q _ _ hb
theorem Row_advance_7_s {v0 : Nat} {v1 : Int32} {v2 : Int32} {h : am_H} {r : (Int32 × am_H)} (hb : Row_advance_7 v0 v1 v2 h = some r) : Sx 2 mX4_advance 7 [.ref v0, .int v1, .int v2, .retAddr 0] [] h (some (.int r.1)) r.2 := (Row_advance_7_T _ _ hb).1 rfl
set_option maxHeartbeats 1000000 in
set_option maxRecDepth 100000 in
noncomputable def Row_advance (v0 : Nat) (v1 : Int32) (h : am_H) : Option (Int32 × am_H) := if isO h 4 v0 = true then (gI h 4 v0 1).bind fun x41 => Row_advance_7 v0 v1 (x41 - (2 : Int32)) h else none
set_option maxHeartbeats 1000000 in
set_option maxRecDepth 100000 in
theorem Row_advance_s {v0 : Nat} {v1 : Int32} {h : am_H} {r : (Int32 × am_H)} (hb : Row_advance v0 v1 h = some r) : Sx 2 mX4_advance 0 (am_en [.ref v0, .int v1] 4) [] h (some (.int r.1)) r.2 := by
  unfold Row_advance at hb
  have hb := (iz hb).2
  show Sx 2 mX4_advance 0 [.ref v0, .int v1, .retAddr 0, .retAddr 0] [] h (some (.int r.1)) r.2
  refine Sx.o (fun _ _ _ k => ex_aload_n dX4_advance_0 rfl rfl k) ?_
  obtain ⟨x41, e_x41, hb42⟩ := ob2 hb
  refine Sx.o (fun _ _ _ k => op_getI fX4_25 dX4_advance_1 e_x41 k) ?_
  refine Sx.o (fun _ _ _ k => op_iconst (2 : Int32) dX4_advance_4 (by decide) k) ?_
  refine Sx.o (fun _ _ _ k => ex_isub dX4_advance_5 k) ?_
  refine Sx.o (L' := [.ref v0, .int v1, .int (x41 - (2 : Int32)), .retAddr 0]) (fun _ _ _ k => ex_istore_n dX4_advance_6 (by decide) k) ?_
  exact Row_advance_7_s hb42
set_option maxHeartbeats 1000000 in
set_option maxRecDepth 100000 in
theorem Row_advance_q {v0 : Nat} {v1 : Int32} {h : am_H} {r : (Int32 × am_H)} (hb : Row_advance v0 v1 h = some r) : Eqs h r.2 := by
  unfold Row_advance at hb
  have hb := (iz hb).2
  have w0 := Eqs.rf h
  obtain ⟨x41, e_x41, hb42⟩ := ob2 hb
  exact w0.tr (Row_advance_7_q hb42)
theorem Row_advance_o {v0 : Nat} {v1 : Int32} {h : am_H} {r : (Int32 × am_H)} (hb : Row_advance v0 v1 h = some r) : isO h 4 v0 = true := by
  unfold Row_advance at hb
  exact (iz hb).1
set_option maxHeartbeats 1000000 in
set_option maxRecDepth 100000 in
noncomputable def Row_rise_16_b (g : (Nat × Int32 × Nat × am_H) → Option am_H) (v0 : Nat) (v2 : Int32) (h : am_H) : Option am_H := (gI h 4 v0 1).bind fun x1 => if x1 ≤ v2 then (pV h 4 v0 2 (.int (0 : Int32))).bind fun h5 => (pV h5 4 v0 3 (.int (0 : Int32))).bind fun h8 => (pV h8 4 v0 4 (.int (-1 : Int32))).bind fun h11 => some h11 else (gR h 4 v0 0).bind fun x14 => (sI h x14 v2 (v2 + (1 : Int32))).bind fun h16 => g (16, (v2 + (1 : Int32)), v0, h16)
set_option maxHeartbeats 1000000 in
set_option maxRecDepth 100000 in
theorem Row_rise_16_m {g g2 : (Nat × Int32 × Nat × am_H) → Option am_H} (hg : ∀ s, Le (g s) (g2 s)) (v0 : Nat) (v2 : Int32) (h : am_H) : Le (Row_rise_16_b g v0 v2 h) (Row_rise_16_b g2 v0 v2 h) := by unfold Row_rise_16_b; exact le_b (le_r _) fun x1 => le_i (le_r _) (le_b (le_r _) fun x14 => le_b (le_r _) fun h16 => hg _)
noncomputable def Row_rise_16_F (g : (Nat × Int32 × Nat × am_H) → Option am_H) (s : (Nat × Int32 × Nat × am_H)) : Option am_H := if s.1 = 16 then Row_rise_16_b g s.2.2.1 s.2.1 s.2.2.2 else none
theorem Row_rise_16_M : Mn Row_rise_16_F := fun g g2 hg s => by unfold Row_rise_16_F; exact le_i (Row_rise_16_m hg s.2.2.1 s.2.1 s.2.2.2) (le_r _)
def Row_rise_16_P (s : (Nat × Int32 × Nat × am_H)) (r : am_H) : Prop := (s.1 = 16 → Sx 1 mX4_rise 16 [.ref s.2.2.1, .retAddr 0, .int s.2.1] [] s.2.2.2 none r) ∧ True
set_option maxHeartbeats 1000000 in
set_option maxRecDepth 100000 in
theorem Row_rise_16_t {g : (Nat × Int32 × Nat × am_H) → Option am_H} (hg : ∀ s r, g s = some r → Row_rise_16_P s r) {v0 : Nat} {v2 : Int32} {h : am_H} {r : am_H} (hb : Row_rise_16_b g v0 v2 h = some r) : Sx 1 mX4_rise 16 [.ref v0, .retAddr 0, .int v2] [] h none r := by
  unfold Row_rise_16_b at hb
  refine Sx.o (fun _ _ _ k => ex_iload_n dX4_rise_16 rfl k) ?_
  refine Sx.o (fun _ _ _ k => ex_aload_n dX4_rise_17 rfl rfl k) ?_
  obtain ⟨x1, e_x1, hb2⟩ := ob2 hb
  refine Sx.o (fun _ _ _ k => op_getI fX4_25 dX4_rise_18 e_x1 k) ?_
  refine Sx.b (fun _ _ _ k1 k2 => ex_icmp_ge 39 dX4_rise_21 (by decide) k1 k2) (fun q => ?_) (fun q => ?_)
  · have hb3 := ip q hb2
    refine Sx.o (fun _ _ _ k => ex_aload_n dX4_rise_39 rfl rfl k) ?_
    refine Sx.o (fun _ _ _ k => op_iconst (0 : Int32) dX4_rise_40 (by decide) k) ?_
    obtain ⟨h5, e_h5, hb6⟩ := ob2 hb3
    refine Sx.p (pV_q e_h5) (fun _ _ _ k => op_put pX4_28 dX4_rise_41 e_h5 (fun _ => rfl) (fun _ => rfl) k) ?_
    refine Sx.o (fun _ _ _ k => ex_aload_n dX4_rise_44 rfl rfl k) ?_
    refine Sx.o (fun _ _ _ k => op_iconst (0 : Int32) dX4_rise_45 (by decide) k) ?_
    obtain ⟨h8, e_h8, hb9⟩ := ob2 hb6
    refine Sx.p (pV_q e_h8) (fun _ _ _ k => op_put pX4_31 dX4_rise_46 e_h8 (fun _ => rfl) (fun _ => rfl) k) ?_
    refine Sx.o (fun _ _ _ k => ex_aload_n dX4_rise_49 rfl rfl k) ?_
    refine Sx.o (fun _ _ _ k => op_iconst (-1 : Int32) dX4_rise_50 (by decide) k) ?_
    obtain ⟨h11, e_h11, hb12⟩ := ob2 hb9
    refine Sx.p (pV_q e_h11) (fun _ _ _ k => op_put pX4_15 dX4_rise_51 e_h11 (fun _ => rfl) (fun _ => rfl) k) ?_
    obtain rfl := Option.some.inj hb12
    exact Sx.r (fun _ _ _ k => ex_vret rfl dX4_rise_54 k)
  · have hb4 := iq q hb2
    refine Sx.o (fun _ _ _ k => ex_aload_n dX4_rise_24 rfl rfl k) ?_
    obtain ⟨x14, e_x14, hb15⟩ := ob2 hb4
    refine Sx.o (fun _ _ _ k => op_getR fX4_9 dX4_rise_25 e_x14 k) ?_
    refine Sx.o (fun _ _ _ k => ex_iload_n dX4_rise_28 rfl k) ?_
    refine Sx.o (fun _ _ _ k => ex_iload_n dX4_rise_29 rfl k) ?_
    refine Sx.o (fun _ _ _ k => op_iconst (1 : Int32) dX4_rise_30 (by decide) k) ?_
    refine Sx.o (fun _ _ _ k => ex_iadd dX4_rise_31 k) ?_
    obtain ⟨h16, e_h16, hb17⟩ := ob2 hb15
    refine Sx.p (sI_q e_h16) (fun _ _ _ k => op_iast dX4_rise_32 e_h16 k) ?_
    refine Sx.o (L' := [.ref v0, .retAddr 0, .int (v2 + (1 : Int32))]) (fun _ _ _ k => op_iinc (1 : Int32) dX4_rise_33 (by decide) rfl (by decide) k) ?_
    refine Sx.o (fun _ _ _ k => ex_goto 16 dX4_rise_36 (by decide) k) ?_
    exact (hg _ _ hb17).1 rfl
theorem Row_rise_16_T : ∀ s r, fx Row_rise_16_F Row_rise_16_M s = some r → Row_rise_16_P s r := fx_ind Row_rise_16_M Row_rise_16_P (fun g hg s r hb => by
  unfold Row_rise_16_F at hb
  exact ⟨fun q => Row_rise_16_t hg (ip q hb), trivial⟩)
set_option maxHeartbeats 1000000 in
set_option maxRecDepth 100000 in
theorem Row_rise_16_r {g : (Nat × Int32 × Nat × am_H) → Option am_H} (hg : ∀ s r, g s = some r → Eqs s.2.2.2 r) {v0 : Nat} {v2 : Int32} {h : am_H} {r : am_H} (hb : Row_rise_16_b g v0 v2 h = some r) : Eqs h r := by
  unfold Row_rise_16_b at hb
  have w0 := Eqs.rf h
  obtain ⟨x1, e_x1, hb2⟩ := ob2 hb
  by_cases q : x1 ≤ v2
  · have hb3 := ip q hb2
    obtain ⟨h5, e_h5, hb6⟩ := ob2 hb3
    have w7 := w0.tr (pV_q e_h5)
    obtain ⟨h8, e_h8, hb9⟩ := ob2 hb6
    have w10 := w7.tr (pV_q e_h8)
    obtain ⟨h11, e_h11, hb12⟩ := ob2 hb9
    have w13 := w10.tr (pV_q e_h11)
    obtain rfl := Option.some.inj hb12
    exact w13
  · have hb4 := iq q hb2
    obtain ⟨x14, e_x14, hb15⟩ := ob2 hb4
    obtain ⟨h16, e_h16, hb17⟩ := ob2 hb15
    have w18 := w0.tr (sI_q e_h16)
    exact w18.tr (hg _ _ hb17)
theorem Row_rise_16_Q : ∀ s r, fx Row_rise_16_F Row_rise_16_M s = some r → Eqs s.2.2.2 r := fx_ind Row_rise_16_M (fun s r => Eqs s.2.2.2 r) (fun g hg s r hb => by
  unfold Row_rise_16_F at hb
  by_cases q0 : s.1 = 16
  · exact Row_rise_16_r hg (ip q0 hb)
  · have hb0 := iq q0 hb
    exact nomatch hb0)
noncomputable def Row_rise_16 (v0 : Nat) (v2 : Int32) (h : am_H) : Option am_H := fx Row_rise_16_F Row_rise_16_M (16, v2, v0, h)
set_option maxHeartbeats 1000000 in
set_option maxRecDepth 100000 in
theorem Row_rise_16_e (v0 : Nat) (v2 : Int32) (h : am_H) : Row_rise_16 v0 v2 h = ((gI h 4 v0 1).bind fun x1 => if x1 ≤ v2 then (pV h 4 v0 2 (.int (0 : Int32))).bind fun h5 => (pV h5 4 v0 3 (.int (0 : Int32))).bind fun h8 => (pV h8 4 v0 4 (.int (-1 : Int32))).bind fun h11 => some h11 else (gR h 4 v0 0).bind fun x14 => (sI h x14 v2 (v2 + (1 : Int32))).bind fun h16 => Row_rise_16 v0 (v2 + (1 : Int32)) h16) := (fx_eq Row_rise_16_M (16, v2, v0, h)).trans (if_pos rfl)
theorem Row_rise_16_q {v0 : Nat} {v2 : Int32} {h : am_H} {r : am_H} (hb : Row_rise_16 v0 v2 h = some r) : Eqs h r := Row_rise_16_Q _ _ hb
theorem Row_rise_16_s {v0 : Nat} {v2 : Int32} {h : am_H} {r : am_H} (hb : Row_rise_16 v0 v2 h = some r) : Sx 1 mX4_rise 16 [.ref v0, .retAddr 0, .int v2] [] h none r := (Row_rise_16_T _ _ hb).1 rfl
set_option maxHeartbeats 1000000 in
set_option maxRecDepth 100000 in
noncomputable def Row_rise (v0 : Nat) (v1 : Int32) (h : am_H) : Option am_H := if isO h 4 v0 = true then (pV h 4 v0 1 (.int (if (0 : Int32) < (if (13 : Int32) < v1 then (13 : Int32) else v1) then (if (13 : Int32) < v1 then (13 : Int32) else v1) else (0 : Int32)))).bind fun h19 => Row_rise_16 v0 (0 : Int32) h19 else none
set_option maxHeartbeats 1000000 in
set_option maxRecDepth 100000 in
theorem Row_rise_s {v0 : Nat} {v1 : Int32} {h : am_H} {r : am_H} (hb : Row_rise v0 v1 h = some r) : Sx 1 mX4_rise 0 (am_en [.ref v0, .int v1] 3) [] h none r := by
  unfold Row_rise at hb
  have hb := (iz hb).2
  show Sx 1 mX4_rise 0 [.ref v0, .int v1, .retAddr 0] [] h none r
  refine Sx.o (fun _ _ _ k => ex_aload_n dX4_rise_0 rfl rfl k) ?_
  refine Sx.o (fun _ _ _ k => op_iconst (0 : Int32) dX4_rise_1 (by decide) k) ?_
  refine Sx.o (fun _ _ _ k => ex_iload_n dX4_rise_2 rfl k) ?_
  refine Sx.o (fun _ _ _ k => op_bipush (13 : Int32) dX4_rise_3 (by decide) k) ?_
  refine Sx.o (fun _ _ _ k => op_mmin (by omega) dX4_rise_5 kX4_34 (Nat.le_of_ble_eq_true rfl) k) ?_
  refine Sx.o (fun _ _ _ k => op_mmax (by omega) dX4_rise_8 kX4_40 (Nat.le_of_ble_eq_true rfl) k) ?_
  obtain ⟨h19, e_h19, hb20⟩ := ob2 hb
  refine Sx.p (pV_q e_h19) (fun _ _ _ k => op_put pX4_25 dX4_rise_11 e_h19 (fun _ => rfl) (fun _ => rfl) k) ?_
  refine Sx.o (fun _ _ _ k => op_iconst (0 : Int32) dX4_rise_14 (by decide) k) ?_
  refine Sx.o (L' := [.ref v0, .int v1, .int (0 : Int32)]) (fun _ _ _ k => ex_istore_n dX4_rise_15 (by decide) k) ?_
  refine Sx.fg [true, false, true] ?_
  exact Row_rise_16_s hb20
set_option maxHeartbeats 1000000 in
set_option maxRecDepth 100000 in
theorem Row_rise_q {v0 : Nat} {v1 : Int32} {h : am_H} {r : am_H} (hb : Row_rise v0 v1 h = some r) : Eqs h r := by
  unfold Row_rise at hb
  have hb := (iz hb).2
  have w0 := Eqs.rf h
  obtain ⟨h19, e_h19, hb20⟩ := ob2 hb
  have w21 := w0.tr (pV_q e_h19)
  exact w21.tr (Row_rise_16_q hb20)
theorem Row_rise_o {v0 : Nat} {v1 : Int32} {h : am_H} {r : am_H} (hb : Row_rise v0 v1 h = some r) : isO h 4 v0 = true := by
  unfold Row_rise at hb
  exact (iz hb).1
