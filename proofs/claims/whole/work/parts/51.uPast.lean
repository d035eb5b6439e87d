/-! Past: its methods as functions (by wip/whole/dec.py) -/
set_option maxHeartbeats 1000000 in
set_option maxRecDepth 100000 in
noncomputable def Past_clear (v0 : Nat) (h : am_H) : Option am_H := if isO h 2 v0 = true then (pV h 2 v0 0 (.int (0 : Int32))).bind fun h1 => (pV h1 2 v0 1 (.int (0 : Int32))).bind fun h4 => some h4 else none
set_option maxHeartbeats 1000000 in
set_option maxRecDepth 100000 in
theorem Past_clear_s {v0 : Nat} {h : am_H} {r : am_H} (hb : Past_clear v0 h = some r) : Sx 0 mX2_clear 0 (am_en [.ref v0] 1) [] h none r := by
  unfold Past_clear at hb
  have hb := (iz hb).2
  show Sx 0 mX2_clear 0 [.ref v0] [] h none r
  refine Sx.o (fun _ _ _ k => ex_aload_n dX2_clear_0 rfl rfl k) ?_
  refine Sx.o (fun _ _ _ k => op_iconst (0 : Int32) dX2_clear_1 (by decide) k) ?_
  obtain ⟨h1, e_h1, hb2⟩ := ob2 hb
  refine Sx.p (pV_q e_h1) (fun _ _ _ k => op_put pX2_22 dX2_clear_2 e_h1 (fun _ => rfl) (fun _ => rfl) k) ?_
  refine Sx.o (fun _ _ _ k => ex_aload_n dX2_clear_5 rfl rfl k) ?_
  refine Sx.o (fun _ _ _ k => op_iconst (0 : Int32) dX2_clear_6 (by decide) k) ?_
  obtain ⟨h4, e_h4, hb5⟩ := ob2 hb2
  refine Sx.p (pV_q e_h4) (fun _ _ _ k => op_put pX2_26 dX2_clear_7 e_h4 (fun _ => rfl) (fun _ => rfl) k) ?_
  obtain rfl := Option.some.inj hb5
  exact Sx.r (fun _ _ _ k => ex_vret rfl dX2_clear_10 k)
set_option maxHeartbeats 1000000 in
set_option maxRecDepth 100000 in
theorem Past_clear_q {v0 : Nat} {h : am_H} {r : am_H} (hb : Past_clear v0 h = some r) : Eqs h r := by
  unfold Past_clear at hb
  have hb := (iz hb).2
  have w0 := Eqs.rf h
  obtain ⟨h1, e_h1, hb2⟩ := ob2 hb
  have w3 := w0.tr (pV_q e_h1)
  obtain ⟨h4, e_h4, hb5⟩ := ob2 hb2
  have w6 := w3.tr (pV_q e_h4)
  obtain rfl := Option.some.inj hb5
  exact w6
theorem Past_clear_o {v0 : Nat} {h : am_H} {r : am_H} (hb : Past_clear v0 h = some r) : isO h 2 v0 = true := by
  unfold Past_clear at hb
  exact (iz hb).1
set_option maxHeartbeats 1000000 in
set_option maxRecDepth 100000 in
noncomputable def Past_keep_21 (v0 : Nat) (v1 : Int32) (v2 : Nat) (h : am_H) : Option am_H := (gR h 2 v0 2).bind fun x1 => (gI h 2 v0 1).bind fun x3 => (aN h 4 x1 x3).bind fun x5 => (x5).bind fun x7 => (Row_copy x7 v2 h).bind fun h9 => (gR h9 2 v0 3).bind fun x12 => (gI h9 2 v0 1).bind fun x14 => (sI h9 x12 x14 v1).bind fun h16 => (gI h16 2 v0 1).bind fun x19 => (rmI (x19 + (1 : Int32)) (16 : Int32)).bind fun x21 => (pV h16 2 v0 1 (.int x21)).bind fun h23 => (gI h23 2 v0 0).bind fun x26 => (pV h23 2 v0 0 (.int (if (16 : Int32) < x26 + (1 : Int32) then (16 : Int32) else x26 + (1 : Int32)))).bind fun h28 => some h28
set_option maxHeartbeats 1000000 in
set_option maxRecDepth 100000 in
theorem Past_keep_21_s {v0 : Nat} {v1 : Int32} {v2 : Nat} {h : am_H} {r : am_H} (hb : Past_keep_21 v0 v1 v2 h = some r) : Sx 2 mX2_keep 21 [.ref v0, .int v1, .ref v2] [] h none r := by
  unfold Past_keep_21 at hb
  refine Sx.o (fun _ _ _ k => ex_aload_n dX2_keep_21 rfl rfl k) ?_
  obtain ⟨x1, e_x1, hb2⟩ := ob2 hb
  refine Sx.o (fun _ _ _ k => op_getR fX2_13 dX2_keep_22 e_x1 k) ?_
  refine Sx.o (fun _ _ _ k => ex_aload_n dX2_keep_25 rfl rfl k) ?_
  obtain ⟨x3, e_x3, hb4⟩ := ob2 hb2
  refine Sx.o (fun _ _ _ k => op_getI fX2_26 dX2_keep_26 e_x3 k) ?_
  obtain ⟨x5, e_x5, hb6⟩ := ob2 hb4
  refine Sx.o (fun _ _ _ k => op_aald (Or.inl rfl) dX2_keep_29 e_x5 k) ?_
  obtain ⟨x7, e_x7, hb8⟩ := ob2 hb6
  subst e_x7
  refine Sx.o (fun _ _ _ k => ex_aload_n dX2_keep_30 rfl rfl k) ?_
  obtain ⟨h9, e_h9, hb10⟩ := ob2 hb8
  refine sx_callV (dc := 1) (as := [.ref v2]) (stq := []) (by omega) dX2_keep_31 MX4_copy kX2_29 iX4_copy sX4_copy rfl rfl (Row_copy_o e_h9) rfl rfl (Nat.le_of_ble_eq_true rfl) (Nat.le_of_ble_eq_true rfl) (Row_copy_s e_h9) rfl ?_
  refine Sx.o (fun _ _ _ k => ex_aload_n dX2_keep_34 rfl rfl k) ?_
  obtain ⟨x12, e_x12, hb13⟩ := ob2 hb10
  refine Sx.o (fun _ _ _ k => op_getR fX2_17 dX2_keep_35 e_x12 k) ?_
  refine Sx.o (fun _ _ _ k => ex_aload_n dX2_keep_38 rfl rfl k) ?_
  obtain ⟨x14, e_x14, hb15⟩ := ob2 hb13
  refine Sx.o (fun _ _ _ k => op_getI fX2_26 dX2_keep_39 e_x14 k) ?_
  refine Sx.o (fun _ _ _ k => ex_iload_n dX2_keep_42 rfl k) ?_
  obtain ⟨h16, e_h16, hb17⟩ := ob2 hb15
  refine Sx.p (sI_q e_h16) (fun _ _ _ k => op_iast dX2_keep_43 e_h16 k) ?_
  refine Sx.o (fun _ _ _ k => ex_aload_n dX2_keep_44 rfl rfl k) ?_
  refine Sx.o (fun _ _ _ k => ex_aload_n dX2_keep_45 rfl rfl k) ?_
  obtain ⟨x19, e_x19, hb20⟩ := ob2 hb17
  refine Sx.o (fun _ _ _ k => op_getI fX2_26 dX2_keep_46 e_x19 k) ?_
  refine Sx.o (fun _ _ _ k => op_iconst (1 : Int32) dX2_keep_49 (by decide) k) ?_
  refine Sx.o (fun _ _ _ k => ex_iadd dX2_keep_50 k) ?_
  refine Sx.o (fun _ _ _ k => op_bipush (16 : Int32) dX2_keep_51 (by decide) k) ?_
  obtain ⟨x21, e_x21, hb22⟩ := ob2 hb20
  refine Sx.o (fun _ _ _ k => op_irem dX2_keep_53 e_x21 k) ?_
  obtain ⟨h23, e_h23, hb24⟩ := ob2 hb22
  refine Sx.p (pV_q e_h23) (fun _ _ _ k => op_put pX2_26 dX2_keep_54 e_h23 (fun _ => rfl) (fun _ => rfl) k) ?_
  refine Sx.o (fun _ _ _ k => ex_aload_n dX2_keep_57 rfl rfl k) ?_
  refine Sx.o (fun _ _ _ k => ex_aload_n dX2_keep_58 rfl rfl k) ?_
  obtain ⟨x26, e_x26, hb27⟩ := ob2 hb24
  refine Sx.o (fun _ _ _ k => op_getI fX2_22 dX2_keep_59 e_x26 k) ?_
  refine Sx.o (fun _ _ _ k => op_iconst (1 : Int32) dX2_keep_62 (by decide) k) ?_
  refine Sx.o (fun _ _ _ k => ex_iadd dX2_keep_63 k) ?_
  refine Sx.o (fun _ _ _ k => op_bipush (16 : Int32) dX2_keep_64 (by decide) k) ?_
  refine Sx.o (fun _ _ _ k => op_mmin (by omega) dX2_keep_66 kX2_33 (Nat.le_of_ble_eq_true rfl) k) ?_
  obtain ⟨h28, e_h28, hb29⟩ := ob2 hb27
  refine Sx.p (pV_q e_h28) (fun _ _ _ k => op_put pX2_22 dX2_keep_69 e_h28 (fun _ => rfl) (fun _ => rfl) k) ?_
  obtain rfl := Option.some.inj hb29
  exact Sx.r (fun _ _ _ k => ex_vret rfl dX2_keep_72 k)
set_option maxHeartbeats 1000000 in
set_option maxRecDepth 100000 in
theorem Past_keep_21_q {v0 : Nat} {v1 : Int32} {v2 : Nat} {h : am_H} {r : am_H} (hb : Past_keep_21 v0 v1 v2 h = some r) : Eqs h r := by
  unfold Past_keep_21 at hb
  have w0 := Eqs.rf h
  obtain ⟨x1, e_x1, hb2⟩ := ob2 hb
  obtain ⟨x3, e_x3, hb4⟩ := ob2 hb2
  obtain ⟨x5, e_x5, hb6⟩ := ob2 hb4
  obtain ⟨x7, e_x7, hb8⟩ := ob2 hb6
  subst e_x7
  obtain ⟨h9, e_h9, hb10⟩ := ob2 hb8
  have w11 := w0.tr (Row_copy_q e_h9)
  obtain ⟨x12, e_x12, hb13⟩ := ob2 hb10
  obtain ⟨x14, e_x14, hb15⟩ := ob2 hb13
  obtain ⟨h16, e_h16, hb17⟩ := ob2 hb15
  have w18 := w11.tr (sI_q e_h16)
  obtain ⟨x19, e_x19, hb20⟩ := ob2 hb17
  obtain ⟨x21, e_x21, hb22⟩ := ob2 hb20
  obtain ⟨h23, e_h23, hb24⟩ := ob2 hb22
  have w25 := w18.tr (pV_q e_h23)
  obtain ⟨x26, e_x26, hb27⟩ := ob2 hb24
  obtain ⟨h28, e_h28, hb29⟩ := ob2 hb27
  have w30 := w25.tr (pV_q e_h28)
  obtain rfl := Option.some.inj hb29
  exact w30
set_option maxHeartbeats 1000000 in
set_option maxRecDepth 100000 in
noncomputable def Past_keep_16 (v0 : Nat) (v1 : Int32) (v2 : Nat) (h : am_H) : Option am_H := (pV h 2 v0 1 (.int (0 : Int32))).bind fun h31 => Past_keep_21 v0 v1 v2 h31
set_option maxHeartbeats 1000000 in
set_option maxRecDepth 100000 in
theorem Past_keep_16_s {v0 : Nat} {v1 : Int32} {v2 : Nat} {h : am_H} {r : am_H} (hb : Past_keep_16 v0 v1 v2 h = some r) : Sx 2 mX2_keep 16 [.ref v0, .int v1, .ref v2] [] h none r := by
  unfold Past_keep_16 at hb
  refine Sx.o (fun _ _ _ k => ex_aload_n dX2_keep_16 rfl rfl k) ?_
  refine Sx.o (fun _ _ _ k => op_iconst (0 : Int32) dX2_keep_17 (by decide) k) ?_
  obtain ⟨h31, e_h31, hb32⟩ := ob2 hb
  refine Sx.p (pV_q e_h31) (fun _ _ _ k => op_put pX2_26 dX2_keep_18 e_h31 (fun _ => rfl) (fun _ => rfl) k) ?_
  exact Past_keep_21_s hb32
set_option maxHeartbeats 1000000 in
set_option maxRecDepth 100000 in
theorem Past_keep_16_q {v0 : Nat} {v1 : Int32} {v2 : Nat} {h : am_H} {r : am_H} (hb : Past_keep_16 v0 v1 v2 h = some r) : Eqs h r := by
  unfold Past_keep_16 at hb
  have w0 := Eqs.rf h
  obtain ⟨h31, e_h31, hb32⟩ := ob2 hb
  have w33 := w0.tr (pV_q e_h31)
  exact w33.tr (Past_keep_21_q hb32)
set_option maxHeartbeats 1000000 in
set_option maxRecDepth 100000 in
noncomputable def Past_keep (v0 : Nat) (v1 : Int32) (v2 : Nat) (h : am_H) : Option am_H := if isO h 2 v0 = true then (gI h 2 v0 1).bind fun x34 => if x34 < (0 : Int32) then Past_keep_16 v0 v1 v2 h else (gI h 2 v0 1).bind fun x38 => if x38 < (16 : Int32) then Past_keep_21 v0 v1 v2 h else Past_keep_16 v0 v1 v2 h else none
set_option maxHeartbeats 1000000 in
set_option maxRecDepth 100000 in
theorem Past_keep_s {v0 : Nat} {v1 : Int32} {v2 : Nat} {h : am_H} {r : am_H} (hb : Past_keep v0 v1 v2 h = some r) : Sx 2 mX2_keep 0 (am_en [.ref v0, .int v1, .ref v2] 3) [] h none r := by
  unfold Past_keep at hb
  have hb := (iz hb).2
  show Sx 2 mX2_keep 0 [.ref v0, .int v1, .ref v2] [] h none r
  refine Sx.o (fun _ _ _ k => ex_aload_n dX2_keep_0 rfl rfl k) ?_
  obtain ⟨x34, e_x34, hb35⟩ := ob2 hb
  refine Sx.o (fun _ _ _ k => op_getI fX2_26 dX2_keep_1 e_x34 k) ?_
  refine Sx.b (fun _ _ _ k1 k2 => ex_if_lt 16 dX2_keep_4 (by decide) k1 k2) (fun q => ?_) (fun q => ?_)
  · have hb36 := ip q hb35
    exact Past_keep_16_s hb36
  · have hb37 := iq q hb35
    refine Sx.o (fun _ _ _ k => ex_aload_n dX2_keep_7 rfl rfl k) ?_
    obtain ⟨x38, e_x38, hb39⟩ := ob2 hb37
    refine Sx.o (fun _ _ _ k => op_getI fX2_26 dX2_keep_8 e_x38 k) ?_
    refine Sx.o (fun _ _ _ k => op_bipush (16 : Int32) dX2_keep_11 (by decide) k) ?_
    refine Sx.b (fun _ _ _ k1 k2 => ex_icmp_lt 21 dX2_keep_13 (by decide) k1 k2) (fun q => ?_) (fun q => ?_)
    · have hb40 := ip q hb39
      exact Past_keep_21_s hb40
    · have hb41 := iq q hb39
      exact Past_keep_16_s hb41
set_option maxHeartbeats 1000000 in
set_option maxRecDepth 100000 in
theorem Past_keep_q {v0 : Nat} {v1 : Int32} {v2 : Nat} {h : am_H} {r : am_H} (hb : Past_keep v0 v1 v2 h = some r) : Eqs h r := by
  unfold Past_keep at hb
  have hb := (iz hb).2
  have w0 := Eqs.rf h
  obtain ⟨x34, e_x34, hb35⟩ := ob2 hb
  by_cases q : x34 < (0 : Int32)
  · have hb36 := ip q hb35
    exact w0.tr (Past_keep_16_q hb36)
  · have hb37 := iq q hb35
    obtain ⟨x38, e_x38, hb39⟩ := ob2 hb37
    by_cases q : x38 < (16 : Int32)
    · have hb40 := ip q hb39
      exact w0.tr (Past_keep_21_q hb40)
    · have hb41 := iq q hb39
      exact w0.tr (Past_keep_16_q hb41)
theorem Past_keep_o {v0 : Nat} {v1 : Int32} {v2 : Nat} {h : am_H} {r : am_H} (hb : Past_keep v0 v1 v2 h = some r) : isO h 2 v0 = true := by
  unfold Past_keep at hb
  exact (iz hb).1
set_option maxHeartbeats 1000000 in
set_option maxRecDepth 100000 in
noncomputable def Past_init_23_b (g : (Nat × Int32 × Nat × am_H) → Option am_H) (v0 : Nat) (v1 : Int32) (h : am_H) : Option am_H := if (16 : Int32) ≤ v1 then some h else (gR h 2 v0 2).bind fun x3 => (some (h ++ [.inr (4, [.null, .int 0, .int 0, .int 0, .int 0])])).bind fun h5 => (Row_init (List.length h) h5).bind fun h7 => (sN h7 4 x3 v1 (some (List.length h))).bind fun h9 => g (23, (v1 + (1 : Int32)), v0, h9)
set_option maxHeartbeats 1000000 in
set_option maxRecDepth 100000 in
theorem Past_init_23_m {g g2 : (Nat × Int32 × Nat × am_H) → Option am_H} (hg : ∀ s, Le (g s) (g2 s)) (v0 : Nat) (v1 : Int32) (h : am_H) : Le (Past_init_23_b g v0 v1 h) (Past_init_23_b g2 v0 v1 h) := by unfold Past_init_23_b; exact le_i (le_r _) (le_b (le_r _) fun x3 => le_b (le_r _) fun h5 => le_b (le_r _) fun h7 => le_b (le_r _) fun h9 => hg _)
noncomputable def Past_init_23_F (g : (Nat × Int32 × Nat × am_H) → Option am_H) (s : (Nat × Int32 × Nat × am_H)) : Option am_H := if s.1 = 23 then Past_init_23_b g s.2.2.1 s.2.1 s.2.2.2 else none
theorem Past_init_23_M : Mn Past_init_23_F := fun g g2 hg s => by unfold Past_init_23_F; exact le_i (Past_init_23_m hg s.2.2.1 s.2.1 s.2.2.2) (le_r _)
def Past_init_23_P (s : (Nat × Int32 × Nat × am_H)) (r : am_H) : Prop := (s.1 = 23 → Sx 2 mX2_init 23 [.ref s.2.2.1, .int s.2.1] [] s.2.2.2 none r) ∧ True
set_option maxHeartbeats 1000000 in
set_option maxRecDepth 100000 in
theorem Past_init_23_t {g : (Nat × Int32 × Nat × am_H) → Option am_H} (hg : ∀ s r, g s = some r → Past_init_23_P s r) {v0 : Nat} {v1 : Int32} {h : am_H} {r : am_H} (hb : Past_init_23_b g v0 v1 h = some r) : Sx 2 mX2_init 23 [.ref v0, .int v1] [] h none r := by
  unfold Past_init_23_b at hb
  refine Sx.o (fun _ _ _ k => ex_iload_n dX2_init_23 rfl k) ?_
  refine Sx.o (fun _ _ _ k => op_bipush (16 : Int32) dX2_init_24 (by decide) k) ?_
  refine Sx.b (fun _ _ _ k1 k2 => ex_icmp_ge 48 dX2_init_26 (by decide) k1 k2) (fun q => ?_) (fun q => ?_)
  · have hb1 := ip q hb
    obtain rfl := Option.some.inj hb1
    exact Sx.r (fun _ _ _ k => ex_vret rfl dX2_init_48 k)
  · have hb2 := iq q hb
    refine Sx.o (fun _ _ _ k => ex_aload_n dX2_init_29 rfl rfl k) ?_
    obtain ⟨x3, e_x3, hb4⟩ := ob2 hb2
    refine Sx.o (fun _ _ _ k => op_getR fX2_13 dX2_init_30 e_x3 k) ?_
    refine Sx.o (fun _ _ _ k => ex_iload_n dX2_init_33 rfl k) ?_
    obtain ⟨h5, e_h5, hb6⟩ := ob2 hb4
    have e2_h5 := Option.some.inj e_h5
    refine Sx.nw (N := 5) rfl (fun _ _ _ k => ex_new nX2_11 dX2_init_34 k) ?_
    rw [e2_h5]
    refine Sx.o (fun _ _ _ k => ex_dup dX2_init_37 rfl k) ?_
    obtain ⟨h7, e_h7, hb8⟩ := ob2 hb6
    refine sx_callIN (as := []) (by omega) dX2_init_38 MX4_init rfl rfl kX2_21 iX4_init rfl rfl (Nat.le_of_ble_eq_true rfl) (Nat.le_of_ble_eq_true rfl) (Row_init_s e_h7) ?_
    obtain ⟨h9, e_h9, hb10⟩ := ob2 hb8
    refine Sx.p (sN_q e_h9) (fun _ _ _ k => op_aast (w := (some (List.length h))) dX2_init_41 e_h9 k) ?_
    refine Sx.o (L' := [.ref v0, .int (v1 + (1 : Int32))]) (fun _ _ _ k => op_iinc (1 : Int32) dX2_init_42 (by decide) rfl (by decide) k) ?_
    refine Sx.o (fun _ _ _ k => ex_goto 23 dX2_init_45 (by decide) k) ?_
    exact (hg _ _ hb10).1 rfl
theorem Past_init_23_T : ∀ s r, fx Past_init_23_F Past_init_23_M s = some r → Past_init_23_P s r := fx_ind Past_init_23_M Past_init_23_P (fun g hg s r hb => by
  unfold Past_init_23_F at hb
  exact ⟨fun q => Past_init_23_t hg (ip q hb), trivial⟩)
noncomputable def Past_init_23 (v0 : Nat) (v1 : Int32) (h : am_H) : Option am_H := fx Past_init_23_F Past_init_23_M (23, v1, v0, h)
set_option maxHeartbeats 1000000 in
set_option maxRecDepth 100000 in
theorem Past_init_23_e (v0 : Nat) (v1 : Int32) (h : am_H) : Past_init_23 v0 v1 h = (if (16 : Int32) ≤ v1 then some h else (gR h 2 v0 2).bind fun x3 => (some (h ++ [.inr (4, [.null, .int 0, .int 0, .int 0, .int 0])])).bind fun h5 => (Row_init (List.length h) h5).bind fun h7 => (sN h7 4 x3 v1 (some (List.length h))).bind fun h9 => Past_init_23 v0 (v1 + (1 : Int32)) h9) := (fx_eq Past_init_23_M (23, v1, v0, h)).trans (if_pos rfl)
theorem Past_init_23_s {v0 : Nat} {v1 : Int32} {h : am_H} {r : am_H} (hb : Past_init_23 v0 v1 h = some r) : Sx 2 mX2_init 23 [.ref v0, .int v1] [] h none r := (Past_init_23_T _ _ hb).1 rfl
set_option maxHeartbeats 1000000 in
set_option maxRecDepth 100000 in
noncomputable def Past_init (v0 : Nat) (h : am_H) : Option am_H := if isO h 2 v0 = true then (nA h 4 (16 : Int32)).bind fun h12 => (pV h12 2 v0 2 (.ref (List.length h))).bind fun h14 => (nA h14 0 (16 : Int32)).bind fun h17 => (pV h17 2 v0 3 (.ref (List.length h14))).bind fun h19 => Past_init_23 v0 (0 : Int32) h19 else none
set_option maxHeartbeats 1000000 in
set_option maxRecDepth 100000 in
theorem Past_init_s {v0 : Nat} {h : am_H} {r : am_H} (hb : Past_init v0 h = some r) : Sx 2 mX2_init 0 (am_en [.ref v0] 2) [] h none r := by
  unfold Past_init at hb
  have hb := (iz hb).2
  show Sx 2 mX2_init 0 [.ref v0, .retAddr 0] [] h none r
  refine Sx.o (fun _ _ _ k => ex_aload_n dX2_init_0 rfl rfl k) ?_
  refine Sx.o (fun _ _ _ k => op_obj (by omega) dX2_init_1 kX2_3 (Nat.le_of_ble_eq_true rfl) k) ?_
  refine Sx.o (fun _ _ _ k => ex_aload_n dX2_init_4 rfl rfl k) ?_
  refine Sx.o (fun _ _ _ k => op_bipush (16 : Int32) dX2_init_5 (by decide) k) ?_
  obtain ⟨h12, e_h12, hb13⟩ := ob2 hb
  refine sx_newa (t := 4) (fun _ _ _ N c1 c2 c3 kk => ex_newq (Or.inl rfl) wX2_11 a_4 dX2_init_7 c1 c2 c3 kk) e_h12 ?_
  obtain ⟨h14, e_h14, hb15⟩ := ob2 hb13
  refine Sx.p (pV_q e_h14) (fun _ _ _ k => op_putF pX2_13 (fun r hr => by cases hr; rfl) rfl dX2_init_10 e_h14 (fun _ => rfl) (fun _ => rfl) k) ?_
  refine Sx.o (fun _ _ _ k => ex_aload_n dX2_init_13 rfl rfl k) ?_
  refine Sx.o (fun _ _ _ k => op_bipush (16 : Int32) dX2_init_14 (by decide) k) ?_
  obtain ⟨h17, e_h17, hb18⟩ := ob2 hb15
  refine sx_newa (t := 0) (fun _ _ _ N c1 c2 c3 kk => ex_newa0 a_int dX2_init_16 c1 c2 c3 kk) e_h17 ?_
  obtain ⟨h19, e_h19, hb20⟩ := ob2 hb18
  refine Sx.p (pV_q e_h19) (fun _ _ _ k => op_putF pX2_17 (fun r hr => by cases hr; rfl) rfl dX2_init_18 e_h19 (fun _ => rfl) (fun _ => rfl) k) ?_
  refine Sx.o (fun _ _ _ k => op_iconst (0 : Int32) dX2_init_21 (by decide) k) ?_
  refine Sx.o (L' := [.ref v0, .int (0 : Int32)]) (fun _ _ _ k => ex_istore_n dX2_init_22 (by decide) k) ?_
  exact Past_init_23_s hb20
theorem Past_init_o {v0 : Nat} {h : am_H} {r : am_H} (hb : Past_init v0 h = some r) : isO h 2 v0 = true := by
  unfold Past_init at hb
  exact (iz hb).1
set_option maxHeartbeats 1000000 in
set_option maxRecDepth 100000 in
noncomputable def Past_copy_18_b (g : (Nat × Int32 × Nat × Nat × am_H) → Option am_H) (v0 : Nat) (v1 : Nat) (v2 : Int32) (h : am_H) : Option am_H := if (16 : Int32) ≤ v2 then some h else (gR h 2 v0 2).bind fun x3 => (aN h 4 x3 v2).bind fun x5 => (x5).bind fun x7 => (gR h 2 v1 2).bind fun x9 => (aN h 4 x9 v2).bind fun x11 => (x11).bind fun x13 => (Row_copy x7 x13 h).bind fun h15 => (gR h15 2 v0 3).bind fun x18 => (gR h15 2 v1 3).bind fun x20 => (aI h15 0 x20 v2).bind fun x22 => (sI h15 x18 v2 x22).bind fun h24 => g (18, (v2 + (1 : Int32)), v0, v1, h24)
set_option maxHeartbeats 1000000 in
set_option maxRecDepth 100000 in
theorem Past_copy_18_m {g g2 : (Nat × Int32 × Nat × Nat × am_H) → Option am_H} (hg : ∀ s, Le (g s) (g2 s)) (v0 : Nat) (v1 : Nat) (v2 : Int32) (h : am_H) : Le (Past_copy_18_b g v0 v1 v2 h) (Past_copy_18_b g2 v0 v1 v2 h) := by unfold Past_copy_18_b; exact le_i (le_r _) (le_b (le_r _) fun x3 => le_b (le_r _) fun x5 => le_b (le_r _) fun x7 => le_b (le_r _) fun x9 => le_b (le_r _) fun x11 => le_b (le_r _) fun x13 => le_b (le_r _) fun h15 => le_b (le_r _) fun x18 => le_b (le_r _) fun x20 => le_b (le_r _) fun x22 => le_b (le_r _) fun h24 => hg _)
noncomputable def Past_copy_18_F (g : (Nat × Int32 × Nat × Nat × am_H) → Option am_H) (s : (Nat × Int32 × Nat × Nat × am_H)) : Option am_H := if s.1 = 18 then Past_copy_18_b g s.2.2.1 s.2.2.2.1 s.2.1 s.2.2.2.2 else none
theorem Past_copy_18_M : Mn Past_copy_18_F := fun g g2 hg s => by unfold Past_copy_18_F; exact le_i (Past_copy_18_m hg s.2.2.1 s.2.2.2.1 s.2.1 s.2.2.2.2) (le_r _)
def Past_copy_18_P (s : (Nat × Int32 × Nat × Nat × am_H)) (r : am_H) : Prop := (s.1 = 18 → Sx 2 mX2_copy 18 [.ref s.2.2.1, .ref s.2.2.2.1, .int s.2.1] [] s.2.2.2.2 none r) ∧ True
set_option maxHeartbeats 1000000 in
set_option maxRecDepth 100000 in
theorem Past_copy_18_t {g : (Nat × Int32 × Nat × Nat × am_H) → Option am_H} (hg : ∀ s r, g s = some r → Past_copy_18_P s r) {v0 : Nat} {v1 : Nat} {v2 : Int32} {h : am_H} {r : am_H} (hb : Past_copy_18_b g v0 v1 v2 h = some r) : Sx 2 mX2_copy 18 [.ref v0, .ref v1, .int v2] [] h none r := by
  unfold Past_copy_18_b at hb
  refine Sx.o (fun _ _ _ k => ex_iload_n dX2_copy_18 rfl k) ?_
  refine Sx.o (fun _ _ _ k => op_bipush (16 : Int32) dX2_copy_19 (by decide) k) ?_
  refine Sx.b (fun _ _ _ k1 k2 => ex_icmp_ge 57 dX2_copy_21 (by decide) k1 k2) (fun q => ?_) (fun q => ?_)
  · have hb1 := ip q hb
    obtain rfl := Option.some.inj hb1
    exact Sx.r (fun _ _ _ k => ex_vret rfl dX2_copy_57 k)
  · have hb2 := iq q hb
    refine Sx.o (fun _ _ _ k => ex_aload_n dX2_copy_24 rfl rfl k) ?_
    obtain ⟨x3, e_x3, hb4⟩ := ob2 hb2
    refine Sx.o (fun _ _ _ k => op_getR fX2_13 dX2_copy_25 e_x3 k) ?_
    refine Sx.o (fun _ _ _ k => ex_iload_n dX2_copy_28 rfl k) ?_
    obtain ⟨x5, e_x5, hb6⟩ := ob2 hb4
    refine Sx.o (fun _ _ _ k => op_aald (Or.inl rfl) dX2_copy_29 e_x5 k) ?_
    obtain ⟨x7, e_x7, hb8⟩ := ob2 hb6
    subst e_x7
    refine Sx.o (fun _ _ _ k => ex_aload_n dX2_copy_30 rfl rfl k) ?_
    obtain ⟨x9, e_x9, hb10⟩ := ob2 hb8
    refine Sx.o (fun _ _ _ k => op_getR fX2_13 dX2_copy_31 e_x9 k) ?_
    refine Sx.o (fun _ _ _ k => ex_iload_n dX2_copy_34 rfl k) ?_
    obtain ⟨x11, e_x11, hb12⟩ := ob2 hb10
    refine Sx.o (fun _ _ _ k => op_aald (Or.inl rfl) dX2_copy_35 e_x11 k) ?_
    obtain ⟨x13, e_x13, hb14⟩ := ob2 hb12
    subst e_x13
    obtain ⟨h15, e_h15, hb16⟩ := ob2 hb14
    refine sx_callV (dc := 1) (as := [.ref x13]) (stq := []) (by omega) dX2_copy_36 MX4_copy kX2_29 iX4_copy sX4_copy rfl rfl (Row_copy_o e_h15) rfl rfl (Nat.le_of_ble_eq_true rfl) (Nat.le_of_ble_eq_true rfl) (Row_copy_s e_h15) rfl ?_
    refine Sx.o (fun _ _ _ k => ex_aload_n dX2_copy_39 rfl rfl k) ?_
    obtain ⟨x18, e_x18, hb19⟩ := ob2 hb16
    refine Sx.o (fun _ _ _ k => op_getR fX2_17 dX2_copy_40 e_x18 k) ?_
    refine Sx.o (fun _ _ _ k => ex_iload_n dX2_copy_43 rfl k) ?_
    refine Sx.o (fun _ _ _ k => ex_aload_n dX2_copy_44 rfl rfl k) ?_
    obtain ⟨x20, e_x20, hb21⟩ := ob2 hb19
    refine Sx.o (fun _ _ _ k => op_getR fX2_17 dX2_copy_45 e_x20 k) ?_
    refine Sx.o (fun _ _ _ k => ex_iload_n dX2_copy_48 rfl k) ?_
    obtain ⟨x22, e_x22, hb23⟩ := ob2 hb21
    refine Sx.o (fun _ _ _ k => op_iald dX2_copy_49 e_x22 k) ?_
    obtain ⟨h24, e_h24, hb25⟩ := ob2 hb23
    refine Sx.p (sI_q e_h24) (fun _ _ _ k => op_iast dX2_copy_50 e_h24 k) ?_
    refine Sx.o (L' := [.ref v0, .ref v1, .int (v2 + (1 : Int32))]) (fun _ _ _ k => op_iinc (1 : Int32) dX2_copy_51 (by decide) rfl (by decide) k) ?_
    refine Sx.o (fun _ _ _ k => ex_goto 18 dX2_copy_54 (by decide) k) ?_
    exact (hg _ _ hb25).1 rfl
theorem Past_copy_18_T : ∀ s r, fx Past_copy_18_F Past_copy_18_M s = some r → Past_copy_18_P s r := fx_ind Past_copy_18_M Past_copy_18_P (fun g hg s r hb => by
  unfold Past_copy_18_F at hb
  exact ⟨fun q => Past_copy_18_t hg (ip q hb), trivial⟩)
set_option maxHeartbeats 1000000 in
set_option maxRecDepth 100000 in
theorem Past_copy_18_r {g : (Nat × Int32 × Nat × Nat × am_H) → Option am_H} (hg : ∀ s r, g s = some r → Eqs s.2.2.2.2 r) {v0 : Nat} {v1 : Nat} {v2 : Int32} {h : am_H} {r : am_H} (hb : Past_copy_18_b g v0 v1 v2 h = some r) : Eqs h r := by
  unfold Past_copy_18_b at hb
  have w0 := Eqs.rf h
  by_cases q : (16 : Int32) ≤ v2
  · have hb1 := ip q hb
    obtain rfl := Option.some.inj hb1
    exact w0
  · have hb2 := iq q hb
    obtain ⟨x3, e_x3, hb4⟩ := ob2 hb2
    obtain ⟨x5, e_x5, hb6⟩ := ob2 hb4
    obtain ⟨x7, e_x7, hb8⟩ := ob2 hb6
    subst e_x7
    obtain ⟨x9, e_x9, hb10⟩ := ob2 hb8
    obtain ⟨x11, e_x11, hb12⟩ := ob2 hb10
    obtain ⟨x13, e_x13, hb14⟩ := ob2 hb12
    subst e_x13
    obtain ⟨h15, e_h15, hb16⟩ := ob2 hb14
    have w17 := w0.tr (Row_copy_q e_h15)
    obtain ⟨x18, e_x18, hb19⟩ := ob2 hb16
    obtain ⟨x20, e_x20, hb21⟩ := ob2 hb19
    obtain ⟨x22, e_x22, hb23⟩ := ob2 hb21
    obtain ⟨h24, e_h24, hb25⟩ := ob2 hb23
    have w26 := w17.tr (sI_q e_h24)
    exact w26.tr (hg _ _ hb25)
theorem Past_copy_18_Q : ∀ s r, fx Past_copy_18_F Past_copy_18_M s = some r → Eqs s.2.2.2.2 r := fx_ind Past_copy_18_M (fun s r => Eqs s.2.2.2.2 r) (fun g hg s r hb => by
  unfold Past_copy_18_F at hb
  by_cases q0 : s.1 = 18
  · exact Past_copy_18_r hg (ip q0 hb)
  · have hb0 := iq q0 hb
    exact nomatch hb0)
noncomputable def Past_copy_18 (v0 : Nat) (v1 : Nat) (v2 : Int32) (h : am_H) : Option am_H := fx Past_copy_18_F Past_copy_18_M (18, v2, v0, v1, h)
set_option maxHeartbeats 1000000 in
set_option maxRecDepth 100000 in
theorem Past_copy_18_e (v0 : Nat) (v1 : Nat) (v2 : Int32) (h : am_H) : Past_copy_18 v0 v1 v2 h = (if (16 : Int32) ≤ v2 then some h else (gR h 2 v0 2).bind fun x3 => (aN h 4 x3 v2).bind fun x5 => (x5).bind fun x7 => (gR h 2 v1 2).bind fun x9 => (aN h 4 x9 v2).bind fun x11 => (x11).bind fun x13 => (Row_copy x7 x13 h).bind fun h15 => (gR h15 2 v0 3).bind fun x18 => (gR h15 2 v1 3).bind fun x20 => (aI h15 0 x20 v2).bind fun x22 => (sI h15 x18 v2 x22).bind fun h24 => Past_copy_18 v0 v1 (v2 + (1 : Int32)) h24) := (fx_eq Past_copy_18_M (18, v2, v0, v1, h)).trans (if_pos rfl)
theorem Past_copy_18_q {v0 : Nat} {v1 : Nat} {v2 : Int32} {h : am_H} {r : am_H} (hb : Past_copy_18 v0 v1 v2 h = some r) : Eqs h r := Past_copy_18_Q _ _ hb
theorem Past_copy_18_s {v0 : Nat} {v1 : Nat} {v2 : Int32} {h : am_H} {r : am_H} (hb : Past_copy_18 v0 v1 v2 h = some r) : Sx 2 mX2_copy 18 [.ref v0, .ref v1, .int v2] [] h none r := (Past_copy_18_T _ _ hb).1 rfl
set_option maxHeartbeats 1000000 in
set_option maxRecDepth 100000 in
noncomputable def Past_copy (v0 : Nat) (v1 : Nat) (h : am_H) : Option am_H := if isO h 2 v0 = true then (gI h 2 v1 0).bind fun x27 => (pV h 2 v0 0 (.int x27)).bind fun h29 => (gI h29 2 v1 1).bind fun x32 => (pV h29 2 v0 1 (.int x32)).bind fun h34 => Past_copy_18 v0 v1 (0 : Int32) h34 else none
set_option maxHeartbeats 1000000 in
set_option maxRecDepth 100000 in
theorem Past_copy_s {v0 : Nat} {v1 : Nat} {h : am_H} {r : am_H} (hb : Past_copy v0 v1 h = some r) : Sx 2 mX2_copy 0 (am_en [.ref v0, .ref v1] 3) [] h none r := by
  unfold Past_copy at hb
  have hb := (iz hb).2
  show Sx 2 mX2_copy 0 [.ref v0, .ref v1, .retAddr 0] [] h none r
  refine Sx.o (fun _ _ _ k => ex_aload_n dX2_copy_0 rfl rfl k) ?_
  refine Sx.o (fun _ _ _ k => ex_aload_n dX2_copy_1 rfl rfl k) ?_
  obtain ⟨x27, e_x27, hb28⟩ := ob2 hb
  refine Sx.o (fun _ _ _ k => op_getI fX2_22 dX2_copy_2 e_x27 k) ?_
  obtain ⟨h29, e_h29, hb30⟩ := ob2 hb28
  refine Sx.p (pV_q e_h29) (fun _ _ _ k => op_put pX2_22 dX2_copy_5 e_h29 (fun _ => rfl) (fun _ => rfl) k) ?_
  refine Sx.o (fun _ _ _ k => ex_aload_n dX2_copy_8 rfl rfl k) ?_
  refine Sx.o (fun _ _ _ k => ex_aload_n dX2_copy_9 rfl rfl k) ?_
  obtain ⟨x32, e_x32, hb33⟩ := ob2 hb30
  refine Sx.o (fun _ _ _ k => op_getI fX2_26 dX2_copy_10 e_x32 k) ?_
  obtain ⟨h34, e_h34, hb35⟩ := ob2 hb33
  refine Sx.p (pV_q e_h34) (fun _ _ _ k => op_put pX2_26 dX2_copy_13 e_h34 (fun _ => rfl) (fun _ => rfl) k) ?_
  refine Sx.o (fun _ _ _ k => op_iconst (0 : Int32) dX2_copy_16 (by decide) k) ?_
  refine Sx.o (L' := [.ref v0, .ref v1, .int (0 : Int32)]) (fun _ _ _ k => ex_istore_n dX2_copy_17 (by decide) k) ?_
  exact Past_copy_18_s hb35
set_option maxHeartbeats 1000000 in
set_option maxRecDepth 100000 in
theorem Past_copy_q {v0 : Nat} {v1 : Nat} {h : am_H} {r : am_H} (hb : Past_copy v0 v1 h = some r) : Eqs h r := by
  unfold Past_copy at hb
  have hb := (iz hb).2
  have w0 := Eqs.rf h
  obtain ⟨x27, e_x27, hb28⟩ := ob2 hb
  obtain ⟨h29, e_h29, hb30⟩ := ob2 hb28
  have w31 := w0.tr (pV_q e_h29)
  obtain ⟨x32, e_x32, hb33⟩ := ob2 hb30
  obtain ⟨h34, e_h34, hb35⟩ := ob2 hb33
  have w36 := w31.tr (pV_q e_h34)
  exact w36.tr (Past_copy_18_q hb35)
theorem Past_copy_o {v0 : Nat} {v1 : Nat} {h : am_H} {r : am_H} (hb : Past_copy v0 v1 h = some r) : isO h 2 v0 = true := by
  unfold Past_copy at hb
  exact (iz hb).1
set_option maxHeartbeats 1000000 in
set_option maxRecDepth 100000 in
noncomputable def Past_takeBack (v0 : Nat) (v1 : Nat) (h : am_H) : Option (Int32 × am_H) := if isO h 2 v0 = true then (gI h 2 v0 1).bind fun x1 => (rmI ((x1 + (16 : Int32)) - (1 : Int32)) (16 : Int32)).bind fun x3 => (pV h 2 v0 1 (.int x3)).bind fun h5 => (gI h5 2 v0 0).bind fun x8 => (pV h5 2 v0 0 (.int (if x8 - (1 : Int32) < (0 : Int32) then (0 : Int32) else x8 - (1 : Int32)))).bind fun h10 => (gI h10 2 v0 1).bind fun x13 => if (0 : Int32) ≤ x13 then (gR h10 2 v0 2).bind fun x17 => (gI h10 2 v0 1).bind fun x19 => (aN h10 4 x17 x19).bind fun x21 => (x21).bind fun x23 => (gI h10 4 x23 4).bind fun x25 => (Table_at v1 x25 h10).bind fun x27 => if x27 = none then (gR h10 2 v0 3).bind fun x31 => (gI h10 2 v0 1).bind fun x33 => (aI h10 0 x31 x33).bind fun x35 => some (x35, h10) else (x27).bind fun x37 => (gR h10 2 v0 2).bind fun x39 => (gI h10 2 v0 1).bind fun x41 => (aN h10 4 x39 x41).bind fun x43 => (x43).bind fun x45 => (Row_copy x37 x45 h10).bind fun h47 => (gR h47 2 v0 3).bind fun x50 => (gI h47 2 v0 1).bind fun x52 => (aI h47 0 x50 x52).bind fun x54 => some (x54, h47) else some ((-1 : Int32), h10) else none
set_option maxHeartbeats 1000000 in
set_option maxRecDepth 100000 in
theorem Past_takeBack_s {v0 : Nat} {v1 : Nat} {h : am_H} {r : (Int32 × am_H)} (hb : Past_takeBack v0 v1 h = some r) : Sx 2 mX2_takeBack 0 (am_en [.ref v0, .ref v1] 3) [] h (some (.int r.1)) r.2 := by
  unfold Past_takeBack at hb
  have hb := (iz hb).2
  show Sx 2 mX2_takeBack 0 [.ref v0, .ref v1, .retAddr 0] [] h (some (.int r.1)) r.2
  refine Sx.o (fun _ _ _ k => ex_aload_n dX2_takeBack_0 rfl rfl k) ?_
  refine Sx.o (fun _ _ _ k => ex_aload_n dX2_takeBack_1 rfl rfl k) ?_
  obtain ⟨x1, e_x1, hb2⟩ := ob2 hb
  refine Sx.o (fun _ _ _ k => op_getI fX2_26 dX2_takeBack_2 e_x1 k) ?_
  refine Sx.o (fun _ _ _ k => op_bipush (16 : Int32) dX2_takeBack_5 (by decide) k) ?_
  refine Sx.o (fun _ _ _ k => ex_iadd dX2_takeBack_7 k) ?_
  refine Sx.o (fun _ _ _ k => op_iconst (1 : Int32) dX2_takeBack_8 (by decide) k) ?_
  refine Sx.o (fun _ _ _ k => ex_isub dX2_takeBack_9 k) ?_
  refine Sx.o (fun _ _ _ k => op_bipush (16 : Int32) dX2_takeBack_10 (by decide) k) ?_
  obtain ⟨x3, e_x3, hb4⟩ := ob2 hb2
  refine Sx.o (fun _ _ _ k => op_irem dX2_takeBack_12 e_x3 k) ?_
  obtain ⟨h5, e_h5, hb6⟩ := ob2 hb4
  refine Sx.p (pV_q e_h5) (fun _ _ _ k => op_put pX2_26 dX2_takeBack_13 e_h5 (fun _ => rfl) (fun _ => rfl) k) ?_
  refine Sx.o (fun _ _ _ k => ex_aload_n dX2_takeBack_16 rfl rfl k) ?_
  refine Sx.o (fun _ _ _ k => ex_aload_n dX2_takeBack_17 rfl rfl k) ?_
  obtain ⟨x8, e_x8, hb9⟩ := ob2 hb6
  refine Sx.o (fun _ _ _ k => op_getI fX2_22 dX2_takeBack_18 e_x8 k) ?_
  refine Sx.o (fun _ _ _ k => op_iconst (1 : Int32) dX2_takeBack_21 (by decide) k) ?_
  refine Sx.o (fun _ _ _ k => ex_isub dX2_takeBack_22 k) ?_
  refine Sx.o (fun _ _ _ k => op_iconst (0 : Int32) dX2_takeBack_23 (by decide) k) ?_
  refine Sx.o (fun _ _ _ k => op_mmax (by omega) dX2_takeBack_24 kX2_39 (Nat.le_of_ble_eq_true rfl) k) ?_
  obtain ⟨h10, e_h10, hb11⟩ := ob2 hb9
  refine Sx.p (pV_q e_h10) (fun _ _ _ k => op_put pX2_22 dX2_takeBack_27 e_h10 (fun _ => rfl) (fun _ => rfl) k) ?_
  refine Sx.o (fun _ _ _ k => ex_aload_n dX2_takeBack_30 rfl rfl k) ?_
  obtain ⟨x13, e_x13, hb14⟩ := ob2 hb11
  refine Sx.o (fun _ _ _ k => op_getI fX2_26 dX2_takeBack_31 e_x13 k) ?_
  refine Sx.b (fun _ _ _ k1 k2 => ex_if_ge 39 dX2_takeBack_34 (by decide) k1 k2) (fun q => ?_) (fun q => ?_)
  · have hb15 := ip q hb14
    refine Sx.o (fun _ _ _ k => ex_aload_n dX2_takeBack_39 rfl rfl k) ?_
    refine Sx.o (fun _ _ _ k => ex_aload_n dX2_takeBack_40 rfl rfl k) ?_
    obtain ⟨x17, e_x17, hb18⟩ := ob2 hb15
    refine Sx.o (fun _ _ _ k => op_getR fX2_13 dX2_takeBack_41 e_x17 k) ?_
    refine Sx.o (fun _ _ _ k => ex_aload_n dX2_takeBack_44 rfl rfl k) ?_
    obtain ⟨x19, e_x19, hb20⟩ := ob2 hb18
    refine Sx.o (fun _ _ _ k => op_getI fX2_26 dX2_takeBack_45 e_x19 k) ?_
    obtain ⟨x21, e_x21, hb22⟩ := ob2 hb20
    refine Sx.o (fun _ _ _ k => op_aald (Or.inl rfl) dX2_takeBack_48 e_x21 k) ?_
    obtain ⟨x23, e_x23, hb24⟩ := ob2 hb22
    subst e_x23
    obtain ⟨x25, e_x25, hb26⟩ := ob2 hb24
    refine Sx.o (fun _ _ _ k => op_getI fX2_42 dX2_takeBack_49 e_x25 k) ?_
    obtain ⟨x27, e_x27, hb28⟩ := ob2 hb26
    refine sx_callV (dc := 0) (as := [.int x25]) (stq := [va_rf x27]) (by omega) dX2_takeBack_52 MX7_at kX2_45 iX7_at sX7_at rfl rfl (Table_at_o e_x27) rfl rfl (Nat.le_of_ble_eq_true rfl) (Nat.le_of_ble_eq_true rfl) (Table_at_s e_x27) rfl ?_
    refine Sx.o (L' := [.ref v0, .ref v1, va_rf x27]) (fun _ _ _ k => ex_astore_n dX2_takeBack_55 (am_rfv _) (by decide) k) ?_
    refine Sx.o (fun _ _ _ k => ex_aload_n dX2_takeBack_56 rfl (am_rfv _) k) ?_
    refine Sx.b (fun _ _ _ k1 k2 => op_ifnull (r := x27) 73 dX2_takeBack_57 (by decide) k1 k2) (fun q => ?_) (fun q => ?_)
    · have hb29 := ip q hb28
      refine Sx.o (fun _ _ _ k => ex_aload_n dX2_takeBack_73 rfl rfl k) ?_
      obtain ⟨x31, e_x31, hb32⟩ := ob2 hb29
      refine Sx.o (fun _ _ _ k => op_getR fX2_17 dX2_takeBack_74 e_x31 k) ?_
      refine Sx.o (fun _ _ _ k => ex_aload_n dX2_takeBack_77 rfl rfl k) ?_
      obtain ⟨x33, e_x33, hb34⟩ := ob2 hb32
      refine Sx.o (fun _ _ _ k => op_getI fX2_26 dX2_takeBack_78 e_x33 k) ?_
      obtain ⟨x35, e_x35, hb36⟩ := ob2 hb34
      refine Sx.o (fun _ _ _ k => op_iald dX2_takeBack_81 e_x35 k) ?_
      obtain rfl := Option.some.inj hb36
      exact Sx.r (fun _ _ _ k => ex_iret rfl dX2_takeBack_82 k)
    · have hb30 := iq q hb28
      obtain ⟨x37, e_x37, hb38⟩ := ob2 hb30
      subst e_x37
      refine Sx.o (fun _ _ _ k => ex_aload_n dX2_takeBack_60 rfl rfl k) ?_
      refine Sx.o (fun _ _ _ k => ex_aload_n dX2_takeBack_61 rfl rfl k) ?_
      obtain ⟨x39, e_x39, hb40⟩ := ob2 hb38
      refine Sx.o (fun _ _ _ k => op_getR fX2_13 dX2_takeBack_62 e_x39 k) ?_
      refine Sx.o (fun _ _ _ k => ex_aload_n dX2_takeBack_65 rfl rfl k) ?_
      obtain ⟨x41, e_x41, hb42⟩ := ob2 hb40
      refine Sx.o (fun _ _ _ k => op_getI fX2_26 dX2_takeBack_66 e_x41 k) ?_
      obtain ⟨x43, e_x43, hb44⟩ := ob2 hb42
      refine Sx.o (fun _ _ _ k => op_aald (Or.inl rfl) dX2_takeBack_69 e_x43 k) ?_
      obtain ⟨x45, e_x45, hb46⟩ := ob2 hb44
      subst e_x45
      obtain ⟨h47, e_h47, hb48⟩ := ob2 hb46
      refine sx_callV (dc := 1) (as := [.ref x45]) (stq := []) (by omega) dX2_takeBack_70 MX4_copy kX2_29 iX4_copy sX4_copy rfl rfl (Row_copy_o e_h47) rfl rfl (Nat.le_of_ble_eq_true rfl) (Nat.le_of_ble_eq_true rfl) (Row_copy_s e_h47) rfl ?_
      refine Sx.o (fun _ _ _ k => ex_aload_n dX2_takeBack_73 rfl rfl k) ?_
      obtain ⟨x50, e_x50, hb51⟩ := ob2 hb48
      refine Sx.o (fun _ _ _ k => op_getR fX2_17 dX2_takeBack_74 e_x50 k) ?_
      refine Sx.o (fun _ _ _ k => ex_aload_n dX2_takeBack_77 rfl rfl k) ?_
      obtain ⟨x52, e_x52, hb53⟩ := ob2 hb51
      refine Sx.o (fun _ _ _ k => op_getI fX2_26 dX2_takeBack_78 e_x52 k) ?_
      obtain ⟨x54, e_x54, hb55⟩ := ob2 hb53
      refine Sx.o (fun _ _ _ k => op_iald dX2_takeBack_81 e_x54 k) ?_
      obtain rfl := Option.some.inj hb55
      exact Sx.r (fun _ _ _ k => ex_iret rfl dX2_takeBack_82 k)
  · have hb16 := iq q hb14
    refine Sx.o (fun _ _ _ k => op_iconst (-1 : Int32) dX2_takeBack_37 (by decide) k) ?_
    obtain rfl := Option.some.inj hb16
    exact Sx.r (fun _ _ _ k => ex_iret rfl dX2_takeBack_38 k)
set_option maxHeartbeats 1000000 in
set_option maxRecDepth 100000 in
theorem Past_takeBack_q {v0 : Nat} {v1 : Nat} {h : am_H} {r : (Int32 × am_H)} (hb : Past_takeBack v0 v1 h = some r) : Eqs h r.2 := by
  unfold Past_takeBack at hb
  have hb := (iz hb).2
  have w0 := Eqs.rf h
  obtain ⟨x1, e_x1, hb2⟩ := ob2 hb
  obtain ⟨x3, e_x3, hb4⟩ := ob2 hb2
  obtain ⟨h5, e_h5, hb6⟩ := ob2 hb4
  have w7 := w0.tr (pV_q e_h5)
  obtain ⟨x8, e_x8, hb9⟩ := ob2 hb6
  obtain ⟨h10, e_h10, hb11⟩ := ob2 hb9
  have w12 := w7.tr (pV_q e_h10)
  obtain ⟨x13, e_x13, hb14⟩ := ob2 hb11
  by_cases q : (0 : Int32) ≤ x13
  · have hb15 := ip q hb14
    obtain ⟨x17, e_x17, hb18⟩ := ob2 hb15
    obtain ⟨x19, e_x19, hb20⟩ := ob2 hb18
    obtain ⟨x21, e_x21, hb22⟩ := ob2 hb20
    obtain ⟨x23, e_x23, hb24⟩ := ob2 hb22
    subst e_x23
    obtain ⟨x25, e_x25, hb26⟩ := ob2 hb24
    obtain ⟨x27, e_x27, hb28⟩ := ob2 hb26
    by_cases q : x27 = none
    · have hb29 := ip q hb28
      obtain ⟨x31, e_x31, hb32⟩ := ob2 hb29
      obtain ⟨x33, e_x33, hb34⟩ := ob2 hb32
      obtain ⟨x35, e_x35, hb36⟩ := ob2 hb34
      obtain rfl := Option.some.inj hb36
      exact w12
    · have hb30 := iq q hb28
      obtain ⟨x37, e_x37, hb38⟩ := ob2 hb30
      subst e_x37
      obtain ⟨x39, e_x39, hb40⟩ := ob2 hb38
      obtain ⟨x41, e_x41, hb42⟩ := ob2 hb40
      obtain ⟨x43, e_x43, hb44⟩ := ob2 hb42
      obtain ⟨x45, e_x45, hb46⟩ := ob2 hb44
      subst e_x45
      obtain ⟨h47, e_h47, hb48⟩ := ob2 hb46
      have w49 := w12.tr (Row_copy_q e_h47)
      obtain ⟨x50, e_x50, hb51⟩ := ob2 hb48
      obtain ⟨x52, e_x52, hb53⟩ := ob2 hb51
      obtain ⟨x54, e_x54, hb55⟩ := ob2 hb53
      obtain rfl := Option.some.inj hb55
      exact w49
  · have hb16 := iq q hb14
    obtain rfl := Option.some.inj hb16
    exact w12
theorem Past_takeBack_o {v0 : Nat} {v1 : Nat} {h : am_H} {r : (Int32 × am_H)} (hb : Past_takeBack v0 v1 h = some r) : isO h 2 v0 = true := by
  unfold Past_takeBack at hb
  exact (iz hb).1
