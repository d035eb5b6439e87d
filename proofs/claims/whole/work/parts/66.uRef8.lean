/-! the reference: its methods as functions (by wip/whole/dec.py) -/
set_option maxHeartbeats 1000000 in
set_option maxRecDepth 100000 in
noncomputable def Ref_terms_29 (v0 : Nat) (h : am_H) : Option (Int32 × am_H) := (Ref_refuses v0 (-1 : Int32) h).bind fun r1 => some (r1.1, r1.2)
set_option maxHeartbeats 1000000 in
set_option maxRecDepth 100000 in
theorem Ref_terms_29_s {v0 : Nat} {h : am_H} {r : (Int32 × am_H)} (hb : Ref_terms_29 v0 h = some r) : Sx 2 mX12_terms 29 [.ref v0, .retAddr 0, .retAddr 0, .retAddr 0] [] h (some (.int r.1)) r.2 := by
  unfold Ref_terms_29 at hb
  refine Sx.o (fun _ _ _ k => ex_aload_n dX12_terms_29 rfl rfl k) ?_
  refine Sx.o (fun _ _ _ k => op_iconst (-1 : Int32) dX12_terms_30 (by decide) k) ?_
  obtain ⟨r1, e_r1, hb2⟩ := ob2 hb
  refine sx_callV (dc := 0) (as := [.int (-1 : Int32)]) (stq := [.int r1.1]) (by omega) dX12_terms_31 MX12_refuses kX12_106 iX12_refuses sX12_refuses rfl rfl (Ref_refuses_o e_r1) rfl rfl (Nat.le_of_ble_eq_true rfl) (Nat.le_of_ble_eq_true rfl) (Ref_refuses_s e_r1) rfl ?_
  obtain rfl := Option.some.inj hb2
  exact Sx.r (fun _ _ _ k => ex_iret rfl dX12_terms_34 k)
set_option maxHeartbeats 1000000 in
set_option maxRecDepth 100000 in
theorem Ref_terms_29_q {v0 : Nat} {h : am_H} {r : (Int32 × am_H)} (hb : Ref_terms_29 v0 h = some r) : Eqs h r.2 := by
  unfold Ref_terms_29 at hb
  have w0 := Eqs.rf h
  obtain ⟨r1, e_r1, hb2⟩ := ob2 hb
  have w3 := w0.tr (Ref_refuses_q e_r1)
  obtain rfl := Option.some.inj hb2
  exact w3
set_option maxHeartbeats 1000000 in
set_option maxRecDepth 100000 in
noncomputable def Ref_terms_23 (v0 : Nat) (v1 : Int32) (v2 : Int32) (s0 : Int32) (s1 : Int32) (s2 : Int32) (h : am_H) : Option (Int32 × am_H) := (Ref_lies s2 s1 s0 h).bind fun x4 => if x4 = (0 : Int32) then Ref_terms_29 v0 h else (gR h 12 v0 2).bind fun x8 => (aI h 0 x8 ((113 : Int32) + v1)).bind fun x10 => (gR h 12 v0 2).bind fun x12 => (sI h x12 ((113 : Int32) + v1) v2).bind fun h14 => (Ref_settled v0 x10 h14).bind fun r17 => some (r17.1, r17.2)
set_option maxHeartbeats 1000000 in
set_option maxRecDepth 100000 in
theorem Ref_terms_23_s {v0 : Nat} {v1 : Int32} {v2 : Int32} {s0 : Int32} {s1 : Int32} {s2 : Int32} {h : am_H} {r : (Int32 × am_H)} (hb : Ref_terms_23 v0 v1 v2 s0 s1 s2 h = some r) : Sx 2 mX12_terms 23 [.ref v0, .int v1, .int v2, .retAddr 0] [.int s0, .int s1, .int s2] h (some (.int r.1)) r.2 := by
  unfold Ref_terms_23 at hb
  obtain ⟨x4, e_x4, hb5⟩ := ob2 hb
  refine sx_callS (dc := 0) (as := [.int s2, .int s1, .int s0]) (stq := [.int x4]) (by omega) dX12_terms_23 MX12_lies kX12_102 tX12_lies rfl rfl (Nat.le_of_ble_eq_true rfl) (Nat.le_of_ble_eq_true rfl) (Ref_lies_s e_x4) rfl ?_
  refine Sx.bn (fun _ _ _ k1 k2 => ex_if_ne 35 dX12_terms_26 (by decide) k1 k2) (fun q => ?_) (fun q => ?_)
  · have hb6 := iq q hb5
    refine Sx.o (fun _ _ _ k => ex_aload_n dX12_terms_35 rfl rfl k) ?_
    obtain ⟨x8, e_x8, hb9⟩ := ob2 hb6
    refine Sx.o (fun _ _ _ k => op_getR fX12_24 dX12_terms_36 e_x8 k) ?_
    refine Sx.o (fun _ _ _ k => op_bipush (113 : Int32) dX12_terms_39 (by decide) k) ?_
    refine Sx.o (fun _ _ _ k => ex_iload_n dX12_terms_41 rfl k) ?_
    refine Sx.o (fun _ _ _ k => ex_iadd dX12_terms_42 k) ?_
    obtain ⟨x10, e_x10, hb11⟩ := ob2 hb9
    refine Sx.o (fun _ _ _ k => op_iald dX12_terms_43 e_x10 k) ?_
    refine Sx.o (L' := [.ref v0, .int v1, .int v2, .int x10]) (fun _ _ _ k => ex_istore_n dX12_terms_44 (by decide) k) ?_
    refine Sx.o (fun _ _ _ k => ex_aload_n dX12_terms_45 rfl rfl k) ?_
    obtain ⟨x12, e_x12, hb13⟩ := ob2 hb11
    refine Sx.o (fun _ _ _ k => op_getR fX12_24 dX12_terms_46 e_x12 k) ?_
    refine Sx.o (fun _ _ _ k => op_bipush (113 : Int32) dX12_terms_49 (by decide) k) ?_
    refine Sx.o (fun _ _ _ k => ex_iload_n dX12_terms_51 rfl k) ?_
    refine Sx.o (fun _ _ _ k => ex_iadd dX12_terms_52 k) ?_
    refine Sx.o (fun _ _ _ k => ex_iload_n dX12_terms_53 rfl k) ?_
    obtain ⟨h14, e_h14, hb15⟩ := ob2 hb13
    refine Sx.p (sI_q e_h14) (fun _ _ _ k => op_iast dX12_terms_54 e_h14 k) ?_
    refine Sx.o (fun _ _ _ k => ex_aload_n dX12_terms_55 rfl rfl k) ?_
    refine Sx.o (fun _ _ _ k => ex_iload_n dX12_terms_56 rfl k) ?_
    obtain ⟨r17, e_r17, hb18⟩ := ob2 hb15
    refine sx_callV (dc := 1) (as := [.int x10]) (stq := [.int r17.1]) (by omega) dX12_terms_57 MX12_settled kX12_109 iX12_settled sX12_settled rfl rfl (Ref_settled_o e_r17) rfl rfl (Nat.le_of_ble_eq_true rfl) (Nat.le_of_ble_eq_true rfl) (Ref_settled_s e_r17) rfl ?_
    obtain rfl := Option.some.inj hb18
    exact Sx.r (fun _ _ _ k => ex_iret rfl dX12_terms_60 k)
  · have hb7 := ip q hb5
    refine Sx.fg [true, false, false, true] ?_
    exact Ref_terms_29_s hb7
set_option maxHeartbeats 1000000 in
set_option maxRecDepth 100000 in
theorem Ref_terms_23_q {v0 : Nat} {v1 : Int32} {v2 : Int32} {s0 : Int32} {s1 : Int32} {s2 : Int32} {h : am_H} {r : (Int32 × am_H)} (hb : Ref_terms_23 v0 v1 v2 s0 s1 s2 h = some r) : Eqs h r.2 := by
  unfold Ref_terms_23 at hb
  have w0 := Eqs.rf h
  obtain ⟨x4, e_x4, hb5⟩ := ob2 hb
  by_cases q : x4 = (0 : Int32)
  · have hb7 := ip q hb5
    exact w0.tr (Ref_terms_29_q hb7)
  · have hb6 := iq q hb5
    obtain ⟨x8, e_x8, hb9⟩ := ob2 hb6
    obtain ⟨x10, e_x10, hb11⟩ := ob2 hb9
    obtain ⟨x12, e_x12, hb13⟩ := ob2 hb11
    obtain ⟨h14, e_h14, hb15⟩ := ob2 hb13
    have w16 := w0.tr (sI_q e_h14)
    obtain ⟨r17, e_r17, hb18⟩ := ob2 hb15
    have w19 := w16.tr (Ref_settled_q e_r17)
    obtain rfl := Option.some.inj hb18
    exact w19
set_option maxHeartbeats 1000000 in
set_option maxRecDepth 100000 in
noncomputable def Ref_terms (v0 : Nat) (v1 : Int32) (v2 : Int32) (h : am_H) : Option (Int32 × am_H) := if isO h 12 v0 = true then (Ref_lies v1 (0 : Int32) (1 : Int32) h).bind fun x20 => if x20 = (0 : Int32) then Ref_terms_29 v0 h else if v1 = (0 : Int32) then Ref_terms_23 v0 v1 v2 (9 : Int32) v1 v2 h else Ref_terms_23 v0 v1 v2 (300 : Int32) v1 v2 h else none
set_option maxHeartbeats 1000000 in
set_option maxRecDepth 100000 in
theorem Ref_terms_s {v0 : Nat} {v1 : Int32} {v2 : Int32} {h : am_H} {r : (Int32 × am_H)} (hb : Ref_terms v0 v1 v2 h = some r) : Sx 2 mX12_terms 0 (am_en [.ref v0, .int v1, .int v2] 4) [] h (some (.int r.1)) r.2 := by
  unfold Ref_terms at hb
  have hb := (iz hb).2
  show Sx 2 mX12_terms 0 [.ref v0, .int v1, .int v2, .retAddr 0] [] h (some (.int r.1)) r.2
  refine Sx.o (fun _ _ _ k => ex_iload_n dX12_terms_0 rfl k) ?_
  refine Sx.o (fun _ _ _ k => op_iconst (0 : Int32) dX12_terms_1 (by decide) k) ?_
  refine Sx.o (fun _ _ _ k => op_iconst (1 : Int32) dX12_terms_2 (by decide) k) ?_
  obtain ⟨x20, e_x20, hb21⟩ := ob2 hb
  refine sx_callS (dc := 0) (as := [.int v1, .int (0 : Int32), .int (1 : Int32)]) (stq := [.int x20]) (by omega) dX12_terms_3 MX12_lies kX12_102 tX12_lies rfl rfl (Nat.le_of_ble_eq_true rfl) (Nat.le_of_ble_eq_true rfl) (Ref_lies_s e_x20) rfl ?_
  refine Sx.b (fun _ _ _ k1 k2 => ex_if_eq 29 dX12_terms_6 (by decide) k1 k2) (fun q => ?_) (fun q => ?_)
  · have hb22 := ip q hb21
    refine Sx.fg [true, false, false, true] ?_
    exact Ref_terms_29_s hb22
  · have hb23 := iq q hb21
    refine Sx.o (fun _ _ _ k => ex_iload_n dX12_terms_9 rfl k) ?_
    refine Sx.o (fun _ _ _ k => ex_iload_n dX12_terms_10 rfl k) ?_
    refine Sx.o (fun _ _ _ k => ex_iload_n dX12_terms_11 rfl k) ?_
    refine Sx.bn (fun _ _ _ k1 k2 => ex_if_ne 20 dX12_terms_12 (by decide) k1 k2) (fun q => ?_) (fun q => ?_)
    · have hb24 := iq q hb23
      refine Sx.o (fun _ _ _ k => op_sipush (300 : Int32) dX12_terms_20 (by decide) k) ?_
      exact Ref_terms_23_s hb24
    · have hb25 := ip q hb23
      refine Sx.o (fun _ _ _ k => op_bipush (9 : Int32) dX12_terms_15 (by decide) k) ?_
      refine Sx.o (fun _ _ _ k => ex_goto 23 dX12_terms_17 (by decide) k) ?_
      exact Ref_terms_23_s hb25
set_option maxHeartbeats 1000000 in
set_option maxRecDepth 100000 in
theorem Ref_terms_q {v0 : Nat} {v1 : Int32} {v2 : Int32} {h : am_H} {r : (Int32 × am_H)} (hb : Ref_terms v0 v1 v2 h = some r) : Eqs h r.2 := by
  unfold Ref_terms at hb
  have hb := (iz hb).2
  have w0 := Eqs.rf h
  obtain ⟨x20, e_x20, hb21⟩ := ob2 hb
  by_cases q : x20 = (0 : Int32)
  · have hb22 := ip q hb21
    exact w0.tr (Ref_terms_29_q hb22)
  · have hb23 := iq q hb21
    by_cases q : v1 = (0 : Int32)
    · have hb25 := ip q hb23
      exact w0.tr (Ref_terms_23_q hb25)
    · have hb24 := iq q hb23
      exact w0.tr (Ref_terms_23_q hb24)
theorem Ref_terms_o {v0 : Nat} {v1 : Int32} {v2 : Int32} {h : am_H} {r : (Int32 × am_H)} (hb : Ref_terms v0 v1 v2 h = some r) : isO h 12 v0 = true := by
  unfold Ref_terms at hb
  exact (iz hb).1
set_option maxHeartbeats 1000000 in
set_option maxRecDepth 100000 in
noncomputable def Ref_to (v0 : Nat) (v1 : Int32) (v2 : Int32) (v3 : Int32) (h : am_H) : Option (Int32 × am_H) := if isO h 12 v0 = true then (Ref_canAsk v0 v1 v2 v3 h).bind fun x1 => if x1 = (0 : Int32) then some ((-1 : Int32), h) else (Ref_rowsBy v0 (0 : Int32) v1 v2 v3 h).bind fun r5 => some (r5.1, r5.2) else none
set_option maxHeartbeats 1000000 in
set_option maxRecDepth 100000 in
theorem Ref_to_s {v0 : Nat} {v1 : Int32} {v2 : Int32} {v3 : Int32} {h : am_H} {r : (Int32 × am_H)} (hb : Ref_to v0 v1 v2 v3 h = some r) : Sx 91 mX12_to 0 (am_en [.ref v0, .int v1, .int v2, .int v3] 4) [] h (some (.int r.1)) r.2 := by
  unfold Ref_to at hb
  have hb := (iz hb).2
  show Sx 91 mX12_to 0 [.ref v0, .int v1, .int v2, .int v3] [] h (some (.int r.1)) r.2
  refine Sx.o (fun _ _ _ k => ex_aload_n dX12_to_0 rfl rfl k) ?_
  refine Sx.o (fun _ _ _ k => ex_iload_n dX12_to_1 rfl k) ?_
  refine Sx.o (fun _ _ _ k => ex_iload_n dX12_to_2 rfl k) ?_
  refine Sx.o (fun _ _ _ k => ex_iload_n dX12_to_3 rfl k) ?_
  obtain ⟨x1, e_x1, hb2⟩ := ob2 hb
  refine sx_callV (dc := 2) (as := [.int v1, .int v2, .int v3]) (stq := [.int x1]) (by omega) dX12_to_4 MX12_canAsk kX12_405 iX12_canAsk sX12_canAsk rfl rfl (Ref_canAsk_o e_x1) rfl rfl (Nat.le_of_ble_eq_true rfl) (Nat.le_of_ble_eq_true rfl) (Ref_canAsk_s e_x1) rfl ?_
  refine Sx.b (fun _ _ _ k1 k2 => ex_if_eq 21 dX12_to_7 (by decide) k1 k2) (fun q => ?_) (fun q => ?_)
  · have hb3 := ip q hb2
    refine Sx.o (fun _ _ _ k => op_iconst (-1 : Int32) dX12_to_21 (by decide) k) ?_
    obtain rfl := Option.some.inj hb3
    exact Sx.r (fun _ _ _ k => ex_iret rfl dX12_to_22 k)
  · have hb4 := iq q hb2
    refine Sx.o (fun _ _ _ k => ex_aload_n dX12_to_10 rfl rfl k) ?_
    refine Sx.o (fun _ _ _ k => op_iconst (0 : Int32) dX12_to_11 (by decide) k) ?_
    refine Sx.o (fun _ _ _ k => ex_iload_n dX12_to_12 rfl k) ?_
    refine Sx.o (fun _ _ _ k => ex_iload_n dX12_to_13 rfl k) ?_
    refine Sx.o (fun _ _ _ k => ex_iload_n dX12_to_14 rfl k) ?_
    obtain ⟨r5, e_r5, hb6⟩ := ob2 hb4
    refine sx_callV (dc := 90) (as := [.int (0 : Int32), .int v1, .int v2, .int v3]) (stq := [.int r5.1]) (by omega) dX12_to_15 MX12_rowsBy kX12_408 iX12_rowsBy sX12_rowsBy rfl rfl (Ref_rowsBy_o e_r5) rfl rfl (Nat.le_of_ble_eq_true rfl) (Nat.le_of_ble_eq_true rfl) (Ref_rowsBy_s e_r5) rfl ?_
    refine Sx.o (fun _ _ _ k => ex_goto 22 dX12_to_18 (by decide) k) ?_
    obtain rfl := Option.some.inj hb6
    exact Sx.r (fun _ _ _ k => ex_iret rfl dX12_to_22 k)
set_option maxHeartbeats 1000000 in
set_option maxRecDepth 100000 in
theorem Ref_to_q {v0 : Nat} {v1 : Int32} {v2 : Int32} {v3 : Int32} {h : am_H} {r : (Int32 × am_H)} (hb : Ref_to v0 v1 v2 v3 h = some r) : Eqs h r.2 := by
  unfold Ref_to at hb
  have hb := (iz hb).2
  have w0 := Eqs.rf h
  obtain ⟨x1, e_x1, hb2⟩ := ob2 hb
  by_cases q : x1 = (0 : Int32)
  · have hb3 := ip q hb2
    obtain rfl := Option.some.inj hb3
    exact w0
  · have hb4 := iq q hb2
    obtain ⟨r5, e_r5, hb6⟩ := ob2 hb4
    have w7 := w0.tr (Ref_rowsBy_q e_r5)
    obtain rfl := Option.some.inj hb6
    exact w7
theorem Ref_to_o {v0 : Nat} {v1 : Int32} {v2 : Int32} {v3 : Int32} {h : am_H} {r : (Int32 × am_H)} (hb : Ref_to v0 v1 v2 v3 h = some r) : isO h 12 v0 = true := by
  unfold Ref_to at hb
  exact (iz hb).1
set_option maxHeartbeats 1000000 in
set_option maxRecDepth 100000 in
noncomputable def Ref_undo_34_b (g : (Nat × Int32 × Int32 × Nat × am_H) → Option (Int32 × am_H)) (v0 : Nat) (v1 : Int32) (v2 : Int32) (h : am_H) : Option (Int32 × am_H) := if (97 : Int32) ≤ v2 then (gR h 12 v0 37).bind fun x3 => (aI h 0 x3 (v1 + (97 : Int32))).bind fun x5 => (Ref_good v0 x5 h).bind fun r7 => some (r7.1, r7.2) else (gR h 12 v0 2).bind fun x10 => (gR h 12 v0 37).bind fun x12 => (aI h 0 x12 (v1 + v2)).bind fun x14 => (sI h x10 v2 x14).bind fun h16 => g (34, v1, (v2 + (1 : Int32)), v0, h16)
set_option maxHeartbeats 1000000 in
set_option maxRecDepth 100000 in
theorem Ref_undo_34_m {g g2 : (Nat × Int32 × Int32 × Nat × am_H) → Option (Int32 × am_H)} (hg : ∀ s, Le (g s) (g2 s)) (v0 : Nat) (v1 : Int32) (v2 : Int32) (h : am_H) : Le (Ref_undo_34_b g v0 v1 v2 h) (Ref_undo_34_b g2 v0 v1 v2 h) := by unfold Ref_undo_34_b; exact le_i (le_r _) (le_b (le_r _) fun x10 => le_b (le_r _) fun x12 => le_b (le_r _) fun x14 => le_b (le_r _) fun h16 => hg _)
noncomputable def Ref_undo_34_F (g : (Nat × Int32 × Int32 × Nat × am_H) → Option (Int32 × am_H)) (s : (Nat × Int32 × Int32 × Nat × am_H)) : Option (Int32 × am_H) := if s.1 = 34 then Ref_undo_34_b g s.2.2.2.1 s.2.1 s.2.2.1 s.2.2.2.2 else none
theorem Ref_undo_34_M : Mn Ref_undo_34_F := fun g g2 hg s => by unfold Ref_undo_34_F; exact le_i (Ref_undo_34_m hg s.2.2.2.1 s.2.1 s.2.2.1 s.2.2.2.2) (le_r _)
def Ref_undo_34_P (s : (Nat × Int32 × Int32 × Nat × am_H)) (r : (Int32 × am_H)) : Prop := (s.1 = 34 → Sx 1 mX12_undo 34 [.ref s.2.2.2.1, .int s.2.1, .int s.2.2.1] [] s.2.2.2.2 (some (.int r.1)) r.2) ∧ True
set_option maxHeartbeats 1000000 in
set_option maxRecDepth 100000 in
theorem Ref_undo_34_t {g : (Nat × Int32 × Int32 × Nat × am_H) → Option (Int32 × am_H)} (hg : ∀ s r, g s = some r → Ref_undo_34_P s r) {v0 : Nat} {v1 : Int32} {v2 : Int32} {h : am_H} {r : (Int32 × am_H)} (hb : Ref_undo_34_b g v0 v1 v2 h = some r) : Sx 1 mX12_undo 34 [.ref v0, .int v1, .int v2] [] h (some (.int r.1)) r.2 := by
  unfold Ref_undo_34_b at hb
  refine Sx.o (fun _ _ _ k => ex_iload_n dX12_undo_34 rfl k) ?_
  refine Sx.o (fun _ _ _ k => op_bipush (97 : Int32) dX12_undo_35 (by decide) k) ?_
  refine Sx.b (fun _ _ _ k1 k2 => ex_icmp_ge 60 dX12_undo_37 (by decide) k1 k2) (fun q => ?_) (fun q => ?_)
  · have hb1 := ip q hb
    refine Sx.o (fun _ _ _ k => ex_aload_n dX12_undo_60 rfl rfl k) ?_
    refine Sx.o (fun _ _ _ k => ex_aload_n dX12_undo_61 rfl rfl k) ?_
    obtain ⟨x3, e_x3, hb4⟩ := ob2 hb1
    refine Sx.o (fun _ _ _ k => op_getR fX12_74 dX12_undo_62 e_x3 k) ?_
    refine Sx.o (fun _ _ _ k => ex_iload_n dX12_undo_65 rfl k) ?_
    refine Sx.o (fun _ _ _ k => op_bipush (97 : Int32) dX12_undo_66 (by decide) k) ?_
    refine Sx.o (fun _ _ _ k => ex_iadd dX12_undo_68 k) ?_
    obtain ⟨x5, e_x5, hb6⟩ := ob2 hb4
    refine Sx.o (fun _ _ _ k => op_iald dX12_undo_69 e_x5 k) ?_
    obtain ⟨r7, e_r7, hb8⟩ := ob2 hb6
    refine sx_callV (dc := 0) (as := [.int x5]) (stq := [.int r7.1]) (by omega) dX12_undo_70 MX12_good kX12_14 iX12_good sX12_good rfl rfl (Ref_good_o e_r7) rfl rfl (Nat.le_of_ble_eq_true rfl) (Nat.le_of_ble_eq_true rfl) (Ref_good_s e_r7) rfl ?_
    obtain rfl := Option.some.inj hb8
    exact Sx.r (fun _ _ _ k => ex_iret rfl dX12_undo_73 k)
  · have hb2 := iq q hb
    refine Sx.o (fun _ _ _ k => ex_aload_n dX12_undo_40 rfl rfl k) ?_
    obtain ⟨x10, e_x10, hb11⟩ := ob2 hb2
    refine Sx.o (fun _ _ _ k => op_getR fX12_24 dX12_undo_41 e_x10 k) ?_
    refine Sx.o (fun _ _ _ k => ex_iload_n dX12_undo_44 rfl k) ?_
    refine Sx.o (fun _ _ _ k => ex_aload_n dX12_undo_45 rfl rfl k) ?_
    obtain ⟨x12, e_x12, hb13⟩ := ob2 hb11
    refine Sx.o (fun _ _ _ k => op_getR fX12_74 dX12_undo_46 e_x12 k) ?_
    refine Sx.o (fun _ _ _ k => ex_iload_n dX12_undo_49 rfl k) ?_
    refine Sx.o (fun _ _ _ k => ex_iload_n dX12_undo_50 rfl k) ?_
    refine Sx.o (fun _ _ _ k => ex_iadd dX12_undo_51 k) ?_
    obtain ⟨x14, e_x14, hb15⟩ := ob2 hb13
    refine Sx.o (fun _ _ _ k => op_iald dX12_undo_52 e_x14 k) ?_
    obtain ⟨h16, e_h16, hb17⟩ := ob2 hb15
    refine Sx.p (sI_q e_h16) (fun _ _ _ k => op_iast dX12_undo_53 e_h16 k) ?_
    refine Sx.o (L' := [.ref v0, .int v1, .int (v2 + (1 : Int32))]) (fun _ _ _ k => op_iinc (1 : Int32) dX12_undo_54 (by decide) rfl (by decide) k) ?_
    refine Sx.o (fun _ _ _ k => ex_goto 34 dX12_undo_57 (by decide) k) ?_
    exact (hg _ _ hb17).1 rfl
theorem Ref_undo_34_T : ∀ s r, fx Ref_undo_34_F Ref_undo_34_M s = some r → Ref_undo_34_P s r := fx_ind Ref_undo_34_M Ref_undo_34_P (fun g hg s r hb => by
  unfold Ref_undo_34_F at hb
  exact ⟨fun q => Ref_undo_34_t hg (ip q hb), trivial⟩)
set_option maxHeartbeats 1000000 in
set_option maxRecDepth 100000 in
theorem Ref_undo_34_r {g : (Nat × Int32 × Int32 × Nat × am_H) → Option (Int32 × am_H)} (hg : ∀ s r, g s = some r → Eqs s.2.2.2.2 r.2) {v0 : Nat} {v1 : Int32} {v2 : Int32} {h : am_H} {r : (Int32 × am_H)} (hb : Ref_undo_34_b g v0 v1 v2 h = some r) : Eqs h r.2 := by
  unfold Ref_undo_34_b at hb
  have w0 := Eqs.rf h
  by_cases q : (97 : Int32) ≤ v2
  · have hb1 := ip q hb
    obtain ⟨x3, e_x3, hb4⟩ := ob2 hb1
    obtain ⟨x5, e_x5, hb6⟩ := ob2 hb4
    obtain ⟨r7, e_r7, hb8⟩ := ob2 hb6
    have w9 := w0.tr (Ref_good_q e_r7)
    obtain rfl := Option.some.inj hb8
    exact w9
  · have hb2 := iq q hb
    obtain ⟨x10, e_x10, hb11⟩ := ob2 hb2
    obtain ⟨x12, e_x12, hb13⟩ := ob2 hb11
    obtain ⟨x14, e_x14, hb15⟩ := ob2 hb13
    obtain ⟨h16, e_h16, hb17⟩ := ob2 hb15
    have w18 := w0.tr (sI_q e_h16)
    exact w18.tr (hg _ _ hb17)
theorem Ref_undo_34_Q : ∀ s r, fx Ref_undo_34_F Ref_undo_34_M s = some r → Eqs s.2.2.2.2 r.2 := fx_ind Ref_undo_34_M (fun s r => Eqs s.2.2.2.2 r.2) (fun g hg s r hb => by
  unfold Ref_undo_34_F at hb
  by_cases q0 : s.1 = 34
  · exact Ref_undo_34_r hg (ip q0 hb)
  · have hb0 := iq q0 hb
    exact nomatch hb0)
noncomputable def Ref_undo_34 (v0 : Nat) (v1 : Int32) (v2 : Int32) (h : am_H) : Option (Int32 × am_H) := fx Ref_undo_34_F Ref_undo_34_M (34, v1, v2, v0, h)
set_option maxHeartbeats 1000000 in
set_option maxRecDepth 100000 in
theorem Ref_undo_34_e (v0 : Nat) (v1 : Int32) (v2 : Int32) (h : am_H) : Ref_undo_34 v0 v1 v2 h = (if (97 : Int32) ≤ v2 then (gR h 12 v0 37).bind fun x3 => (aI h 0 x3 (v1 + (97 : Int32))).bind fun x5 => (Ref_good v0 x5 h).bind fun r7 => some (r7.1, r7.2) else (gR h 12 v0 2).bind fun x10 => (gR h 12 v0 37).bind fun x12 => (aI h 0 x12 (v1 + v2)).bind fun x14 => (sI h x10 v2 x14).bind fun h16 => Ref_undo_34 v0 v1 (v2 + (1 : Int32)) h16) := (fx_eq Ref_undo_34_M (34, v1, v2, v0, h)).trans (if_pos rfl)
theorem Ref_undo_34_q {v0 : Nat} {v1 : Int32} {v2 : Int32} {h : am_H} {r : (Int32 × am_H)} (hb : Ref_undo_34 v0 v1 v2 h = some r) : Eqs h r.2 := Ref_undo_34_Q _ _ hb
theorem Ref_undo_34_s {v0 : Nat} {v1 : Int32} {v2 : Int32} {h : am_H} {r : (Int32 × am_H)} (hb : Ref_undo_34 v0 v1 v2 h = some r) : Sx 1 mX12_undo 34 [.ref v0, .int v1, .int v2] [] h (some (.int r.1)) r.2 := (Ref_undo_34_T _ _ hb).1 rfl
set_option maxHeartbeats 1000000 in
set_option maxRecDepth 100000 in
noncomputable def Ref_undo (v0 : Nat) (h : am_H) : Option (Int32 × am_H) := if isO h 12 v0 = true then (gI h 12 v0 39).bind fun x19 => if x19 = (0 : Int32) then (Ref_refuses v0 (-3 : Int32) h).bind fun r30 => some (r30.1, r30.2) else (gI h 12 v0 39).bind fun x23 => (pV h 12 v0 39 (.int (x23 - (1 : Int32)))).bind fun h25 => (gI h25 12 v0 39).bind fun x28 => Ref_undo_34 v0 ((98 : Int32) * x28) (0 : Int32) h25 else none
set_option maxHeartbeats 1000000 in
set_option maxRecDepth 100000 in
theorem Ref_undo_s {v0 : Nat} {h : am_H} {r : (Int32 × am_H)} (hb : Ref_undo v0 h = some r) : Sx 1 mX12_undo 0 (am_en [.ref v0] 3) [] h (some (.int r.1)) r.2 := by
  unfold Ref_undo at hb
  have hb := (iz hb).2
  show Sx 1 mX12_undo 0 [.ref v0, .retAddr 0, .retAddr 0] [] h (some (.int r.1)) r.2
  refine Sx.o (fun _ _ _ k => ex_aload_n dX12_undo_0 rfl rfl k) ?_
  obtain ⟨x19, e_x19, hb20⟩ := ob2 hb
  refine Sx.o (fun _ _ _ k => op_getI fX12_11 dX12_undo_1 e_x19 k) ?_
  refine Sx.bn (fun _ _ _ k1 k2 => ex_if_ne 14 dX12_undo_4 (by decide) k1 k2) (fun q => ?_) (fun q => ?_)
  · have hb21 := iq q hb20
    refine Sx.o (fun _ _ _ k => ex_aload_n dX12_undo_14 rfl rfl k) ?_
    refine Sx.o (fun _ _ _ k => ex_dup dX12_undo_15 rfl k) ?_
    obtain ⟨x23, e_x23, hb24⟩ := ob2 hb21
    refine Sx.o (fun _ _ _ k => op_getI fX12_11 dX12_undo_16 e_x23 k) ?_
    refine Sx.o (fun _ _ _ k => op_iconst (1 : Int32) dX12_undo_19 (by decide) k) ?_
    refine Sx.o (fun _ _ _ k => ex_isub dX12_undo_20 k) ?_
    obtain ⟨h25, e_h25, hb26⟩ := ob2 hb24
    refine Sx.p (pV_q e_h25) (fun _ _ _ k => op_put pX12_11 dX12_undo_21 e_h25 (fun _ => rfl) (fun _ => rfl) k) ?_
    refine Sx.o (fun _ _ _ k => op_bipush (98 : Int32) dX12_undo_24 (by decide) k) ?_
    refine Sx.o (fun _ _ _ k => ex_aload_n dX12_undo_26 rfl rfl k) ?_
    obtain ⟨x28, e_x28, hb29⟩ := ob2 hb26
    refine Sx.o (fun _ _ _ k => op_getI fX12_11 dX12_undo_27 e_x28 k) ?_
    refine Sx.o (fun _ _ _ k => ex_imul dX12_undo_30 k) ?_
    refine Sx.o (L' := [.ref v0, .int ((98 : Int32) * x28), .retAddr 0]) (fun _ _ _ k => ex_istore_n dX12_undo_31 (by decide) k) ?_
    refine Sx.o (fun _ _ _ k => op_iconst (0 : Int32) dX12_undo_32 (by decide) k) ?_
    refine Sx.o (L' := [.ref v0, .int ((98 : Int32) * x28), .int (0 : Int32)]) (fun _ _ _ k => ex_istore_n dX12_undo_33 (by decide) k) ?_
    exact Ref_undo_34_s hb29
  · have hb22 := ip q hb20
    refine Sx.o (fun _ _ _ k => ex_aload_n dX12_undo_7 rfl rfl k) ?_
    refine Sx.o (fun _ _ _ k => op_bipush (-3 : Int32) dX12_undo_8 (by decide) k) ?_
    obtain ⟨r30, e_r30, hb31⟩ := ob2 hb22
    refine sx_callV (dc := 0) (as := [.int (-3 : Int32)]) (stq := [.int r30.1]) (by omega) dX12_undo_10 MX12_refuses kX12_106 iX12_refuses sX12_refuses rfl rfl (Ref_refuses_o e_r30) rfl rfl (Nat.le_of_ble_eq_true rfl) (Nat.le_of_ble_eq_true rfl) (Ref_refuses_s e_r30) rfl ?_
    obtain rfl := Option.some.inj hb31
    exact Sx.r (fun _ _ _ k => ex_iret rfl dX12_undo_13 k)
set_option maxHeartbeats 1000000 in
set_option maxRecDepth 100000 in
theorem Ref_undo_q {v0 : Nat} {h : am_H} {r : (Int32 × am_H)} (hb : Ref_undo v0 h = some r) : Eqs h r.2 := by
  unfold Ref_undo at hb
  have hb := (iz hb).2
  have w0 := Eqs.rf h
  obtain ⟨x19, e_x19, hb20⟩ := ob2 hb
  by_cases q : x19 = (0 : Int32)
  · have hb22 := ip q hb20
    obtain ⟨r30, e_r30, hb31⟩ := ob2 hb22
    have w32 := w0.tr (Ref_refuses_q e_r30)
    obtain rfl := Option.some.inj hb31
    exact w32
  · have hb21 := iq q hb20
    obtain ⟨x23, e_x23, hb24⟩ := ob2 hb21
    obtain ⟨h25, e_h25, hb26⟩ := ob2 hb24
    have w27 := w0.tr (pV_q e_h25)
    obtain ⟨x28, e_x28, hb29⟩ := ob2 hb26
    exact w27.tr (Ref_undo_34_q hb29)
theorem Ref_undo_o {v0 : Nat} {h : am_H} {r : (Int32 × am_H)} (hb : Ref_undo v0 h = some r) : isO h 12 v0 = true := by
  unfold Ref_undo at hb
  exact (iz hb).1
