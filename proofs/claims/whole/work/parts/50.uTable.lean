/-! Table: its methods as functions (by wip/whole/dec.py) -/
set_option maxHeartbeats 1000000 in
set_option maxRecDepth 100000 in
noncomputable def Table_inForce (v0 : Nat) (h : am_H) : Option (Option Nat) := if isO h 7 v0 = true then (gI h 7 v0 3).bind fun x1 => if x1 < (0 : Int32) then some none else (gI h 7 v0 3).bind fun x5 => (gR h 7 v0 9).bind fun x7 => (aL h x7).bind fun x9 => if x9 ≤ x5 then some none else (gR h 7 v0 9).bind fun x13 => (gI h 7 v0 3).bind fun x15 => (aN h 6 x13 x15).bind fun x17 => some x17 else none
set_option maxHeartbeats 1000000 in
set_option maxRecDepth 100000 in
theorem Table_inForce_s {v0 : Nat} {h : am_H} {r : (Option Nat)} (hb : Table_inForce v0 h = some r) : Sx 0 mX7_inForce 0 (am_en [.ref v0] 1) [] h (some (va_rf r)) h := by
  unfold Table_inForce at hb
  have hb := (iz hb).2
  show Sx 0 mX7_inForce 0 [.ref v0] [] h (some (va_rf r)) h
  refine Sx.o (fun _ _ _ k => ex_aload_n dX7_inForce_0 rfl rfl k) ?_
  obtain ⟨x1, e_x1, hb2⟩ := ob2 hb
  refine Sx.o (fun _ _ _ k => op_getI fX7_9 dX7_inForce_1 e_x1 k) ?_
  refine Sx.b (fun _ _ _ k1 k2 => ex_if_lt 31 dX7_inForce_4 (by decide) k1 k2) (fun q => ?_) (fun q => ?_)
  · have hb3 := ip q hb2
    refine Sx.o (fun _ _ _ k => ex_null dX7_inForce_31 k) ?_
    obtain rfl := Option.some.inj hb3
    exact Sx.r (fun _ _ _ k => ex_aret rfl rfl dX7_inForce_32 k)
  · have hb4 := iq q hb2
    refine Sx.o (fun _ _ _ k => ex_aload_n dX7_inForce_7 rfl rfl k) ?_
    obtain ⟨x5, e_x5, hb6⟩ := ob2 hb4
    refine Sx.o (fun _ _ _ k => op_getI fX7_9 dX7_inForce_8 e_x5 k) ?_
    refine Sx.o (fun _ _ _ k => ex_aload_n dX7_inForce_11 rfl rfl k) ?_
    obtain ⟨x7, e_x7, hb8⟩ := ob2 hb6
    refine Sx.o (fun _ _ _ k => op_getR fX7_33 dX7_inForce_12 e_x7 k) ?_
    obtain ⟨x9, e_x9, hb10⟩ := ob2 hb8
    refine Sx.o (fun _ _ _ k => op_alen dX7_inForce_15 e_x9 k) ?_
    refine Sx.b (fun _ _ _ k1 k2 => ex_icmp_ge 31 dX7_inForce_16 (by decide) k1 k2) (fun q => ?_) (fun q => ?_)
    · have hb11 := ip q hb10
      refine Sx.o (fun _ _ _ k => ex_null dX7_inForce_31 k) ?_
      obtain rfl := Option.some.inj hb11
      exact Sx.r (fun _ _ _ k => ex_aret rfl rfl dX7_inForce_32 k)
    · have hb12 := iq q hb10
      refine Sx.o (fun _ _ _ k => ex_aload_n dX7_inForce_19 rfl rfl k) ?_
      obtain ⟨x13, e_x13, hb14⟩ := ob2 hb12
      refine Sx.o (fun _ _ _ k => op_getR fX7_33 dX7_inForce_20 e_x13 k) ?_
      refine Sx.o (fun _ _ _ k => ex_aload_n dX7_inForce_23 rfl rfl k) ?_
      obtain ⟨x15, e_x15, hb16⟩ := ob2 hb14
      refine Sx.o (fun _ _ _ k => op_getI fX7_9 dX7_inForce_24 e_x15 k) ?_
      obtain ⟨x17, e_x17, hb18⟩ := ob2 hb16
      refine Sx.o (fun _ _ _ k => op_aald (Or.inr (Or.inr rfl)) dX7_inForce_27 e_x17 k) ?_
      refine Sx.o (fun _ _ _ k => ex_goto 32 dX7_inForce_28 (by decide) k) ?_
      obtain rfl := Option.some.inj hb18
      exact Sx.r (fun _ _ _ k => ex_aret rfl (am_rfv _) dX7_inForce_32 k)
theorem Table_inForce_o {v0 : Nat} {h : am_H} {r : (Option Nat)} (hb : Table_inForce v0 h = some r) : isO h 7 v0 = true := by
  unfold Table_inForce at hb
  exact (iz hb).1
set_option maxHeartbeats 1000000 in
set_option maxRecDepth 100000 in
noncomputable def Table_cardOf (v0 : Nat) (v1 : Int32) (h : am_H) : Option Int32 := if isO h 7 v0 = true then if v1 < (0 : Int32) then some (-1 : Int32) else (gI h 7 v0 1).bind fun x3 => if x3 ≤ v1 then some (-1 : Int32) else (gR h 7 v0 8).bind fun x7 => (aI h 0 x7 v1).bind fun x9 => some x9 else none
set_option maxHeartbeats 1000000 in
set_option maxRecDepth 100000 in
theorem Table_cardOf_s {v0 : Nat} {v1 : Int32} {h : am_H} {r : Int32} (hb : Table_cardOf v0 v1 h = some r) : Sx 0 mX7_cardOf 0 (am_en [.ref v0, .int v1] 2) [] h (some (.int r)) h := by
  unfold Table_cardOf at hb
  have hb := (iz hb).2
  show Sx 0 mX7_cardOf 0 [.ref v0, .int v1] [] h (some (.int r)) h
  refine Sx.o (fun _ _ _ k => ex_iload_n dX7_cardOf_0 rfl k) ?_
  refine Sx.b (fun _ _ _ k1 k2 => ex_if_lt 21 dX7_cardOf_1 (by decide) k1 k2) (fun q => ?_) (fun q => ?_)
  · have hb1 := ip q hb
    refine Sx.o (fun _ _ _ k => op_iconst (-1 : Int32) dX7_cardOf_21 (by decide) k) ?_
    obtain rfl := Option.some.inj hb1
    exact Sx.r (fun _ _ _ k => ex_iret rfl dX7_cardOf_22 k)
  · have hb2 := iq q hb
    refine Sx.o (fun _ _ _ k => ex_iload_n dX7_cardOf_4 rfl k) ?_
    refine Sx.o (fun _ _ _ k => ex_aload_n dX7_cardOf_5 rfl rfl k) ?_
    obtain ⟨x3, e_x3, hb4⟩ := ob2 hb2
    refine Sx.o (fun _ _ _ k => op_getI fX7_41 dX7_cardOf_6 e_x3 k) ?_
    refine Sx.b (fun _ _ _ k1 k2 => ex_icmp_ge 21 dX7_cardOf_9 (by decide) k1 k2) (fun q => ?_) (fun q => ?_)
    · have hb5 := ip q hb4
      refine Sx.o (fun _ _ _ k => op_iconst (-1 : Int32) dX7_cardOf_21 (by decide) k) ?_
      obtain rfl := Option.some.inj hb5
      exact Sx.r (fun _ _ _ k => ex_iret rfl dX7_cardOf_22 k)
    · have hb6 := iq q hb4
      refine Sx.o (fun _ _ _ k => ex_aload_n dX7_cardOf_12 rfl rfl k) ?_
      obtain ⟨x7, e_x7, hb8⟩ := ob2 hb6
      refine Sx.o (fun _ _ _ k => op_getR fX7_28 dX7_cardOf_13 e_x7 k) ?_
      refine Sx.o (fun _ _ _ k => ex_iload_n dX7_cardOf_16 rfl k) ?_
      obtain ⟨x9, e_x9, hb10⟩ := ob2 hb8
      refine Sx.o (fun _ _ _ k => op_iald dX7_cardOf_17 e_x9 k) ?_
      refine Sx.o (fun _ _ _ k => ex_goto 22 dX7_cardOf_18 (by decide) k) ?_
      obtain rfl := Option.some.inj hb10
      exact Sx.r (fun _ _ _ k => ex_iret rfl dX7_cardOf_22 k)
theorem Table_cardOf_o {v0 : Nat} {v1 : Int32} {h : am_H} {r : Int32} (hb : Table_cardOf v0 v1 h = some r) : isO h 7 v0 = true := by
  unfold Table_cardOf at hb
  exact (iz hb).1
set_option maxHeartbeats 1000000 in
set_option maxRecDepth 100000 in
noncomputable def Table_stepsOf (v0 : Nat) (v1 : Int32) (h : am_H) : Option Int32 := if isO h 7 v0 = true then if v1 < (0 : Int32) then some (-1 : Int32) else (gI h 7 v0 1).bind fun x3 => if x3 ≤ v1 then some (-1 : Int32) else (gR h 7 v0 7).bind fun x7 => (aI h 0 x7 v1).bind fun x9 => some x9 else none
set_option maxHeartbeats 1000000 in
set_option maxRecDepth 100000 in
theorem Table_stepsOf_s {v0 : Nat} {v1 : Int32} {h : am_H} {r : Int32} (hb : Table_stepsOf v0 v1 h = some r) : Sx 0 mX7_stepsOf 0 (am_en [.ref v0, .int v1] 2) [] h (some (.int r)) h := by
  unfold Table_stepsOf at hb
  have hb := (iz hb).2
  show Sx 0 mX7_stepsOf 0 [.ref v0, .int v1] [] h (some (.int r)) h
  refine Sx.o (fun _ _ _ k => ex_iload_n dX7_stepsOf_0 rfl k) ?_
  refine Sx.b (fun _ _ _ k1 k2 => ex_if_lt 21 dX7_stepsOf_1 (by decide) k1 k2) (fun q => ?_) (fun q => ?_)
  · have hb1 := ip q hb
    refine Sx.o (fun _ _ _ k => op_iconst (-1 : Int32) dX7_stepsOf_21 (by decide) k) ?_
    obtain rfl := Option.some.inj hb1
    exact Sx.r (fun _ _ _ k => ex_iret rfl dX7_stepsOf_22 k)
  · have hb2 := iq q hb
    refine Sx.o (fun _ _ _ k => ex_iload_n dX7_stepsOf_4 rfl k) ?_
    refine Sx.o (fun _ _ _ k => ex_aload_n dX7_stepsOf_5 rfl rfl k) ?_
    obtain ⟨x3, e_x3, hb4⟩ := ob2 hb2
    refine Sx.o (fun _ _ _ k => op_getI fX7_41 dX7_stepsOf_6 e_x3 k) ?_
    refine Sx.b (fun _ _ _ k1 k2 => ex_icmp_ge 21 dX7_stepsOf_9 (by decide) k1 k2) (fun q => ?_) (fun q => ?_)
    · have hb5 := ip q hb4
      refine Sx.o (fun _ _ _ k => op_iconst (-1 : Int32) dX7_stepsOf_21 (by decide) k) ?_
      obtain rfl := Option.some.inj hb5
      exact Sx.r (fun _ _ _ k => ex_iret rfl dX7_stepsOf_22 k)
    · have hb6 := iq q hb4
      refine Sx.o (fun _ _ _ k => ex_aload_n dX7_stepsOf_12 rfl rfl k) ?_
      obtain ⟨x7, e_x7, hb8⟩ := ob2 hb6
      refine Sx.o (fun _ _ _ k => op_getR fX7_24 dX7_stepsOf_13 e_x7 k) ?_
      refine Sx.o (fun _ _ _ k => ex_iload_n dX7_stepsOf_16 rfl k) ?_
      obtain ⟨x9, e_x9, hb10⟩ := ob2 hb8
      refine Sx.o (fun _ _ _ k => op_iald dX7_stepsOf_17 e_x9 k) ?_
      refine Sx.o (fun _ _ _ k => ex_goto 22 dX7_stepsOf_18 (by decide) k) ?_
      obtain rfl := Option.some.inj hb10
      exact Sx.r (fun _ _ _ k => ex_iret rfl dX7_stepsOf_22 k)
theorem Table_stepsOf_o {v0 : Nat} {v1 : Int32} {h : am_H} {r : Int32} (hb : Table_stepsOf v0 v1 h = some r) : isO h 7 v0 = true := by
  unfold Table_stepsOf at hb
  exact (iz hb).1
set_option maxHeartbeats 1000000 in
set_option maxRecDepth 100000 in
noncomputable def Table_at (v0 : Nat) (v1 : Int32) (h : am_H) : Option (Option Nat) := if isO h 7 v0 = true then if v1 < (0 : Int32) then some none else (gI h 7 v0 0).bind fun x3 => if x3 ≤ v1 then some none else (gR h 7 v0 6).bind fun x7 => (aL h x7).bind fun x9 => if x9 ≤ v1 then some none else (gR h 7 v0 6).bind fun x13 => (aN h 4 x13 v1).bind fun x15 => (x15).bind fun x17 => some (some x17) else none
set_option maxHeartbeats 1000000 in
set_option maxRecDepth 100000 in
theorem Table_at_s {v0 : Nat} {v1 : Int32} {h : am_H} {r : (Option Nat)} (hb : Table_at v0 v1 h = some r) : Sx 0 mX7_at 0 (am_en [.ref v0, .int v1] 2) [] h (some (va_rf r)) h := by
  unfold Table_at at hb
  have hb := (iz hb).2
  show Sx 0 mX7_at 0 [.ref v0, .int v1] [] h (some (va_rf r)) h
  refine Sx.o (fun _ _ _ k => ex_iload_n dX7_at_0 rfl k) ?_
  refine Sx.b (fun _ _ _ k1 k2 => ex_if_lt 30 dX7_at_1 (by decide) k1 k2) (fun q => ?_) (fun q => ?_)
  · have hb1 := ip q hb
    refine Sx.o (fun _ _ _ k => ex_null dX7_at_30 k) ?_
    obtain rfl := Option.some.inj hb1
    exact Sx.r (fun _ _ _ k => ex_aret rfl rfl dX7_at_31 k)
  · have hb2 := iq q hb
    refine Sx.o (fun _ _ _ k => ex_iload_n dX7_at_4 rfl k) ?_
    refine Sx.o (fun _ _ _ k => ex_aload_n dX7_at_5 rfl rfl k) ?_
    obtain ⟨x3, e_x3, hb4⟩ := ob2 hb2
    refine Sx.o (fun _ _ _ k => op_getI fX7_38 dX7_at_6 e_x3 k) ?_
    refine Sx.b (fun _ _ _ k1 k2 => ex_icmp_ge 30 dX7_at_9 (by decide) k1 k2) (fun q => ?_) (fun q => ?_)
    · have hb5 := ip q hb4
      refine Sx.o (fun _ _ _ k => ex_null dX7_at_30 k) ?_
      obtain rfl := Option.some.inj hb5
      exact Sx.r (fun _ _ _ k => ex_aret rfl rfl dX7_at_31 k)
    · have hb6 := iq q hb4
      refine Sx.o (fun _ _ _ k => ex_iload_n dX7_at_12 rfl k) ?_
      refine Sx.o (fun _ _ _ k => ex_aload_n dX7_at_13 rfl rfl k) ?_
      obtain ⟨x7, e_x7, hb8⟩ := ob2 hb6
      refine Sx.o (fun _ _ _ k => op_getR fX7_20 dX7_at_14 e_x7 k) ?_
      obtain ⟨x9, e_x9, hb10⟩ := ob2 hb8
      refine Sx.o (fun _ _ _ k => op_alen dX7_at_17 e_x9 k) ?_
      refine Sx.b (fun _ _ _ k1 k2 => ex_icmp_ge 30 dX7_at_18 (by decide) k1 k2) (fun q => ?_) (fun q => ?_)
      · have hb11 := ip q hb10
        refine Sx.o (fun _ _ _ k => ex_null dX7_at_30 k) ?_
        obtain rfl := Option.some.inj hb11
        exact Sx.r (fun _ _ _ k => ex_aret rfl rfl dX7_at_31 k)
      · have hb12 := iq q hb10
        refine Sx.o (fun _ _ _ k => ex_aload_n dX7_at_21 rfl rfl k) ?_
        obtain ⟨x13, e_x13, hb14⟩ := ob2 hb12
        refine Sx.o (fun _ _ _ k => op_getR fX7_20 dX7_at_22 e_x13 k) ?_
        refine Sx.o (fun _ _ _ k => ex_iload_n dX7_at_25 rfl k) ?_
        obtain ⟨x15, e_x15, hb16⟩ := ob2 hb14
        refine Sx.o (fun _ _ _ k => op_aald (Or.inl rfl) dX7_at_26 e_x15 k) ?_
        obtain ⟨x17, e_x17, hb18⟩ := ob2 hb16
        subst e_x17
        refine Sx.o (fun _ _ _ k => ex_goto 31 dX7_at_27 (by decide) k) ?_
        obtain rfl := Option.some.inj hb18
        exact Sx.r (fun _ _ _ k => ex_aret rfl rfl dX7_at_31 k)
theorem Table_at_o {v0 : Nat} {v1 : Int32} {h : am_H} {r : (Option Nat)} (hb : Table_at v0 v1 h = some r) : isO h 7 v0 = true := by
  unfold Table_at at hb
  exact (iz hb).1
set_option maxHeartbeats 1000000 in
set_option maxRecDepth 100000 in
noncomputable def Table_copyHeaps_2_b (g : (Nat × Int32 × Nat × Nat × am_H) → Option am_H) (v0 : Nat) (v1 : Nat) (v2 : Int32) (h : am_H) : Option am_H := (gR h 7 v0 6).bind fun x1 => (aL h x1).bind fun x3 => if x3 ≤ v2 then some h else (gR h 7 v0 6).bind fun x7 => (aN h 4 x7 v2).bind fun x9 => (x9).bind fun x11 => (gR h 7 v1 6).bind fun x13 => (aN h 4 x13 v2).bind fun x15 => (x15).bind fun x17 => (Row_copy x11 x17 h).bind fun h19 => g (2, (v2 + (1 : Int32)), v0, v1, h19)
set_option maxHeartbeats 1000000 in
set_option maxRecDepth 100000 in
theorem Table_copyHeaps_2_m {g g2 : (Nat × Int32 × Nat × Nat × am_H) → Option am_H} (hg : ∀ s, Le (g s) (g2 s)) (v0 : Nat) (v1 : Nat) (v2 : Int32) (h : am_H) : Le (Table_copyHeaps_2_b g v0 v1 v2 h) (Table_copyHeaps_2_b g2 v0 v1 v2 h) := by unfold Table_copyHeaps_2_b; exact le_b (le_r _) fun x1 => le_b (le_r _) fun x3 => le_i (le_r _) (le_b (le_r _) fun x7 => le_b (le_r _) fun x9 => le_b (le_r _) fun x11 => le_b (le_r _) fun x13 => le_b (le_r _) fun x15 => le_b (le_r _) fun x17 => le_b (le_r _) fun h19 => hg _)
noncomputable def Table_copyHeaps_2_F (g : (Nat × Int32 × Nat × Nat × am_H) → Option am_H) (s : (Nat × Int32 × Nat × Nat × am_H)) : Option am_H := if s.1 = 2 then Table_copyHeaps_2_b g s.2.2.1 s.2.2.2.1 s.2.1 s.2.2.2.2 else none
theorem Table_copyHeaps_2_M : Mn Table_copyHeaps_2_F := fun g g2 hg s => by unfold Table_copyHeaps_2_F; exact le_i (Table_copyHeaps_2_m hg s.2.2.1 s.2.2.2.1 s.2.1 s.2.2.2.2) (le_r _)
def Table_copyHeaps_2_P (s : (Nat × Int32 × Nat × Nat × am_H)) (r : am_H) : Prop := (s.1 = 2 → Sx 2 mX7_copyHeaps 2 [.ref s.2.2.1, .ref s.2.2.2.1, .int s.2.1] [] s.2.2.2.2 none r) ∧ True
set_option maxHeartbeats 1000000 in
set_option maxRecDepth 100000 in
theorem Table_copyHeaps_2_t {g : (Nat × Int32 × Nat × Nat × am_H) → Option am_H} (hg : ∀ s r, g s = some r → Table_copyHeaps_2_P s r) {v0 : Nat} {v1 : Nat} {v2 : Int32} {h : am_H} {r : am_H} (hb : Table_copyHeaps_2_b g v0 v1 v2 h = some r) : Sx 2 mX7_copyHeaps 2 [.ref v0, .ref v1, .int v2] [] h none r := by
  unfold Table_copyHeaps_2_b at hb
  refine Sx.o (fun _ _ _ k => ex_iload_n dX7_copyHeaps_2 rfl k) ?_
  refine Sx.o (fun _ _ _ k => ex_aload_n dX7_copyHeaps_3 rfl rfl k) ?_
  obtain ⟨x1, e_x1, hb2⟩ := ob2 hb
  refine Sx.o (fun _ _ _ k => op_getR fX7_20 dX7_copyHeaps_4 e_x1 k) ?_
  obtain ⟨x3, e_x3, hb4⟩ := ob2 hb2
  refine Sx.o (fun _ _ _ k => op_alen dX7_copyHeaps_7 e_x3 k) ?_
  refine Sx.b (fun _ _ _ k1 k2 => ex_icmp_ge 32 dX7_copyHeaps_8 (by decide) k1 k2) (fun q => ?_) (fun q => ?_)
  · have hb5 := ip q hb4
    obtain rfl := Option.some.inj hb5
    exact Sx.r (fun _ _ _ k => ex_vret rfl dX7_copyHeaps_32 k)
  · have hb6 := iq q hb4
    refine Sx.o (fun _ _ _ k => ex_aload_n dX7_copyHeaps_11 rfl rfl k) ?_
    obtain ⟨x7, e_x7, hb8⟩ := ob2 hb6
    refine Sx.o (fun _ _ _ k => op_getR fX7_20 dX7_copyHeaps_12 e_x7 k) ?_
    refine Sx.o (fun _ _ _ k => ex_iload_n dX7_copyHeaps_15 rfl k) ?_
    obtain ⟨x9, e_x9, hb10⟩ := ob2 hb8
    refine Sx.o (fun _ _ _ k => op_aald (Or.inl rfl) dX7_copyHeaps_16 e_x9 k) ?_
    obtain ⟨x11, e_x11, hb12⟩ := ob2 hb10
    subst e_x11
    refine Sx.o (fun _ _ _ k => ex_aload_n dX7_copyHeaps_17 rfl rfl k) ?_
    obtain ⟨x13, e_x13, hb14⟩ := ob2 hb12
    refine Sx.o (fun _ _ _ k => op_getR fX7_20 dX7_copyHeaps_18 e_x13 k) ?_
    refine Sx.o (fun _ _ _ k => ex_iload_n dX7_copyHeaps_21 rfl k) ?_
    obtain ⟨x15, e_x15, hb16⟩ := ob2 hb14
    refine Sx.o (fun _ _ _ k => op_aald (Or.inl rfl) dX7_copyHeaps_22 e_x15 k) ?_
    obtain ⟨x17, e_x17, hb18⟩ := ob2 hb16
    subst e_x17
    obtain ⟨h19, e_h19, hb20⟩ := ob2 hb18
    refine sx_callV (dc := 1) (as := [.ref x17]) (stq := []) (by omega) dX7_copyHeaps_23 MX4_copy kX7_60 iX4_copy sX4_copy rfl rfl (Row_copy_o e_h19) rfl rfl (Nat.le_of_ble_eq_true rfl) (Nat.le_of_ble_eq_true rfl) (Row_copy_s e_h19) rfl ?_
    refine Sx.o (L' := [.ref v0, .ref v1, .int (v2 + (1 : Int32))]) (fun _ _ _ k => op_iinc (1 : Int32) dX7_copyHeaps_26 (by decide) rfl (by decide) k) ?_
    refine Sx.o (fun _ _ _ k => ex_goto 2 dX7_copyHeaps_29 (by decide) k) ?_
    exact (hg _ _ hb20).1 rfl
theorem Table_copyHeaps_2_T : ∀ s r, fx Table_copyHeaps_2_F Table_copyHeaps_2_M s = some r → Table_copyHeaps_2_P s r := fx_ind Table_copyHeaps_2_M Table_copyHeaps_2_P (fun g hg s r hb => by
  unfold Table_copyHeaps_2_F at hb
  exact ⟨fun q => Table_copyHeaps_2_t hg (ip q hb), trivial⟩)
set_option maxHeartbeats 1000000 in
set_option maxRecDepth 100000 in
theorem Table_copyHeaps_2_r {g : (Nat × Int32 × Nat × Nat × am_H) → Option am_H} (hg : ∀ s r, g s = some r → Eqs s.2.2.2.2 r) {v0 : Nat} {v1 : Nat} {v2 : Int32} {h : am_H} {r : am_H} (hb : Table_copyHeaps_2_b g v0 v1 v2 h = some r) : Eqs h r := by
  unfold Table_copyHeaps_2_b at hb
  have w0 := Eqs.rf h
  obtain ⟨x1, e_x1, hb2⟩ := ob2 hb
  obtain ⟨x3, e_x3, hb4⟩ := ob2 hb2
  by_cases q : x3 ≤ v2
  · have hb5 := ip q hb4
    obtain rfl := Option.some.inj hb5
    exact w0
  · have hb6 := iq q hb4
    obtain ⟨x7, e_x7, hb8⟩ := ob2 hb6
    obtain ⟨x9, e_x9, hb10⟩ := ob2 hb8
    obtain ⟨x11, e_x11, hb12⟩ := ob2 hb10
    subst e_x11
    obtain ⟨x13, e_x13, hb14⟩ := ob2 hb12
    obtain ⟨x15, e_x15, hb16⟩ := ob2 hb14
    obtain ⟨x17, e_x17, hb18⟩ := ob2 hb16
    subst e_x17
    obtain ⟨h19, e_h19, hb20⟩ := ob2 hb18
    have w21 := w0.tr (Row_copy_q e_h19)
    exact w21.tr (hg _ _ hb20)
theorem Table_copyHeaps_2_Q : ∀ s r, fx Table_copyHeaps_2_F Table_copyHeaps_2_M s = some r → Eqs s.2.2.2.2 r := fx_ind Table_copyHeaps_2_M (fun s r => Eqs s.2.2.2.2 r) (fun g hg s r hb => by
  unfold Table_copyHeaps_2_F at hb
  by_cases q0 : s.1 = 2
  · exact Table_copyHeaps_2_r hg (ip q0 hb)
  · have hb0 := iq q0 hb
    exact nomatch hb0)
noncomputable def Table_copyHeaps_2 (v0 : Nat) (v1 : Nat) (v2 : Int32) (h : am_H) : Option am_H := fx Table_copyHeaps_2_F Table_copyHeaps_2_M (2, v2, v0, v1, h)
set_option maxHeartbeats 1000000 in
set_option maxRecDepth 100000 in
theorem Table_copyHeaps_2_e (v0 : Nat) (v1 : Nat) (v2 : Int32) (h : am_H) : Table_copyHeaps_2 v0 v1 v2 h = ((gR h 7 v0 6).bind fun x1 => (aL h x1).bind fun x3 => if x3 ≤ v2 then some h else (gR h 7 v0 6).bind fun x7 => (aN h 4 x7 v2).bind fun x9 => (x9).bind fun x11 => (gR h 7 v1 6).bind fun x13 => (aN h 4 x13 v2).bind fun x15 => (x15).bind fun x17 => (Row_copy x11 x17 h).bind fun h19 => Table_copyHeaps_2 v0 v1 (v2 + (1 : Int32)) h19) := (fx_eq Table_copyHeaps_2_M (2, v2, v0, v1, h)).trans (if_pos rfl)
theorem Table_copyHeaps_2_q {v0 : Nat} {v1 : Nat} {v2 : Int32} {h : am_H} {r : am_H} (hb : Table_copyHeaps_2 v0 v1 v2 h = some r) : Eqs h r := Table_copyHeaps_2_Q _ _ hb
theorem Table_copyHeaps_2_s {v0 : Nat} {v1 : Nat} {v2 : Int32} {h : am_H} {r : am_H} (hb : Table_copyHeaps_2 v0 v1 v2 h = some r) : Sx 2 mX7_copyHeaps 2 [.ref v0, .ref v1, .int v2] [] h none r := (Table_copyHeaps_2_T _ _ hb).1 rfl
set_option maxHeartbeats 1000000 in
set_option maxRecDepth 100000 in
noncomputable def Table_copyHeaps (v0 : Nat) (v1 : Nat) (h : am_H) : Option am_H := if isO h 7 v0 = true then Table_copyHeaps_2 v0 v1 (0 : Int32) h else none
set_option maxHeartbeats 1000000 in
set_option maxRecDepth 100000 in
theorem Table_copyHeaps_s {v0 : Nat} {v1 : Nat} {h : am_H} {r : am_H} (hb : Table_copyHeaps v0 v1 h = some r) : Sx 2 mX7_copyHeaps 0 (am_en [.ref v0, .ref v1] 3) [] h none r := by
  unfold Table_copyHeaps at hb
  have hb := (iz hb).2
  show Sx 2 mX7_copyHeaps 0 [.ref v0, .ref v1, .retAddr 0] [] h none r
  refine Sx.o (fun _ _ _ k => op_iconst (0 : Int32) dX7_copyHeaps_0 (by decide) k) ?_
  refine Sx.o (L' := [.ref v0, .ref v1, .int (0 : Int32)]) (fun _ _ _ k => ex_istore_n dX7_copyHeaps_1 (by decide) k) ?_
  exact Table_copyHeaps_2_s hb
set_option maxHeartbeats 1000000 in
set_option maxRecDepth 100000 in
theorem Table_copyHeaps_q {v0 : Nat} {v1 : Nat} {h : am_H} {r : am_H} (hb : Table_copyHeaps v0 v1 h = some r) : Eqs h r := by
  unfold Table_copyHeaps at hb
  have hb := (iz hb).2
  have w0 := Eqs.rf h
  exact w0.tr (Table_copyHeaps_2_q hb)
theorem Table_copyHeaps_o {v0 : Nat} {v1 : Nat} {h : am_H} {r : am_H} (hb : Table_copyHeaps v0 v1 h = some r) : isO h 7 v0 = true := by
  unfold Table_copyHeaps at hb
  exact (iz hb).1
set_option maxHeartbeats 1000000 in
set_option maxRecDepth 100000 in
noncomputable def Table_copy_85_b (g : (Nat × Int32 × Nat × Nat × am_H) → Option am_H) (v0 : Nat) (v1 : Nat) (v2 : Int32) (h : am_H) : Option am_H := (gR h 7 v0 9).bind fun x1 => (aL h x1).bind fun x3 => if x3 ≤ v2 then some h else (gR h 7 v0 9).bind fun x7 => (gR h 7 v1 9).bind fun x9 => (aN h 6 x9 v2).bind fun x11 => (sN h 6 x7 v2 x11).bind fun h13 => g (85, (v2 + (1 : Int32)), v0, v1, h13)
set_option maxHeartbeats 1000000 in
set_option maxRecDepth 100000 in
theorem Table_copy_85_m {g g2 : (Nat × Int32 × Nat × Nat × am_H) → Option am_H} (hg : ∀ s, Le (g s) (g2 s)) (v0 : Nat) (v1 : Nat) (v2 : Int32) (h : am_H) : Le (Table_copy_85_b g v0 v1 v2 h) (Table_copy_85_b g2 v0 v1 v2 h) := by unfold Table_copy_85_b; exact le_b (le_r _) fun x1 => le_b (le_r _) fun x3 => le_i (le_r _) (le_b (le_r _) fun x7 => le_b (le_r _) fun x9 => le_b (le_r _) fun x11 => le_b (le_r _) fun h13 => hg _)
noncomputable def Table_copy_85_F (g : (Nat × Int32 × Nat × Nat × am_H) → Option am_H) (s : (Nat × Int32 × Nat × Nat × am_H)) : Option am_H := if s.1 = 85 then Table_copy_85_b g s.2.2.1 s.2.2.2.1 s.2.1 s.2.2.2.2 else none
theorem Table_copy_85_M : Mn Table_copy_85_F := fun g g2 hg s => by unfold Table_copy_85_F; exact le_i (Table_copy_85_m hg s.2.2.1 s.2.2.2.1 s.2.1 s.2.2.2.2) (le_r _)
def Table_copy_85_P (s : (Nat × Int32 × Nat × Nat × am_H)) (r : am_H) : Prop := (s.1 = 85 → Sx 3 mX7_copy 85 [.ref s.2.2.1, .ref s.2.2.2.1, .int s.2.1] [] s.2.2.2.2 none r) ∧ True
set_option maxHeartbeats 1000000 in
set_option maxRecDepth 100000 in
theorem Table_copy_85_t {g : (Nat × Int32 × Nat × Nat × am_H) → Option am_H} (hg : ∀ s r, g s = some r → Table_copy_85_P s r) {v0 : Nat} {v1 : Nat} {v2 : Int32} {h : am_H} {r : am_H} (hb : Table_copy_85_b g v0 v1 v2 h = some r) : Sx 3 mX7_copy 85 [.ref v0, .ref v1, .int v2] [] h none r := by
  unfold Table_copy_85_b at hb
  refine Sx.o (fun _ _ _ k => ex_iload_n dX7_copy_85 rfl k) ?_
  refine Sx.o (fun _ _ _ k => ex_aload_n dX7_copy_86 rfl rfl k) ?_
  obtain ⟨x1, e_x1, hb2⟩ := ob2 hb
  refine Sx.o (fun _ _ _ k => op_getR fX7_33 dX7_copy_87 e_x1 k) ?_
  obtain ⟨x3, e_x3, hb4⟩ := ob2 hb2
  refine Sx.o (fun _ _ _ k => op_alen dX7_copy_90 e_x3 k) ?_
  refine Sx.b (fun _ _ _ k1 k2 => ex_icmp_ge 112 dX7_copy_91 (by decide) k1 k2) (fun q => ?_) (fun q => ?_)
  · have hb5 := ip q hb4
    obtain rfl := Option.some.inj hb5
    exact Sx.r (fun _ _ _ k => ex_vret rfl dX7_copy_112 k)
  · have hb6 := iq q hb4
    refine Sx.o (fun _ _ _ k => ex_aload_n dX7_copy_94 rfl rfl k) ?_
    obtain ⟨x7, e_x7, hb8⟩ := ob2 hb6
    refine Sx.o (fun _ _ _ k => op_getR fX7_33 dX7_copy_95 e_x7 k) ?_
    refine Sx.o (fun _ _ _ k => ex_iload_n dX7_copy_98 rfl k) ?_
    refine Sx.o (fun _ _ _ k => ex_aload_n dX7_copy_99 rfl rfl k) ?_
    obtain ⟨x9, e_x9, hb10⟩ := ob2 hb8
    refine Sx.o (fun _ _ _ k => op_getR fX7_33 dX7_copy_100 e_x9 k) ?_
    refine Sx.o (fun _ _ _ k => ex_iload_n dX7_copy_103 rfl k) ?_
    obtain ⟨x11, e_x11, hb12⟩ := ob2 hb10
    refine Sx.o (fun _ _ _ k => op_aald (Or.inr (Or.inr rfl)) dX7_copy_104 e_x11 k) ?_
    obtain ⟨h13, e_h13, hb14⟩ := ob2 hb12
    refine Sx.p (sN_q e_h13) (fun _ _ _ k => op_aast (w := x11) dX7_copy_105 e_h13 k) ?_
    refine Sx.o (L' := [.ref v0, .ref v1, .int (v2 + (1 : Int32))]) (fun _ _ _ k => op_iinc (1 : Int32) dX7_copy_106 (by decide) rfl (by decide) k) ?_
    refine Sx.o (fun _ _ _ k => ex_goto 85 dX7_copy_109 (by decide) k) ?_
    exact (hg _ _ hb14).1 rfl
theorem Table_copy_85_T : ∀ s r, fx Table_copy_85_F Table_copy_85_M s = some r → Table_copy_85_P s r := fx_ind Table_copy_85_M Table_copy_85_P (fun g hg s r hb => by
  unfold Table_copy_85_F at hb
  exact ⟨fun q => Table_copy_85_t hg (ip q hb), trivial⟩)
set_option maxHeartbeats 1000000 in
set_option maxRecDepth 100000 in
theorem Table_copy_85_r {g : (Nat × Int32 × Nat × Nat × am_H) → Option am_H} (hg : ∀ s r, g s = some r → Eqs s.2.2.2.2 r) {v0 : Nat} {v1 : Nat} {v2 : Int32} {h : am_H} {r : am_H} (hb : Table_copy_85_b g v0 v1 v2 h = some r) : Eqs h r := by
  unfold Table_copy_85_b at hb
  have w0 := Eqs.rf h
  obtain ⟨x1, e_x1, hb2⟩ := ob2 hb
  obtain ⟨x3, e_x3, hb4⟩ := ob2 hb2
  by_cases q : x3 ≤ v2
  · have hb5 := ip q hb4
    obtain rfl := Option.some.inj hb5
    exact w0
  · have hb6 := iq q hb4
    obtain ⟨x7, e_x7, hb8⟩ := ob2 hb6
    obtain ⟨x9, e_x9, hb10⟩ := ob2 hb8
    obtain ⟨x11, e_x11, hb12⟩ := ob2 hb10
    obtain ⟨h13, e_h13, hb14⟩ := ob2 hb12
    have w15 := w0.tr (sN_q e_h13)
    exact w15.tr (hg _ _ hb14)
theorem Table_copy_85_Q : ∀ s r, fx Table_copy_85_F Table_copy_85_M s = some r → Eqs s.2.2.2.2 r := fx_ind Table_copy_85_M (fun s r => Eqs s.2.2.2.2 r) (fun g hg s r hb => by
  unfold Table_copy_85_F at hb
  by_cases q0 : s.1 = 85
  · exact Table_copy_85_r hg (ip q0 hb)
  · have hb0 := iq q0 hb
    exact nomatch hb0)
noncomputable def Table_copy_85 (v0 : Nat) (v1 : Nat) (v2 : Int32) (h : am_H) : Option am_H := fx Table_copy_85_F Table_copy_85_M (85, v2, v0, v1, h)
set_option maxHeartbeats 1000000 in
set_option maxRecDepth 100000 in
theorem Table_copy_85_e (v0 : Nat) (v1 : Nat) (v2 : Int32) (h : am_H) : Table_copy_85 v0 v1 v2 h = ((gR h 7 v0 9).bind fun x1 => (aL h x1).bind fun x3 => if x3 ≤ v2 then some h else (gR h 7 v0 9).bind fun x7 => (gR h 7 v1 9).bind fun x9 => (aN h 6 x9 v2).bind fun x11 => (sN h 6 x7 v2 x11).bind fun h13 => Table_copy_85 v0 v1 (v2 + (1 : Int32)) h13) := (fx_eq Table_copy_85_M (85, v2, v0, v1, h)).trans (if_pos rfl)
theorem Table_copy_85_q {v0 : Nat} {v1 : Nat} {v2 : Int32} {h : am_H} {r : am_H} (hb : Table_copy_85 v0 v1 v2 h = some r) : Eqs h r := Table_copy_85_Q _ _ hb
theorem Table_copy_85_s {v0 : Nat} {v1 : Nat} {v2 : Int32} {h : am_H} {r : am_H} (hb : Table_copy_85 v0 v1 v2 h = some r) : Sx 3 mX7_copy 85 [.ref v0, .ref v1, .int v2] [] h none r := (Table_copy_85_T _ _ hb).1 rfl
set_option maxHeartbeats 1000000 in
set_option maxRecDepth 100000 in
noncomputable def Table_copy (v0 : Nat) (v1 : Nat) (h : am_H) : Option am_H := if isO h 7 v0 = true then (gI h 7 v1 0).bind fun x16 => (pV h 7 v0 0 (.int x16)).bind fun h18 => (gI h18 7 v1 1).bind fun x21 => (pV h18 7 v0 1 (.int x21)).bind fun h23 => (gI h23 7 v1 2).bind fun x26 => (pV h23 7 v0 2 (.int x26)).bind fun h28 => (gI h28 7 v1 3).bind fun x31 => (pV h28 7 v0 3 (.int x31)).bind fun h33 => (gI h33 7 v1 4).bind fun x36 => (pV h33 7 v0 4 (.int x36)).bind fun h38 => (gI h38 7 v1 5).bind fun x41 => (pV h38 7 v0 5 (.int x41)).bind fun h43 => (Table_copyHeaps v0 v1 h43).bind fun h46 => (gR h46 7 v1 7).bind fun x49 => (gR h46 7 v0 7).bind fun x51 => (cpy h46 x49 (0 : Int32) x51 (0 : Int32) (8 : Int32)).bind fun h53 => (gR h53 7 v1 8).bind fun x56 => (gR h53 7 v0 8).bind fun x58 => (cpy h53 x56 (0 : Int32) x58 (0 : Int32) (8 : Int32)).bind fun h60 => Table_copy_85 v0 v1 (0 : Int32) h60 else none
set_option maxHeartbeats 1000000 in
set_option maxRecDepth 100000 in
theorem Table_copy_s {v0 : Nat} {v1 : Nat} {h : am_H} {r : am_H} (hb : Table_copy v0 v1 h = some r) : Sx 3 mX7_copy 0 (am_en [.ref v0, .ref v1] 3) [] h none r := by
  unfold Table_copy at hb
  have hb := (iz hb).2
  show Sx 3 mX7_copy 0 [.ref v0, .ref v1, .retAddr 0] [] h none r
  refine Sx.o (fun _ _ _ k => ex_aload_n dX7_copy_0 rfl rfl k) ?_
  refine Sx.o (fun _ _ _ k => ex_aload_n dX7_copy_1 rfl rfl k) ?_
  obtain ⟨x16, e_x16, hb17⟩ := ob2 hb
  refine Sx.o (fun _ _ _ k => op_getI fX7_38 dX7_copy_2 e_x16 k) ?_
  obtain ⟨h18, e_h18, hb19⟩ := ob2 hb17
  refine Sx.p (pV_q e_h18) (fun _ _ _ k => op_put pX7_38 dX7_copy_5 e_h18 (fun _ => rfl) (fun _ => rfl) k) ?_
  refine Sx.o (fun _ _ _ k => ex_aload_n dX7_copy_8 rfl rfl k) ?_
  refine Sx.o (fun _ _ _ k => ex_aload_n dX7_copy_9 rfl rfl k) ?_
  obtain ⟨x21, e_x21, hb22⟩ := ob2 hb19
  refine Sx.o (fun _ _ _ k => op_getI fX7_41 dX7_copy_10 e_x21 k) ?_
  obtain ⟨h23, e_h23, hb24⟩ := ob2 hb22
  refine Sx.p (pV_q e_h23) (fun _ _ _ k => op_put pX7_41 dX7_copy_13 e_h23 (fun _ => rfl) (fun _ => rfl) k) ?_
  refine Sx.o (fun _ _ _ k => ex_aload_n dX7_copy_16 rfl rfl k) ?_
  refine Sx.o (fun _ _ _ k => ex_aload_n dX7_copy_17 rfl rfl k) ?_
  obtain ⟨x26, e_x26, hb27⟩ := ob2 hb24
  refine Sx.o (fun _ _ _ k => op_getI fX7_44 dX7_copy_18 e_x26 k) ?_
  obtain ⟨h28, e_h28, hb29⟩ := ob2 hb27
  refine Sx.p (pV_q e_h28) (fun _ _ _ k => op_put pX7_44 dX7_copy_21 e_h28 (fun _ => rfl) (fun _ => rfl) k) ?_
  refine Sx.o (fun _ _ _ k => ex_aload_n dX7_copy_24 rfl rfl k) ?_
  refine Sx.o (fun _ _ _ k => ex_aload_n dX7_copy_25 rfl rfl k) ?_
  obtain ⟨x31, e_x31, hb32⟩ := ob2 hb29
  refine Sx.o (fun _ _ _ k => op_getI fX7_9 dX7_copy_26 e_x31 k) ?_
  obtain ⟨h33, e_h33, hb34⟩ := ob2 hb32
  refine Sx.p (pV_q e_h33) (fun _ _ _ k => op_put pX7_9 dX7_copy_29 e_h33 (fun _ => rfl) (fun _ => rfl) k) ?_
  refine Sx.o (fun _ _ _ k => ex_aload_n dX7_copy_32 rfl rfl k) ?_
  refine Sx.o (fun _ _ _ k => ex_aload_n dX7_copy_33 rfl rfl k) ?_
  obtain ⟨x36, e_x36, hb37⟩ := ob2 hb34
  refine Sx.o (fun _ _ _ k => op_getI fX7_47 dX7_copy_34 e_x36 k) ?_
  obtain ⟨h38, e_h38, hb39⟩ := ob2 hb37
  refine Sx.p (pV_q e_h38) (fun _ _ _ k => op_put pX7_47 dX7_copy_37 e_h38 (fun _ => rfl) (fun _ => rfl) k) ?_
  refine Sx.o (fun _ _ _ k => ex_aload_n dX7_copy_40 rfl rfl k) ?_
  refine Sx.o (fun _ _ _ k => ex_aload_n dX7_copy_41 rfl rfl k) ?_
  obtain ⟨x41, e_x41, hb42⟩ := ob2 hb39
  refine Sx.o (fun _ _ _ k => op_getI fX7_15 dX7_copy_42 e_x41 k) ?_
  obtain ⟨h43, e_h43, hb44⟩ := ob2 hb42
  refine Sx.p (pV_q e_h43) (fun _ _ _ k => op_put pX7_15 dX7_copy_45 e_h43 (fun _ => rfl) (fun _ => rfl) k) ?_
  refine Sx.o (fun _ _ _ k => ex_aload_n dX7_copy_48 rfl rfl k) ?_
  refine Sx.o (fun _ _ _ k => ex_aload_n dX7_copy_49 rfl rfl k) ?_
  obtain ⟨h46, e_h46, hb47⟩ := ob2 hb44
  refine sx_callV (dc := 2) (as := [.ref v1]) (stq := []) (by omega) dX7_copy_50 MX7_copyHeaps kX7_50 iX7_copyHeaps sX7_copyHeaps rfl rfl (Table_copyHeaps_o e_h46) rfl rfl (Nat.le_of_ble_eq_true rfl) (Nat.le_of_ble_eq_true rfl) (Table_copyHeaps_s e_h46) rfl ?_
  refine Sx.o (fun _ _ _ k => ex_aload_n dX7_copy_53 rfl rfl k) ?_
  obtain ⟨x49, e_x49, hb50⟩ := ob2 hb47
  refine Sx.o (fun _ _ _ k => op_getR fX7_24 dX7_copy_54 e_x49 k) ?_
  refine Sx.o (fun _ _ _ k => op_iconst (0 : Int32) dX7_copy_57 (by decide) k) ?_
  refine Sx.o (fun _ _ _ k => ex_aload_n dX7_copy_58 rfl rfl k) ?_
  obtain ⟨x51, e_x51, hb52⟩ := ob2 hb50
  refine Sx.o (fun _ _ _ k => op_getR fX7_24 dX7_copy_59 e_x51 k) ?_
  refine Sx.o (fun _ _ _ k => op_iconst (0 : Int32) dX7_copy_62 (by decide) k) ?_
  refine Sx.o (fun _ _ _ k => op_bipush (8 : Int32) dX7_copy_63 (by decide) k) ?_
  obtain ⟨h53, e_h53, hb54⟩ := ob2 hb52
  refine Sx.p (cpy_q e_h53) (fun _ _ _ k => op_cpy (by omega) dX7_copy_65 kX7_54 (Nat.le_of_ble_eq_true rfl) e_h53 k) ?_
  refine Sx.o (fun _ _ _ k => ex_aload_n dX7_copy_68 rfl rfl k) ?_
  obtain ⟨x56, e_x56, hb57⟩ := ob2 hb54
  refine Sx.o (fun _ _ _ k => op_getR fX7_28 dX7_copy_69 e_x56 k) ?_
  refine Sx.o (fun _ _ _ k => op_iconst (0 : Int32) dX7_copy_72 (by decide) k) ?_
  refine Sx.o (fun _ _ _ k => ex_aload_n dX7_copy_73 rfl rfl k) ?_
  obtain ⟨x58, e_x58, hb59⟩ := ob2 hb57
  refine Sx.o (fun _ _ _ k => op_getR fX7_28 dX7_copy_74 e_x58 k) ?_
  refine Sx.o (fun _ _ _ k => op_iconst (0 : Int32) dX7_copy_77 (by decide) k) ?_
  refine Sx.o (fun _ _ _ k => op_bipush (8 : Int32) dX7_copy_78 (by decide) k) ?_
  obtain ⟨h60, e_h60, hb61⟩ := ob2 hb59
  refine Sx.p (cpy_q e_h60) (fun _ _ _ k => op_cpy (by omega) dX7_copy_80 kX7_54 (Nat.le_of_ble_eq_true rfl) e_h60 k) ?_
  refine Sx.o (fun _ _ _ k => op_iconst (0 : Int32) dX7_copy_83 (by decide) k) ?_
  refine Sx.o (L' := [.ref v0, .ref v1, .int (0 : Int32)]) (fun _ _ _ k => ex_istore_n dX7_copy_84 (by decide) k) ?_
  exact Table_copy_85_s hb61
set_option maxHeartbeats 1000000 in
set_option maxRecDepth 100000 in
theorem Table_copy_q {v0 : Nat} {v1 : Nat} {h : am_H} {r : am_H} (hb : Table_copy v0 v1 h = some r) : Eqs h r := by
  unfold Table_copy at hb
  have hb := (iz hb).2
  have w0 := Eqs.rf h
  obtain ⟨x16, e_x16, hb17⟩ := ob2 hb
  obtain ⟨h18, e_h18, hb19⟩ := ob2 hb17
  have w20 := w0.tr (pV_q e_h18)
  obtain ⟨x21, e_x21, hb22⟩ := ob2 hb19
  obtain ⟨h23, e_h23, hb24⟩ := ob2 hb22
  have w25 := w20.tr (pV_q e_h23)
  obtain ⟨x26, e_x26, hb27⟩ := ob2 hb24
  obtain ⟨h28, e_h28, hb29⟩ := ob2 hb27
  have w30 := w25.tr (pV_q e_h28)
  obtain ⟨x31, e_x31, hb32⟩ := ob2 hb29
  obtain ⟨h33, e_h33, hb34⟩ := ob2 hb32
  have w35 := w30.tr (pV_q e_h33)
  obtain ⟨x36, e_x36, hb37⟩ := ob2 hb34
  obtain ⟨h38, e_h38, hb39⟩ := ob2 hb37
  have w40 := w35.tr (pV_q e_h38)
  obtain ⟨x41, e_x41, hb42⟩ := ob2 hb39
  obtain ⟨h43, e_h43, hb44⟩ := ob2 hb42
  have w45 := w40.tr (pV_q e_h43)
  obtain ⟨h46, e_h46, hb47⟩ := ob2 hb44
  have w48 := w45.tr (Table_copyHeaps_q e_h46)
  obtain ⟨x49, e_x49, hb50⟩ := ob2 hb47
  obtain ⟨x51, e_x51, hb52⟩ := ob2 hb50
  obtain ⟨h53, e_h53, hb54⟩ := ob2 hb52
  have w55 := w48.tr (cpy_q e_h53)
  obtain ⟨x56, e_x56, hb57⟩ := ob2 hb54
  obtain ⟨x58, e_x58, hb59⟩ := ob2 hb57
  obtain ⟨h60, e_h60, hb61⟩ := ob2 hb59
  have w62 := w55.tr (cpy_q e_h60)
  exact w62.tr (Table_copy_85_q hb61)
theorem Table_copy_o {v0 : Nat} {v1 : Nat} {h : am_H} {r : am_H} (hb : Table_copy v0 v1 h = some r) : isO h 7 v0 = true := by
  unfold Table_copy at hb
  exact (iz hb).1
set_option maxHeartbeats 1000000 in
set_option maxRecDepth 100000 in
noncomputable def Table_addHeap_46_b (g : (Nat × Int32 × Nat × Nat × Nat × am_H) → Option (Int32 × am_H)) (v0 : Nat) (v1 : Nat) (v3 : Nat) (v4 : Int32) (h : am_H) : Option (Int32 × am_H) := (gI h 4 v3 1).bind fun x1 => if x1 ≤ v4 then (pV h 4 v3 2 (.int (0 : Int32))).bind fun h5 => (pV h5 4 v3 3 (.int (0 : Int32))).bind fun h8 => (gI h8 7 v0 0).bind fun x11 => (pV h8 4 v3 4 (.int x11)).bind fun h13 => (gI h13 7 v0 0).bind fun x16 => (pV h13 7 v0 0 (.int (x16 + (1 : Int32)))).bind fun h18 => (gI h18 4 v3 4).bind fun x21 => some (x21, h18) else (gR h 4 v3 0).bind fun x23 => (aI h 1 v1 v4).bind fun x25 => (sI h x23 v4 x25).bind fun h27 => g (46, (v4 + (1 : Int32)), v0, v1, v3, h27)
set_option maxHeartbeats 1000000 in
set_option maxRecDepth 100000 in
theorem Table_addHeap_46_m {g g2 : (Nat × Int32 × Nat × Nat × Nat × am_H) → Option (Int32 × am_H)} (hg : ∀ s, Le (g s) (g2 s)) (v0 : Nat) (v1 : Nat) (v3 : Nat) (v4 : Int32) (h : am_H) : Le (Table_addHeap_46_b g v0 v1 v3 v4 h) (Table_addHeap_46_b g2 v0 v1 v3 v4 h) := by unfold Table_addHeap_46_b; exact le_b (le_r _) fun x1 => le_i (le_r _) (le_b (le_r _) fun x23 => le_b (le_r _) fun x25 => le_b (le_r _) fun h27 => hg _)
noncomputable def Table_addHeap_46_F (g : (Nat × Int32 × Nat × Nat × Nat × am_H) → Option (Int32 × am_H)) (s : (Nat × Int32 × Nat × Nat × Nat × am_H)) : Option (Int32 × am_H) := if s.1 = 46 then Table_addHeap_46_b g s.2.2.1 s.2.2.2.1 s.2.2.2.2.1 s.2.1 s.2.2.2.2.2 else none
theorem Table_addHeap_46_M : Mn Table_addHeap_46_F := fun g g2 hg s => by unfold Table_addHeap_46_F; exact le_i (Table_addHeap_46_m hg s.2.2.1 s.2.2.2.1 s.2.2.2.2.1 s.2.1 s.2.2.2.2.2) (le_r _)
def Table_addHeap_46_P (s : (Nat × Int32 × Nat × Nat × Nat × am_H)) (r : (Int32 × am_H)) : Prop := (s.1 = 46 → Sx 1 mX7_addHeap 46 [.ref s.2.2.1, .ref s.2.2.2.1, .retAddr 0, .ref s.2.2.2.2.1, .int s.2.1] [] s.2.2.2.2.2 (some (.int r.1)) r.2) ∧ True
set_option maxHeartbeats 1000000 in
set_option maxRecDepth 100000 in
theorem Table_addHeap_46_t {g : (Nat × Int32 × Nat × Nat × Nat × am_H) → Option (Int32 × am_H)} (hg : ∀ s r, g s = some r → Table_addHeap_46_P s r) {v0 : Nat} {v1 : Nat} {v3 : Nat} {v4 : Int32} {h : am_H} {r : (Int32 × am_H)} (hb : Table_addHeap_46_b g v0 v1 v3 v4 h = some r) : Sx 1 mX7_addHeap 46 [.ref v0, .ref v1, .retAddr 0, .ref v3, .int v4] [] h (some (.int r.1)) r.2 := by
  unfold Table_addHeap_46_b at hb
  refine Sx.o (fun _ _ _ k => ex_iload dX7_addHeap_46 rfl k) ?_
  refine Sx.o (fun _ _ _ k => ex_aload_n dX7_addHeap_48 rfl rfl k) ?_
  obtain ⟨x1, e_x1, hb2⟩ := ob2 hb
  refine Sx.o (fun _ _ _ k => op_getI fX7_73 dX7_addHeap_49 e_x1 k) ?_
  refine Sx.b (fun _ _ _ k1 k2 => ex_icmp_ge 72 dX7_addHeap_52 (by decide) k1 k2) (fun q => ?_) (fun q => ?_)
  · have hb3 := ip q hb2
    refine Sx.o (fun _ _ _ k => ex_aload_n dX7_addHeap_72 rfl rfl k) ?_
    refine Sx.o (fun _ _ _ k => op_iconst (0 : Int32) dX7_addHeap_73 (by decide) k) ?_
    obtain ⟨h5, e_h5, hb6⟩ := ob2 hb3
    refine Sx.p (pV_q e_h5) (fun _ _ _ k => op_put pX7_77 dX7_addHeap_74 e_h5 (fun _ => rfl) (fun _ => rfl) k) ?_
    refine Sx.o (fun _ _ _ k => ex_aload_n dX7_addHeap_77 rfl rfl k) ?_
    refine Sx.o (fun _ _ _ k => op_iconst (0 : Int32) dX7_addHeap_78 (by decide) k) ?_
    obtain ⟨h8, e_h8, hb9⟩ := ob2 hb6
    refine Sx.p (pV_q e_h8) (fun _ _ _ k => op_put pX7_80 dX7_addHeap_79 e_h8 (fun _ => rfl) (fun _ => rfl) k) ?_
    refine Sx.o (fun _ _ _ k => ex_aload_n dX7_addHeap_82 rfl rfl k) ?_
    refine Sx.o (fun _ _ _ k => ex_aload_n dX7_addHeap_83 rfl rfl k) ?_
    obtain ⟨x11, e_x11, hb12⟩ := ob2 hb9
    refine Sx.o (fun _ _ _ k => op_getI fX7_38 dX7_addHeap_84 e_x11 k) ?_
    obtain ⟨h13, e_h13, hb14⟩ := ob2 hb12
    refine Sx.p (pV_q e_h13) (fun _ _ _ k => op_put pX7_83 dX7_addHeap_87 e_h13 (fun _ => rfl) (fun _ => rfl) k) ?_
    refine Sx.o (fun _ _ _ k => ex_aload_n dX7_addHeap_90 rfl rfl k) ?_
    refine Sx.o (fun _ _ _ k => ex_dup dX7_addHeap_91 rfl k) ?_
    obtain ⟨x16, e_x16, hb17⟩ := ob2 hb14
    refine Sx.o (fun _ _ _ k => op_getI fX7_38 dX7_addHeap_92 e_x16 k) ?_
    refine Sx.o (fun _ _ _ k => op_iconst (1 : Int32) dX7_addHeap_95 (by decide) k) ?_
    refine Sx.o (fun _ _ _ k => ex_iadd dX7_addHeap_96 k) ?_
    obtain ⟨h18, e_h18, hb19⟩ := ob2 hb17
    refine Sx.p (pV_q e_h18) (fun _ _ _ k => op_put pX7_38 dX7_addHeap_97 e_h18 (fun _ => rfl) (fun _ => rfl) k) ?_
    refine Sx.o (fun _ _ _ k => ex_aload_n dX7_addHeap_100 rfl rfl k) ?_
    obtain ⟨x21, e_x21, hb22⟩ := ob2 hb19
    refine Sx.o (fun _ _ _ k => op_getI fX7_83 dX7_addHeap_101 e_x21 k) ?_
    obtain rfl := Option.some.inj hb22
    exact Sx.r (fun _ _ _ k => ex_iret rfl dX7_addHeap_104 k)
  · have hb4 := iq q hb2
    refine Sx.o (fun _ _ _ k => ex_aload_n dX7_addHeap_55 rfl rfl k) ?_
    obtain ⟨x23, e_x23, hb24⟩ := ob2 hb4
    refine Sx.o (fun _ _ _ k => op_getR fX7_74 dX7_addHeap_56 e_x23 k) ?_
    refine Sx.o (fun _ _ _ k => ex_iload dX7_addHeap_59 rfl k) ?_
    refine Sx.o (fun _ _ _ k => ex_aload_n dX7_addHeap_61 rfl rfl k) ?_
    refine Sx.o (fun _ _ _ k => ex_iload dX7_addHeap_62 rfl k) ?_
    obtain ⟨x25, e_x25, hb26⟩ := ob2 hb24
    refine Sx.o (fun _ _ _ k => op_bald dX7_addHeap_64 e_x25 k) ?_
    obtain ⟨h27, e_h27, hb28⟩ := ob2 hb26
    refine Sx.p (sI_q e_h27) (fun _ _ _ k => op_iast dX7_addHeap_65 e_h27 k) ?_
    refine Sx.o (L' := [.ref v0, .ref v1, .retAddr 0, .ref v3, .int (v4 + (1 : Int32))]) (fun _ _ _ k => op_iinc (1 : Int32) dX7_addHeap_66 (by decide) rfl (by decide) k) ?_
    refine Sx.o (fun _ _ _ k => ex_goto 46 dX7_addHeap_69 (by decide) k) ?_
    exact (hg _ _ hb28).1 rfl
theorem Table_addHeap_46_T : ∀ s r, fx Table_addHeap_46_F Table_addHeap_46_M s = some r → Table_addHeap_46_P s r := fx_ind Table_addHeap_46_M Table_addHeap_46_P (fun g hg s r hb => by
  unfold Table_addHeap_46_F at hb
  exact ⟨fun q => Table_addHeap_46_t hg (ip q hb), trivial⟩)
set_option maxHeartbeats 1000000 in
set_option maxRecDepth 100000 in
theorem Table_addHeap_46_r {g : (Nat × Int32 × Nat × Nat × Nat × am_H) → Option (Int32 × am_H)} (hg : ∀ s r, g s = some r → Eqs s.2.2.2.2.2 r.2) {v0 : Nat} {v1 : Nat} {v3 : Nat} {v4 : Int32} {h : am_H} {r : (Int32 × am_H)} (hb : Table_addHeap_46_b g v0 v1 v3 v4 h = some r) : Eqs h r.2 := by
  unfold Table_addHeap_46_b at hb
  have w0 := Eqs.rf h
  obtain ⟨x1, e_x1, hb2⟩ := ob2 hb
  by_cases q : x1 ≤ v4
  · have hb3 := ip q hb2
    obtain ⟨h5, e_h5, hb6⟩ := ob2 hb3
    have w7 := w0.tr (pV_q e_h5)
    obtain ⟨h8, e_h8, hb9⟩ := ob2 hb6
    have w10 := w7.tr (pV_q e_h8)
    obtain ⟨x11, e_x11, hb12⟩ := ob2 hb9
    obtain ⟨h13, e_h13, hb14⟩ := ob2 hb12
    have w15 := w10.tr (pV_q e_h13)
    obtain ⟨x16, e_x16, hb17⟩ := ob2 hb14
    obtain ⟨h18, e_h18, hb19⟩ := ob2 hb17
    have w20 := w15.tr (pV_q e_h18)
    obtain ⟨x21, e_x21, hb22⟩ := ob2 hb19
    obtain rfl := Option.some.inj hb22
    exact w20
  · have hb4 := iq q hb2
    obtain ⟨x23, e_x23, hb24⟩ := ob2 hb4
    obtain ⟨x25, e_x25, hb26⟩ := ob2 hb24
    obtain ⟨h27, e_h27, hb28⟩ := ob2 hb26
    have w29 := w0.tr (sI_q e_h27)
    exact w29.tr (hg _ _ hb28)
theorem Table_addHeap_46_Q : ∀ s r, fx Table_addHeap_46_F Table_addHeap_46_M s = some r → Eqs s.2.2.2.2.2 r.2 := fx_ind Table_addHeap_46_M (fun s r => Eqs s.2.2.2.2.2 r.2) (fun g hg s r hb => by
  unfold Table_addHeap_46_F at hb
  by_cases q0 : s.1 = 46
  · exact Table_addHeap_46_r hg (ip q0 hb)
  · have hb0 := iq q0 hb
    exact nomatch hb0)
noncomputable def Table_addHeap_46 (v0 : Nat) (v1 : Nat) (v3 : Nat) (v4 : Int32) (h : am_H) : Option (Int32 × am_H) := fx Table_addHeap_46_F Table_addHeap_46_M (46, v4, v0, v1, v3, h)
set_option maxHeartbeats 1000000 in
set_option maxRecDepth 100000 in
theorem Table_addHeap_46_e (v0 : Nat) (v1 : Nat) (v3 : Nat) (v4 : Int32) (h : am_H) : Table_addHeap_46 v0 v1 v3 v4 h = ((gI h 4 v3 1).bind fun x1 => if x1 ≤ v4 then (pV h 4 v3 2 (.int (0 : Int32))).bind fun h5 => (pV h5 4 v3 3 (.int (0 : Int32))).bind fun h8 => (gI h8 7 v0 0).bind fun x11 => (pV h8 4 v3 4 (.int x11)).bind fun h13 => (gI h13 7 v0 0).bind fun x16 => (pV h13 7 v0 0 (.int (x16 + (1 : Int32)))).bind fun h18 => (gI h18 4 v3 4).bind fun x21 => some (x21, h18) else (gR h 4 v3 0).bind fun x23 => (aI h 1 v1 v4).bind fun x25 => (sI h x23 v4 x25).bind fun h27 => Table_addHeap_46 v0 v1 v3 (v4 + (1 : Int32)) h27) := (fx_eq Table_addHeap_46_M (46, v4, v0, v1, v3, h)).trans (if_pos rfl)
theorem Table_addHeap_46_q {v0 : Nat} {v1 : Nat} {v3 : Nat} {v4 : Int32} {h : am_H} {r : (Int32 × am_H)} (hb : Table_addHeap_46 v0 v1 v3 v4 h = some r) : Eqs h r.2 := Table_addHeap_46_Q _ _ hb
theorem Table_addHeap_46_s {v0 : Nat} {v1 : Nat} {v3 : Nat} {v4 : Int32} {h : am_H} {r : (Int32 × am_H)} (hb : Table_addHeap_46 v0 v1 v3 v4 h = some r) : Sx 1 mX7_addHeap 46 [.ref v0, .ref v1, .retAddr 0, .ref v3, .int v4] [] h (some (.int r.1)) r.2 := (Table_addHeap_46_T _ _ hb).1 rfl
set_option maxHeartbeats 1000000 in
set_option maxRecDepth 100000 in
noncomputable def Table_addHeap (v0 : Nat) (v1 : Nat) (v2 : Int32) (h : am_H) : Option (Int32 × am_H) := if isO h 7 v0 = true then (gI h 7 v0 0).bind fun x30 => (gR h 7 v0 6).bind fun x32 => (aL h x32).bind fun x34 => if x30 < x34 then (gR h 7 v0 6).bind fun x38 => (gI h 7 v0 0).bind fun x40 => (aN h 4 x38 x40).bind fun x42 => (x42).bind fun x44 => (aL h v1).bind fun x46 => (pV h 4 x44 1 (.int (if (0 : Int32) < (if (if x46 < (13 : Int32) then x46 else (13 : Int32)) < v2 then (if x46 < (13 : Int32) then x46 else (13 : Int32)) else v2) then (if (if x46 < (13 : Int32) then x46 else (13 : Int32)) < v2 then (if x46 < (13 : Int32) then x46 else (13 : Int32)) else v2) else (0 : Int32)))).bind fun h48 => Table_addHeap_46 v0 v1 x44 (0 : Int32) h48 else some ((-1 : Int32), h) else none
set_option maxHeartbeats 1000000 in
set_option maxRecDepth 100000 in
theorem Table_addHeap_s {v0 : Nat} {v1 : Nat} {v2 : Int32} {h : am_H} {r : (Int32 × am_H)} (hb : Table_addHeap v0 v1 v2 h = some r) : Sx 1 mX7_addHeap 0 (am_en [.ref v0, .ref v1, .int v2] 5) [] h (some (.int r.1)) r.2 := by
  unfold Table_addHeap at hb
  have hb := (iz hb).2
  show Sx 1 mX7_addHeap 0 [.ref v0, .ref v1, .int v2, .retAddr 0, .retAddr 0] [] h (some (.int r.1)) r.2
  refine Sx.o (fun _ _ _ k => ex_aload_n dX7_addHeap_0 rfl rfl k) ?_
  obtain ⟨x30, e_x30, hb31⟩ := ob2 hb
  refine Sx.o (fun _ _ _ k => op_getI fX7_38 dX7_addHeap_1 e_x30 k) ?_
  refine Sx.o (fun _ _ _ k => ex_aload_n dX7_addHeap_4 rfl rfl k) ?_
  obtain ⟨x32, e_x32, hb33⟩ := ob2 hb31
  refine Sx.o (fun _ _ _ k => op_getR fX7_20 dX7_addHeap_5 e_x32 k) ?_
  obtain ⟨x34, e_x34, hb35⟩ := ob2 hb33
  refine Sx.o (fun _ _ _ k => op_alen dX7_addHeap_8 e_x34 k) ?_
  refine Sx.b (fun _ _ _ k1 k2 => ex_icmp_lt 14 dX7_addHeap_9 (by decide) k1 k2) (fun q => ?_) (fun q => ?_)
  · have hb36 := ip q hb35
    refine Sx.o (fun _ _ _ k => ex_aload_n dX7_addHeap_14 rfl rfl k) ?_
    obtain ⟨x38, e_x38, hb39⟩ := ob2 hb36
    refine Sx.o (fun _ _ _ k => op_getR fX7_20 dX7_addHeap_15 e_x38 k) ?_
    refine Sx.o (fun _ _ _ k => ex_aload_n dX7_addHeap_18 rfl rfl k) ?_
    obtain ⟨x40, e_x40, hb41⟩ := ob2 hb39
    refine Sx.o (fun _ _ _ k => op_getI fX7_38 dX7_addHeap_19 e_x40 k) ?_
    obtain ⟨x42, e_x42, hb43⟩ := ob2 hb41
    refine Sx.o (fun _ _ _ k => op_aald (Or.inl rfl) dX7_addHeap_22 e_x42 k) ?_
    obtain ⟨x44, e_x44, hb45⟩ := ob2 hb43
    subst e_x44
    refine Sx.o (L' := [.ref v0, .ref v1, .int v2, .ref x44, .retAddr 0]) (fun _ _ _ k => ex_astore_n dX7_addHeap_23 rfl (by decide) k) ?_
    refine Sx.o (fun _ _ _ k => ex_aload_n dX7_addHeap_24 rfl rfl k) ?_
    refine Sx.o (fun _ _ _ k => op_iconst (0 : Int32) dX7_addHeap_25 (by decide) k) ?_
    refine Sx.o (fun _ _ _ k => ex_iload_n dX7_addHeap_26 rfl k) ?_
    refine Sx.o (fun _ _ _ k => op_bipush (13 : Int32) dX7_addHeap_27 (by decide) k) ?_
    refine Sx.o (fun _ _ _ k => ex_aload_n dX7_addHeap_29 rfl rfl k) ?_
    obtain ⟨x46, e_x46, hb47⟩ := ob2 hb45
    refine Sx.o (fun _ _ _ k => op_alen dX7_addHeap_30 e_x46 k) ?_
    refine Sx.o (fun _ _ _ k => op_mmin (by omega) dX7_addHeap_31 kX7_64 (Nat.le_of_ble_eq_true rfl) k) ?_
    refine Sx.o (fun _ _ _ k => op_mmin (by omega) dX7_addHeap_34 kX7_64 (Nat.le_of_ble_eq_true rfl) k) ?_
    refine Sx.o (fun _ _ _ k => op_mmax (by omega) dX7_addHeap_37 kX7_70 (Nat.le_of_ble_eq_true rfl) k) ?_
    obtain ⟨h48, e_h48, hb49⟩ := ob2 hb47
    refine Sx.p (pV_q e_h48) (fun _ _ _ k => op_put pX7_73 dX7_addHeap_40 e_h48 (fun _ => rfl) (fun _ => rfl) k) ?_
    refine Sx.o (fun _ _ _ k => op_iconst (0 : Int32) dX7_addHeap_43 (by decide) k) ?_
    refine Sx.o (L' := [.ref v0, .ref v1, .int v2, .ref x44, .int (0 : Int32)]) (fun _ _ _ k => ex_istore dX7_addHeap_44 (by decide) k) ?_
    refine Sx.fg [true, true, false, true, true] ?_
    exact Table_addHeap_46_s hb49
  · have hb37 := iq q hb35
    refine Sx.o (fun _ _ _ k => op_iconst (-1 : Int32) dX7_addHeap_12 (by decide) k) ?_
    obtain rfl := Option.some.inj hb37
    exact Sx.r (fun _ _ _ k => ex_iret rfl dX7_addHeap_13 k)
set_option maxHeartbeats 1000000 in
set_option maxRecDepth 100000 in
theorem Table_addHeap_q {v0 : Nat} {v1 : Nat} {v2 : Int32} {h : am_H} {r : (Int32 × am_H)} (hb : Table_addHeap v0 v1 v2 h = some r) : Eqs h r.2 := by
  unfold Table_addHeap at hb
  have hb := (iz hb).2
  have w0 := Eqs.rf h
  obtain ⟨x30, e_x30, hb31⟩ := ob2 hb
  obtain ⟨x32, e_x32, hb33⟩ := ob2 hb31
  obtain ⟨x34, e_x34, hb35⟩ := ob2 hb33
  by_cases q : x30 < x34
  · have hb36 := ip q hb35
    obtain ⟨x38, e_x38, hb39⟩ := ob2 hb36
    obtain ⟨x40, e_x40, hb41⟩ := ob2 hb39
    obtain ⟨x42, e_x42, hb43⟩ := ob2 hb41
    obtain ⟨x44, e_x44, hb45⟩ := ob2 hb43
    subst e_x44
    obtain ⟨x46, e_x46, hb47⟩ := ob2 hb45
    obtain ⟨h48, e_h48, hb49⟩ := ob2 hb47
    have w50 := w0.tr (pV_q e_h48)
    exact w50.tr (Table_addHeap_46_q hb49)
  · have hb37 := iq q hb35
    obtain rfl := Option.some.inj hb37
    exact w0
theorem Table_addHeap_o {v0 : Nat} {v1 : Nat} {v2 : Int32} {h : am_H} {r : (Int32 × am_H)} (hb : Table_addHeap v0 v1 v2 h = some r) : isO h 7 v0 = true := by
  unfold Table_addHeap at hb
  exact (iz hb).1
set_option maxHeartbeats 1000000 in
set_option maxRecDepth 100000 in
noncomputable def Table_init_52_b (g : (Nat × Int32 × Nat × am_H) → Option am_H) (v0 : Nat) (v1 : Int32) (h : am_H) : Option am_H := (gR h 7 v0 6).bind fun x1 => (aL h x1).bind fun x3 => if x3 ≤ v1 then some h else (gR h 7 v0 6).bind fun x7 => (some (h ++ [.inr (4, [.null, .int 0, .int 0, .int 0, .int 0])])).bind fun h9 => (Row_init (List.length h) h9).bind fun h11 => (sN h11 4 x7 v1 (some (List.length h))).bind fun h13 => g (52, (v1 + (1 : Int32)), v0, h13)
set_option maxHeartbeats 1000000 in
set_option maxRecDepth 100000 in
theorem Table_init_52_m {g g2 : (Nat × Int32 × Nat × am_H) → Option am_H} (hg : ∀ s, Le (g s) (g2 s)) (v0 : Nat) (v1 : Int32) (h : am_H) : Le (Table_init_52_b g v0 v1 h) (Table_init_52_b g2 v0 v1 h) := by unfold Table_init_52_b; exact le_b (le_r _) fun x1 => le_b (le_r _) fun x3 => le_i (le_r _) (le_b (le_r _) fun x7 => le_b (le_r _) fun h9 => le_b (le_r _) fun h11 => le_b (le_r _) fun h13 => hg _)
noncomputable def Table_init_52_F (g : (Nat × Int32 × Nat × am_H) → Option am_H) (s : (Nat × Int32 × Nat × am_H)) : Option am_H := if s.1 = 52 then Table_init_52_b g s.2.2.1 s.2.1 s.2.2.2 else none
theorem Table_init_52_M : Mn Table_init_52_F := fun g g2 hg s => by unfold Table_init_52_F; exact le_i (Table_init_52_m hg s.2.2.1 s.2.1 s.2.2.2) (le_r _)
def Table_init_52_P (s : (Nat × Int32 × Nat × am_H)) (r : am_H) : Prop := (s.1 = 52 → Sx 2 mX7_init 52 [.ref s.2.2.1, .int s.2.1] [] s.2.2.2 none r) ∧ True
set_option maxHeartbeats 1000000 in
set_option maxRecDepth 100000 in
theorem Table_init_52_t {g : (Nat × Int32 × Nat × am_H) → Option am_H} (hg : ∀ s r, g s = some r → Table_init_52_P s r) {v0 : Nat} {v1 : Int32} {h : am_H} {r : am_H} (hb : Table_init_52_b g v0 v1 h = some r) : Sx 2 mX7_init 52 [.ref v0, .int v1] [] h none r := by
  unfold Table_init_52_b at hb
  refine Sx.o (fun _ _ _ k => ex_iload_n dX7_init_52 rfl k) ?_
  refine Sx.o (fun _ _ _ k => ex_aload_n dX7_init_53 rfl rfl k) ?_
  obtain ⟨x1, e_x1, hb2⟩ := ob2 hb
  refine Sx.o (fun _ _ _ k => op_getR fX7_20 dX7_init_54 e_x1 k) ?_
  obtain ⟨x3, e_x3, hb4⟩ := ob2 hb2
  refine Sx.o (fun _ _ _ k => op_alen dX7_init_57 e_x3 k) ?_
  refine Sx.b (fun _ _ _ k1 k2 => ex_icmp_ge 80 dX7_init_58 (by decide) k1 k2) (fun q => ?_) (fun q => ?_)
  · have hb5 := ip q hb4
    obtain rfl := Option.some.inj hb5
    exact Sx.r (fun _ _ _ k => ex_vret rfl dX7_init_80 k)
  · have hb6 := iq q hb4
    refine Sx.o (fun _ _ _ k => ex_aload_n dX7_init_61 rfl rfl k) ?_
    obtain ⟨x7, e_x7, hb8⟩ := ob2 hb6
    refine Sx.o (fun _ _ _ k => op_getR fX7_20 dX7_init_62 e_x7 k) ?_
    refine Sx.o (fun _ _ _ k => ex_iload_n dX7_init_65 rfl k) ?_
    obtain ⟨h9, e_h9, hb10⟩ := ob2 hb8
    have e2_h9 := Option.some.inj e_h9
    refine Sx.nw (N := 5) rfl (fun _ _ _ k => ex_new nX7_18 dX7_init_66 k) ?_
    rw [e2_h9]
    refine Sx.o (fun _ _ _ k => ex_dup dX7_init_69 rfl k) ?_
    obtain ⟨h11, e_h11, hb12⟩ := ob2 hb10
    refine sx_callIN (as := []) (by omega) dX7_init_70 MX4_init rfl rfl kX7_37 iX4_init rfl rfl (Nat.le_of_ble_eq_true rfl) (Nat.le_of_ble_eq_true rfl) (Row_init_s e_h11) ?_
    obtain ⟨h13, e_h13, hb14⟩ := ob2 hb12
    refine Sx.p (sN_q e_h13) (fun _ _ _ k => op_aast (w := (some (List.length h))) dX7_init_73 e_h13 k) ?_
    refine Sx.o (L' := [.ref v0, .int (v1 + (1 : Int32))]) (fun _ _ _ k => op_iinc (1 : Int32) dX7_init_74 (by decide) rfl (by decide) k) ?_
    refine Sx.o (fun _ _ _ k => ex_goto 52 dX7_init_77 (by decide) k) ?_
    exact (hg _ _ hb14).1 rfl
theorem Table_init_52_T : ∀ s r, fx Table_init_52_F Table_init_52_M s = some r → Table_init_52_P s r := fx_ind Table_init_52_M Table_init_52_P (fun g hg s r hb => by
  unfold Table_init_52_F at hb
  exact ⟨fun q => Table_init_52_t hg (ip q hb), trivial⟩)
noncomputable def Table_init_52 (v0 : Nat) (v1 : Int32) (h : am_H) : Option am_H := fx Table_init_52_F Table_init_52_M (52, v1, v0, h)
set_option maxHeartbeats 1000000 in
set_option maxRecDepth 100000 in
theorem Table_init_52_e (v0 : Nat) (v1 : Int32) (h : am_H) : Table_init_52 v0 v1 h = ((gR h 7 v0 6).bind fun x1 => (aL h x1).bind fun x3 => if x3 ≤ v1 then some h else (gR h 7 v0 6).bind fun x7 => (some (h ++ [.inr (4, [.null, .int 0, .int 0, .int 0, .int 0])])).bind fun h9 => (Row_init (List.length h) h9).bind fun h11 => (sN h11 4 x7 v1 (some (List.length h))).bind fun h13 => Table_init_52 v0 (v1 + (1 : Int32)) h13) := (fx_eq Table_init_52_M (52, v1, v0, h)).trans (if_pos rfl)
theorem Table_init_52_s {v0 : Nat} {v1 : Int32} {h : am_H} {r : am_H} (hb : Table_init_52 v0 v1 h = some r) : Sx 2 mX7_init 52 [.ref v0, .int v1] [] h none r := (Table_init_52_T _ _ hb).1 rfl
set_option maxHeartbeats 1000000 in
set_option maxRecDepth 100000 in
noncomputable def Table_init (v0 : Nat) (h : am_H) : Option am_H := if isO h 7 v0 = true then (pV h 7 v0 3 (.int (-1 : Int32))).bind fun h16 => (pV h16 7 v0 5 (.int (200 : Int32))).bind fun h19 => (nA h19 4 (6 : Int32)).bind fun h22 => (pV h22 7 v0 6 (.ref (List.length h19))).bind fun h24 => (nA h24 0 (8 : Int32)).bind fun h27 => (pV h27 7 v0 7 (.ref (List.length h24))).bind fun h29 => (nA h29 0 (8 : Int32)).bind fun h32 => (pV h32 7 v0 8 (.ref (List.length h29))).bind fun h34 => (nA h34 6 (6 : Int32)).bind fun h37 => (pV h37 7 v0 9 (.ref (List.length h34))).bind fun h39 => Table_init_52 v0 (0 : Int32) h39 else none
set_option maxHeartbeats 1000000 in
set_option maxRecDepth 100000 in
theorem Table_init_s {v0 : Nat} {h : am_H} {r : am_H} (hb : Table_init v0 h = some r) : Sx 2 mX7_init 0 (am_en [.ref v0] 2) [] h none r := by
  unfold Table_init at hb
  have hb := (iz hb).2
  show Sx 2 mX7_init 0 [.ref v0, .retAddr 0] [] h none r
  refine Sx.o (fun _ _ _ k => ex_aload_n dX7_init_0 rfl rfl k) ?_
  refine Sx.o (fun _ _ _ k => op_obj (by omega) dX7_init_1 kX7_3 (Nat.le_of_ble_eq_true rfl) k) ?_
  refine Sx.o (fun _ _ _ k => ex_aload_n dX7_init_4 rfl rfl k) ?_
  refine Sx.o (fun _ _ _ k => op_iconst (-1 : Int32) dX7_init_5 (by decide) k) ?_
  obtain ⟨h16, e_h16, hb17⟩ := ob2 hb
  refine Sx.p (pV_q e_h16) (fun _ _ _ k => op_put pX7_9 dX7_init_6 e_h16 (fun _ => rfl) (fun _ => rfl) k) ?_
  refine Sx.o (fun _ _ _ k => ex_aload_n dX7_init_9 rfl rfl k) ?_
  refine Sx.o (fun _ _ _ k => op_sipush (200 : Int32) dX7_init_10 (by decide) k) ?_
  obtain ⟨h19, e_h19, hb20⟩ := ob2 hb17
  refine Sx.p (pV_q e_h19) (fun _ _ _ k => op_put pX7_15 dX7_init_13 e_h19 (fun _ => rfl) (fun _ => rfl) k) ?_
  refine Sx.o (fun _ _ _ k => ex_aload_n dX7_init_16 rfl rfl k) ?_
  refine Sx.o (fun _ _ _ k => op_bipush (6 : Int32) dX7_init_17 (by decide) k) ?_
  obtain ⟨h22, e_h22, hb23⟩ := ob2 hb20
  refine sx_newa (t := 4) (fun _ _ _ N c1 c2 c3 kk => ex_newq (Or.inl rfl) wX7_18 a_4 dX7_init_19 c1 c2 c3 kk) e_h22 ?_
  obtain ⟨h24, e_h24, hb25⟩ := ob2 hb23
  refine Sx.p (pV_q e_h24) (fun _ _ _ k => op_putF pX7_20 (fun r hr => by cases hr; rfl) rfl dX7_init_22 e_h24 (fun _ => rfl) (fun _ => rfl) k) ?_
  refine Sx.o (fun _ _ _ k => ex_aload_n dX7_init_25 rfl rfl k) ?_
  refine Sx.o (fun _ _ _ k => op_bipush (8 : Int32) dX7_init_26 (by decide) k) ?_
  obtain ⟨h27, e_h27, hb28⟩ := ob2 hb25
  refine sx_newa (t := 0) (fun _ _ _ N c1 c2 c3 kk => ex_newa0 a_int dX7_init_28 c1 c2 c3 kk) e_h27 ?_
  obtain ⟨h29, e_h29, hb30⟩ := ob2 hb28
  refine Sx.p (pV_q e_h29) (fun _ _ _ k => op_putF pX7_24 (fun r hr => by cases hr; rfl) rfl dX7_init_30 e_h29 (fun _ => rfl) (fun _ => rfl) k) ?_
  refine Sx.o (fun _ _ _ k => ex_aload_n dX7_init_33 rfl rfl k) ?_
  refine Sx.o (fun _ _ _ k => op_bipush (8 : Int32) dX7_init_34 (by decide) k) ?_
  obtain ⟨h32, e_h32, hb33⟩ := ob2 hb30
  refine sx_newa (t := 0) (fun _ _ _ N c1 c2 c3 kk => ex_newa0 a_int dX7_init_36 c1 c2 c3 kk) e_h32 ?_
  obtain ⟨h34, e_h34, hb35⟩ := ob2 hb33
  refine Sx.p (pV_q e_h34) (fun _ _ _ k => op_putF pX7_28 (fun r hr => by cases hr; rfl) rfl dX7_init_38 e_h34 (fun _ => rfl) (fun _ => rfl) k) ?_
  refine Sx.o (fun _ _ _ k => ex_aload_n dX7_init_41 rfl rfl k) ?_
  refine Sx.o (fun _ _ _ k => op_bipush (6 : Int32) dX7_init_42 (by decide) k) ?_
  obtain ⟨h37, e_h37, hb38⟩ := ob2 hb35
  refine sx_newa (t := 6) (fun _ _ _ N c1 c2 c3 kk => ex_newq (Or.inr (Or.inr rfl)) wX7_31 a_6 dX7_init_44 c1 c2 c3 kk) e_h37 ?_
  obtain ⟨h39, e_h39, hb40⟩ := ob2 hb38
  refine Sx.p (pV_q e_h39) (fun _ _ _ k => op_putF pX7_33 (fun r hr => by cases hr; rfl) rfl dX7_init_47 e_h39 (fun _ => rfl) (fun _ => rfl) k) ?_
  refine Sx.o (fun _ _ _ k => op_iconst (0 : Int32) dX7_init_50 (by decide) k) ?_
  refine Sx.o (L' := [.ref v0, .int (0 : Int32)]) (fun _ _ _ k => ex_istore_n dX7_init_51 (by decide) k) ?_
  exact Table_init_52_s hb40
theorem Table_init_o {v0 : Nat} {h : am_H} {r : am_H} (hb : Table_init v0 h = some r) : isO h 7 v0 = true := by
  unfold Table_init at hb
  exact (iz hb).1
set_option maxHeartbeats 1000000 in
set_option maxRecDepth 100000 in
noncomputable def Table_addLaw (v0 : Nat) (v1 : Nat) (h : am_H) : Option (Int32 × am_H) := if isO h 7 v0 = true then (gI h 7 v0 2).bind fun x1 => (gR h 7 v0 9).bind fun x3 => (aL h x3).bind fun x5 => if x1 < x5 then (gR h 7 v0 9).bind fun x9 => (gI h 7 v0 2).bind fun x11 => (sN h 6 x9 x11 (some v1)).bind fun h13 => (gI h13 7 v0 2).bind fun x16 => (pV h13 7 v0 2 (.int (x16 + (1 : Int32)))).bind fun h18 => (gI h18 7 v0 2).bind fun x21 => some (x21 - (1 : Int32), h18) else some ((-1 : Int32), h) else none
set_option maxHeartbeats 1000000 in
set_option maxRecDepth 100000 in
theorem Table_addLaw_s {v0 : Nat} {v1 : Nat} {h : am_H} {r : (Int32 × am_H)} (hb : Table_addLaw v0 v1 h = some r) : Sx 0 mX7_addLaw 0 (am_en [.ref v0, .ref v1] 2) [] h (some (.int r.1)) r.2 := by
  unfold Table_addLaw at hb
  have hb := (iz hb).2
  show Sx 0 mX7_addLaw 0 [.ref v0, .ref v1] [] h (some (.int r.1)) r.2
  refine Sx.o (fun _ _ _ k => ex_aload_n dX7_addLaw_0 rfl rfl k) ?_
  obtain ⟨x1, e_x1, hb2⟩ := ob2 hb
  refine Sx.o (fun _ _ _ k => op_getI fX7_44 dX7_addLaw_1 e_x1 k) ?_
  refine Sx.o (fun _ _ _ k => ex_aload_n dX7_addLaw_4 rfl rfl k) ?_
  obtain ⟨x3, e_x3, hb4⟩ := ob2 hb2
  refine Sx.o (fun _ _ _ k => op_getR fX7_33 dX7_addLaw_5 e_x3 k) ?_
  obtain ⟨x5, e_x5, hb6⟩ := ob2 hb4
  refine Sx.o (fun _ _ _ k => op_alen dX7_addLaw_8 e_x5 k) ?_
  refine Sx.b (fun _ _ _ k1 k2 => ex_icmp_lt 14 dX7_addLaw_9 (by decide) k1 k2) (fun q => ?_) (fun q => ?_)
  · have hb7 := ip q hb6
    refine Sx.o (fun _ _ _ k => ex_aload_n dX7_addLaw_14 rfl rfl k) ?_
    obtain ⟨x9, e_x9, hb10⟩ := ob2 hb7
    refine Sx.o (fun _ _ _ k => op_getR fX7_33 dX7_addLaw_15 e_x9 k) ?_
    refine Sx.o (fun _ _ _ k => ex_aload_n dX7_addLaw_18 rfl rfl k) ?_
    obtain ⟨x11, e_x11, hb12⟩ := ob2 hb10
    refine Sx.o (fun _ _ _ k => op_getI fX7_44 dX7_addLaw_19 e_x11 k) ?_
    refine Sx.o (fun _ _ _ k => ex_aload_n dX7_addLaw_22 rfl rfl k) ?_
    obtain ⟨h13, e_h13, hb14⟩ := ob2 hb12
    refine Sx.p (sN_q e_h13) (fun _ _ _ k => op_aast (w := (some v1)) dX7_addLaw_23 e_h13 k) ?_
    refine Sx.o (fun _ _ _ k => ex_aload_n dX7_addLaw_24 rfl rfl k) ?_
    refine Sx.o (fun _ _ _ k => ex_dup dX7_addLaw_25 rfl k) ?_
    obtain ⟨x16, e_x16, hb17⟩ := ob2 hb14
    refine Sx.o (fun _ _ _ k => op_getI fX7_44 dX7_addLaw_26 e_x16 k) ?_
    refine Sx.o (fun _ _ _ k => op_iconst (1 : Int32) dX7_addLaw_29 (by decide) k) ?_
    refine Sx.o (fun _ _ _ k => ex_iadd dX7_addLaw_30 k) ?_
    obtain ⟨h18, e_h18, hb19⟩ := ob2 hb17
    refine Sx.p (pV_q e_h18) (fun _ _ _ k => op_put pX7_44 dX7_addLaw_31 e_h18 (fun _ => rfl) (fun _ => rfl) k) ?_
    refine Sx.o (fun _ _ _ k => ex_aload_n dX7_addLaw_34 rfl rfl k) ?_
    obtain ⟨x21, e_x21, hb22⟩ := ob2 hb19
    refine Sx.o (fun _ _ _ k => op_getI fX7_44 dX7_addLaw_35 e_x21 k) ?_
    refine Sx.o (fun _ _ _ k => op_iconst (1 : Int32) dX7_addLaw_38 (by decide) k) ?_
    refine Sx.o (fun _ _ _ k => ex_isub dX7_addLaw_39 k) ?_
    obtain rfl := Option.some.inj hb22
    exact Sx.r (fun _ _ _ k => ex_iret rfl dX7_addLaw_40 k)
  · have hb8 := iq q hb6
    refine Sx.o (fun _ _ _ k => op_iconst (-1 : Int32) dX7_addLaw_12 (by decide) k) ?_
    obtain rfl := Option.some.inj hb8
    exact Sx.r (fun _ _ _ k => ex_iret rfl dX7_addLaw_13 k)
set_option maxHeartbeats 1000000 in
set_option maxRecDepth 100000 in
theorem Table_addLaw_q {v0 : Nat} {v1 : Nat} {h : am_H} {r : (Int32 × am_H)} (hb : Table_addLaw v0 v1 h = some r) : Eqs h r.2 := by
  unfold Table_addLaw at hb
  have hb := (iz hb).2
  have w0 := Eqs.rf h
  obtain ⟨x1, e_x1, hb2⟩ := ob2 hb
  obtain ⟨x3, e_x3, hb4⟩ := ob2 hb2
  obtain ⟨x5, e_x5, hb6⟩ := ob2 hb4
  by_cases q : x1 < x5
  · have hb7 := ip q hb6
    obtain ⟨x9, e_x9, hb10⟩ := ob2 hb7
    obtain ⟨x11, e_x11, hb12⟩ := ob2 hb10
    obtain ⟨h13, e_h13, hb14⟩ := ob2 hb12
    have w15 := w0.tr (sN_q e_h13)
    obtain ⟨x16, e_x16, hb17⟩ := ob2 hb14
    obtain ⟨h18, e_h18, hb19⟩ := ob2 hb17
    have w20 := w15.tr (pV_q e_h18)
    obtain ⟨x21, e_x21, hb22⟩ := ob2 hb19
    obtain rfl := Option.some.inj hb22
    exact w20
  · have hb8 := iq q hb6
    obtain rfl := Option.some.inj hb8
    exact w0
theorem Table_addLaw_o {v0 : Nat} {v1 : Nat} {h : am_H} {r : (Int32 × am_H)} (hb : Table_addLaw v0 v1 h = some r) : isO h 7 v0 = true := by
  unfold Table_addLaw at hb
  exact (iz hb).1
set_option maxHeartbeats 1000000 in
set_option maxRecDepth 100000 in
noncomputable def Table_addSight (v0 : Nat) (v1 : Int32) (v2 : Int32) (h : am_H) : Option (Int32 × am_H) := if isO h 7 v0 = true then (gI h 7 v0 1).bind fun x1 => if (8 : Int32) ≤ x1 then (gI h 7 v0 1).bind fun x5 => some (x5, h) else (gR h 7 v0 7).bind fun x7 => (gI h 7 v0 1).bind fun x9 => (sI h x7 x9 v1).bind fun h11 => (gR h11 7 v0 8).bind fun x14 => (gI h11 7 v0 1).bind fun x16 => (sI h11 x14 x16 v2).bind fun h18 => (gI h18 7 v0 1).bind fun x21 => (pV h18 7 v0 1 (.int (x21 + (1 : Int32)))).bind fun h23 => (gI h23 7 v0 1).bind fun x26 => some (x26, h23) else none
set_option maxHeartbeats 1000000 in
set_option maxRecDepth 100000 in
theorem Table_addSight_s {v0 : Nat} {v1 : Int32} {v2 : Int32} {h : am_H} {r : (Int32 × am_H)} (hb : Table_addSight v0 v1 v2 h = some r) : Sx 0 mX7_addSight 0 (am_en [.ref v0, .int v1, .int v2] 3) [] h (some (.int r.1)) r.2 := by
  unfold Table_addSight at hb
  have hb := (iz hb).2
  show Sx 0 mX7_addSight 0 [.ref v0, .int v1, .int v2] [] h (some (.int r.1)) r.2
  refine Sx.o (fun _ _ _ k => ex_aload_n dX7_addSight_0 rfl rfl k) ?_
  obtain ⟨x1, e_x1, hb2⟩ := ob2 hb
  refine Sx.o (fun _ _ _ k => op_getI fX7_41 dX7_addSight_1 e_x1 k) ?_
  refine Sx.o (fun _ _ _ k => op_bipush (8 : Int32) dX7_addSight_4 (by decide) k) ?_
  refine Sx.b (fun _ _ _ k1 k2 => ex_icmp_ge 39 dX7_addSight_6 (by decide) k1 k2) (fun q => ?_) (fun q => ?_)
  · have hb3 := ip q hb2
    refine Sx.o (fun _ _ _ k => ex_aload_n dX7_addSight_39 rfl rfl k) ?_
    obtain ⟨x5, e_x5, hb6⟩ := ob2 hb3
    refine Sx.o (fun _ _ _ k => op_getI fX7_41 dX7_addSight_40 e_x5 k) ?_
    obtain rfl := Option.some.inj hb6
    exact Sx.r (fun _ _ _ k => ex_iret rfl dX7_addSight_43 k)
  · have hb4 := iq q hb2
    refine Sx.o (fun _ _ _ k => ex_aload_n dX7_addSight_9 rfl rfl k) ?_
    obtain ⟨x7, e_x7, hb8⟩ := ob2 hb4
    refine Sx.o (fun _ _ _ k => op_getR fX7_24 dX7_addSight_10 e_x7 k) ?_
    refine Sx.o (fun _ _ _ k => ex_aload_n dX7_addSight_13 rfl rfl k) ?_
    obtain ⟨x9, e_x9, hb10⟩ := ob2 hb8
    refine Sx.o (fun _ _ _ k => op_getI fX7_41 dX7_addSight_14 e_x9 k) ?_
    refine Sx.o (fun _ _ _ k => ex_iload_n dX7_addSight_17 rfl k) ?_
    obtain ⟨h11, e_h11, hb12⟩ := ob2 hb10
    refine Sx.p (sI_q e_h11) (fun _ _ _ k => op_iast dX7_addSight_18 e_h11 k) ?_
    refine Sx.o (fun _ _ _ k => ex_aload_n dX7_addSight_19 rfl rfl k) ?_
    obtain ⟨x14, e_x14, hb15⟩ := ob2 hb12
    refine Sx.o (fun _ _ _ k => op_getR fX7_28 dX7_addSight_20 e_x14 k) ?_
    refine Sx.o (fun _ _ _ k => ex_aload_n dX7_addSight_23 rfl rfl k) ?_
    obtain ⟨x16, e_x16, hb17⟩ := ob2 hb15
    refine Sx.o (fun _ _ _ k => op_getI fX7_41 dX7_addSight_24 e_x16 k) ?_
    refine Sx.o (fun _ _ _ k => ex_iload_n dX7_addSight_27 rfl k) ?_
    obtain ⟨h18, e_h18, hb19⟩ := ob2 hb17
    refine Sx.p (sI_q e_h18) (fun _ _ _ k => op_iast dX7_addSight_28 e_h18 k) ?_
    refine Sx.o (fun _ _ _ k => ex_aload_n dX7_addSight_29 rfl rfl k) ?_
    refine Sx.o (fun _ _ _ k => ex_dup dX7_addSight_30 rfl k) ?_
    obtain ⟨x21, e_x21, hb22⟩ := ob2 hb19
    refine Sx.o (fun _ _ _ k => op_getI fX7_41 dX7_addSight_31 e_x21 k) ?_
    refine Sx.o (fun _ _ _ k => op_iconst (1 : Int32) dX7_addSight_34 (by decide) k) ?_
    refine Sx.o (fun _ _ _ k => ex_iadd dX7_addSight_35 k) ?_
    obtain ⟨h23, e_h23, hb24⟩ := ob2 hb22
    refine Sx.p (pV_q e_h23) (fun _ _ _ k => op_put pX7_41 dX7_addSight_36 e_h23 (fun _ => rfl) (fun _ => rfl) k) ?_
    refine Sx.o (fun _ _ _ k => ex_aload_n dX7_addSight_39 rfl rfl k) ?_
    obtain ⟨x26, e_x26, hb27⟩ := ob2 hb24
    refine Sx.o (fun _ _ _ k => op_getI fX7_41 dX7_addSight_40 e_x26 k) ?_
    obtain rfl := Option.some.inj hb27
    exact Sx.r (fun _ _ _ k => ex_iret rfl dX7_addSight_43 k)
set_option maxHeartbeats 1000000 in
set_option maxRecDepth 100000 in
theorem Table_addSight_q {v0 : Nat} {v1 : Int32} {v2 : Int32} {h : am_H} {r : (Int32 × am_H)} (hb : Table_addSight v0 v1 v2 h = some r) : Eqs h r.2 := by
  unfold Table_addSight at hb
  have hb := (iz hb).2
  have w0 := Eqs.rf h
  obtain ⟨x1, e_x1, hb2⟩ := ob2 hb
  by_cases q : (8 : Int32) ≤ x1
  · have hb3 := ip q hb2
    obtain ⟨x5, e_x5, hb6⟩ := ob2 hb3
    obtain rfl := Option.some.inj hb6
    exact w0
  · have hb4 := iq q hb2
    obtain ⟨x7, e_x7, hb8⟩ := ob2 hb4
    obtain ⟨x9, e_x9, hb10⟩ := ob2 hb8
    obtain ⟨h11, e_h11, hb12⟩ := ob2 hb10
    have w13 := w0.tr (sI_q e_h11)
    obtain ⟨x14, e_x14, hb15⟩ := ob2 hb12
    obtain ⟨x16, e_x16, hb17⟩ := ob2 hb15
    obtain ⟨h18, e_h18, hb19⟩ := ob2 hb17
    have w20 := w13.tr (sI_q e_h18)
    obtain ⟨x21, e_x21, hb22⟩ := ob2 hb19
    obtain ⟨h23, e_h23, hb24⟩ := ob2 hb22
    have w25 := w20.tr (pV_q e_h23)
    obtain ⟨x26, e_x26, hb27⟩ := ob2 hb24
    obtain rfl := Option.some.inj hb27
    exact w25
theorem Table_addSight_o {v0 : Nat} {v1 : Int32} {v2 : Int32} {h : am_H} {r : (Int32 × am_H)} (hb : Table_addSight v0 v1 v2 h = some r) : isO h 7 v0 = true := by
  unfold Table_addSight at hb
  exact (iz hb).1
