/-! Evenings: its methods as functions (by wip/whole/dec.py) -/
set_option maxHeartbeats 1000000 in
set_option maxRecDepth 100000 in
noncomputable def Evenings_shuffle_7_b (g : (Nat × Int32 × Nat × Nat × am_H) → Option am_H) (v0 : Nat) (v1 : Nat) (v2 : Int32) (h : am_H) : Option am_H := if v2 ≤ (0 : Int32) then some h else (gJ h 0 v0 5).bind fun x3 => (rmJ ((x3 * (1103 : Int64)) + (12345 : Int64)) (1000003 : Int64)).bind fun x5 => (pV h 0 v0 5 (.long x5)).bind fun h7 => (gJ h7 0 v0 5).bind fun x10 => (rmJ x10 (Int32.toInt64 (v2 + (1 : Int32)))).bind fun x12 => (Row_exchange v1 v2 (Int64.toInt32 x12) h7).bind fun h14 => g (7, (v2 + (-1 : Int32)), v0, v1, h14)
set_option maxHeartbeats 1000000 in
set_option maxRecDepth 100000 in
theorem Evenings_shuffle_7_m {g g2 : (Nat × Int32 × Nat × Nat × am_H) → Option am_H} (hg : ∀ s, Le (g s) (g2 s)) (v0 : Nat) (v1 : Nat) (v2 : Int32) (h : am_H) : Le (Evenings_shuffle_7_b g v0 v1 v2 h) (Evenings_shuffle_7_b g2 v0 v1 v2 h) := by unfold Evenings_shuffle_7_b; exact le_i (le_r _) (le_b (le_r _) fun x3 => le_b (le_r _) fun x5 => le_b (le_r _) fun h7 => le_b (le_r _) fun x10 => le_b (le_r _) fun x12 => le_b (le_r _) fun h14 => hg _)
noncomputable def Evenings_shuffle_7_F (g : (Nat × Int32 × Nat × Nat × am_H) → Option am_H) (s : (Nat × Int32 × Nat × Nat × am_H)) : Option am_H := if s.1 = 7 then Evenings_shuffle_7_b g s.2.2.1 s.2.2.2.1 s.2.1 s.2.2.2.2 else none
theorem Evenings_shuffle_7_M : Mn Evenings_shuffle_7_F := fun g g2 hg s => by unfold Evenings_shuffle_7_F; exact le_i (Evenings_shuffle_7_m hg s.2.2.1 s.2.2.2.1 s.2.1 s.2.2.2.2) (le_r _)
def Evenings_shuffle_7_P (s : (Nat × Int32 × Nat × Nat × am_H)) (r : am_H) : Prop := (s.1 = 7 → Sx 2 mX0_shuffle 7 [.ref s.2.2.1, .ref s.2.2.2.1, .int s.2.1] [] s.2.2.2.2 none r) ∧ True
set_option maxHeartbeats 1000000 in
set_option maxRecDepth 100000 in
theorem Evenings_shuffle_7_t {g : (Nat × Int32 × Nat × Nat × am_H) → Option am_H} (hg : ∀ s r, g s = some r → Evenings_shuffle_7_P s r) {v0 : Nat} {v1 : Nat} {v2 : Int32} {h : am_H} {r : am_H} (hb : Evenings_shuffle_7_b g v0 v1 v2 h = some r) : Sx 2 mX0_shuffle 7 [.ref v0, .ref v1, .int v2] [] h none r := by
  unfold Evenings_shuffle_7_b at hb
  refine Sx.o (fun _ _ _ k => ex_iload_n dX0_shuffle_7 rfl k) ?_
  refine Sx.b (fun _ _ _ k1 k2 => ex_if_le 52 dX0_shuffle_8 (by decide) k1 k2) (fun q => ?_) (fun q => ?_)
  · have hb1 := ip q hb
    obtain rfl := Option.some.inj hb1
    exact Sx.r (fun _ _ _ k => ex_vret rfl dX0_shuffle_52 k)
  · have hb2 := iq q hb
    refine Sx.o (fun _ _ _ k => ex_aload_n dX0_shuffle_11 rfl rfl k) ?_
    refine Sx.o (fun _ _ _ k => ex_aload_n dX0_shuffle_12 rfl rfl k) ?_
    obtain ⟨x3, e_x3, hb4⟩ := ob2 hb2
    refine Sx.o (fun _ _ _ k => op_getJ fX0_33 dX0_shuffle_13 e_x3 k) ?_
    refine Sx.o (fun _ _ _ k => ex_ldc2 dX0_shuffle_16 qX0_67 k) ?_
    refine Sx.o (fun _ _ _ k => ex_lmul dX0_shuffle_19 k) ?_
    refine Sx.o (fun _ _ _ k => ex_ldc2 dX0_shuffle_20 qX0_69 k) ?_
    refine Sx.o (fun _ _ _ k => ex_ladd dX0_shuffle_23 k) ?_
    refine Sx.o (fun _ _ _ k => ex_ldc2 dX0_shuffle_24 qX0_71 k) ?_
    obtain ⟨x5, e_x5, hb6⟩ := ob2 hb4
    refine Sx.o (fun _ _ _ k => op_lrem dX0_shuffle_27 e_x5 k) ?_
    obtain ⟨h7, e_h7, hb8⟩ := ob2 hb6
    refine Sx.p (pV_q e_h7) (fun _ _ _ k => op_put pX0_33 dX0_shuffle_28 e_h7 (fun _ => rfl) (fun _ => rfl) k) ?_
    refine Sx.o (fun _ _ _ k => ex_aload_n dX0_shuffle_31 rfl rfl k) ?_
    refine Sx.o (fun _ _ _ k => ex_iload_n dX0_shuffle_32 rfl k) ?_
    refine Sx.o (fun _ _ _ k => ex_aload_n dX0_shuffle_33 rfl rfl k) ?_
    obtain ⟨x10, e_x10, hb11⟩ := ob2 hb8
    refine Sx.o (fun _ _ _ k => op_getJ fX0_33 dX0_shuffle_34 e_x10 k) ?_
    refine Sx.o (fun _ _ _ k => ex_iload_n dX0_shuffle_37 rfl k) ?_
    refine Sx.o (fun _ _ _ k => op_iconst (1 : Int32) dX0_shuffle_38 (by decide) k) ?_
    refine Sx.o (fun _ _ _ k => ex_iadd dX0_shuffle_39 k) ?_
    refine Sx.o (fun _ _ _ k => ex_i2l dX0_shuffle_40 k) ?_
    obtain ⟨x12, e_x12, hb13⟩ := ob2 hb11
    refine Sx.o (fun _ _ _ k => op_lrem dX0_shuffle_41 e_x12 k) ?_
    refine Sx.o (fun _ _ _ k => ex_l2i dX0_shuffle_42 k) ?_
    obtain ⟨h14, e_h14, hb15⟩ := ob2 hb13
    refine sx_callV (dc := 1) (as := [.int v2, .int (Int64.toInt32 x12)]) (stq := []) (by omega) dX0_shuffle_43 MX4_exchange kX0_73 iX4_exchange sX4_exchange rfl rfl (Row_exchange_o e_h14) rfl rfl (Nat.le_of_ble_eq_true rfl) (Nat.le_of_ble_eq_true rfl) (Row_exchange_s e_h14) rfl ?_
    refine Sx.o (L' := [.ref v0, .ref v1, .int (v2 + (-1 : Int32))]) (fun _ _ _ k => op_iinc (-1 : Int32) dX0_shuffle_46 (by decide) rfl (by decide) k) ?_
    refine Sx.o (fun _ _ _ k => ex_goto 7 dX0_shuffle_49 (by decide) k) ?_
    exact (hg _ _ hb15).1 rfl
theorem Evenings_shuffle_7_T : ∀ s r, fx Evenings_shuffle_7_F Evenings_shuffle_7_M s = some r → Evenings_shuffle_7_P s r := fx_ind Evenings_shuffle_7_M Evenings_shuffle_7_P (fun g hg s r hb => by
  unfold Evenings_shuffle_7_F at hb
  exact ⟨fun q => Evenings_shuffle_7_t hg (ip q hb), trivial⟩)
set_option maxHeartbeats 1000000 in
set_option maxRecDepth 100000 in
theorem Evenings_shuffle_7_r {g : (Nat × Int32 × Nat × Nat × am_H) → Option am_H} (hg : ∀ s r, g s = some r → Eqs s.2.2.2.2 r) {v0 : Nat} {v1 : Nat} {v2 : Int32} {h : am_H} {r : am_H} (hb : Evenings_shuffle_7_b g v0 v1 v2 h = some r) : Eqs h r := by
  unfold Evenings_shuffle_7_b at hb
  have w0 := Eqs.rf h
  by_cases q : v2 ≤ (0 : Int32)
  · have hb1 := ip q hb
    obtain rfl := Option.some.inj hb1
    exact w0
  · have hb2 := iq q hb
    obtain ⟨x3, e_x3, hb4⟩ := ob2 hb2
    obtain ⟨x5, e_x5, hb6⟩ := ob2 hb4
    obtain ⟨h7, e_h7, hb8⟩ := ob2 hb6
    have w9 := w0.tr (pV_q e_h7)
    obtain ⟨x10, e_x10, hb11⟩ := ob2 hb8
    obtain ⟨x12, e_x12, hb13⟩ := ob2 hb11
    obtain ⟨h14, e_h14, hb15⟩ := ob2 hb13
    have w16 := w9.tr (Row_exchange_q e_h14)
    exact w16.tr (hg _ _ hb15)
theorem Evenings_shuffle_7_Q : ∀ s r, fx Evenings_shuffle_7_F Evenings_shuffle_7_M s = some r → Eqs s.2.2.2.2 r := fx_ind Evenings_shuffle_7_M (fun s r => Eqs s.2.2.2.2 r) (fun g hg s r hb => by
  unfold Evenings_shuffle_7_F at hb
  by_cases q0 : s.1 = 7
  · exact Evenings_shuffle_7_r hg (ip q0 hb)
  · have hb0 := iq q0 hb
    exact nomatch hb0)
noncomputable def Evenings_shuffle_7 (v0 : Nat) (v1 : Nat) (v2 : Int32) (h : am_H) : Option am_H := fx Evenings_shuffle_7_F Evenings_shuffle_7_M (7, v2, v0, v1, h)
set_option maxHeartbeats 1000000 in
set_option maxRecDepth 100000 in
theorem Evenings_shuffle_7_e (v0 : Nat) (v1 : Nat) (v2 : Int32) (h : am_H) : Evenings_shuffle_7 v0 v1 v2 h = (if v2 ≤ (0 : Int32) then some h else (gJ h 0 v0 5).bind fun x3 => (rmJ ((x3 * (1103 : Int64)) + (12345 : Int64)) (1000003 : Int64)).bind fun x5 => (pV h 0 v0 5 (.long x5)).bind fun h7 => (gJ h7 0 v0 5).bind fun x10 => (rmJ x10 (Int32.toInt64 (v2 + (1 : Int32)))).bind fun x12 => (Row_exchange v1 v2 (Int64.toInt32 x12) h7).bind fun h14 => Evenings_shuffle_7 v0 v1 (v2 + (-1 : Int32)) h14) := (fx_eq Evenings_shuffle_7_M (7, v2, v0, v1, h)).trans (if_pos rfl)
theorem Evenings_shuffle_7_q {v0 : Nat} {v1 : Nat} {v2 : Int32} {h : am_H} {r : am_H} (hb : Evenings_shuffle_7 v0 v1 v2 h = some r) : Eqs h r := Evenings_shuffle_7_Q _ _ hb
theorem Evenings_shuffle_7_s {v0 : Nat} {v1 : Nat} {v2 : Int32} {h : am_H} {r : am_H} (hb : Evenings_shuffle_7 v0 v1 v2 h = some r) : Sx 2 mX0_shuffle 7 [.ref v0, .ref v1, .int v2] [] h none r := (Evenings_shuffle_7_T _ _ hb).1 rfl
set_option maxHeartbeats 1000000 in
set_option maxRecDepth 100000 in
noncomputable def Evenings_shuffle (v0 : Nat) (v1 : Nat) (h : am_H) : Option am_H := if isO h 0 v0 = true then (gI h 4 v1 1).bind fun x17 => Evenings_shuffle_7 v0 v1 (x17 - (1 : Int32)) h else none
set_option maxHeartbeats 1000000 in
set_option maxRecDepth 100000 in
theorem Evenings_shuffle_s {v0 : Nat} {v1 : Nat} {h : am_H} {r : am_H} (hb : Evenings_shuffle v0 v1 h = some r) : Sx 2 mX0_shuffle 0 (am_en [.ref v0, .ref v1] 3) [] h none r := by
  unfold Evenings_shuffle at hb
  have hb := (iz hb).2
  show Sx 2 mX0_shuffle 0 [.ref v0, .ref v1, .retAddr 0] [] h none r
  refine Sx.o (fun _ _ _ k => ex_aload_n dX0_shuffle_0 rfl rfl k) ?_
  obtain ⟨x17, e_x17, hb18⟩ := ob2 hb
  refine Sx.o (fun _ _ _ k => op_getI fX0_64 dX0_shuffle_1 e_x17 k) ?_
  refine Sx.o (fun _ _ _ k => op_iconst (1 : Int32) dX0_shuffle_4 (by decide) k) ?_
  refine Sx.o (fun _ _ _ k => ex_isub dX0_shuffle_5 k) ?_
  refine Sx.o (L' := [.ref v0, .ref v1, .int (x17 - (1 : Int32))]) (fun _ _ _ k => ex_istore_n dX0_shuffle_6 (by decide) k) ?_
  exact Evenings_shuffle_7_s hb18
set_option maxHeartbeats 1000000 in
set_option maxRecDepth 100000 in
theorem Evenings_shuffle_q {v0 : Nat} {v1 : Nat} {h : am_H} {r : am_H} (hb : Evenings_shuffle v0 v1 h = some r) : Eqs h r := by
  unfold Evenings_shuffle at hb
  have hb := (iz hb).2
  have w0 := Eqs.rf h
  obtain ⟨x17, e_x17, hb18⟩ := ob2 hb
  exact w0.tr (Evenings_shuffle_7_q hb18)
theorem Evenings_shuffle_o {v0 : Nat} {v1 : Nat} {h : am_H} {r : am_H} (hb : Evenings_shuffle v0 v1 h = some r) : isO h 0 v0 = true := by
  unfold Evenings_shuffle at hb
  exact (iz hb).1
set_option maxHeartbeats 1000000 in
set_option maxRecDepth 100000 in
noncomputable def Evenings_hold_27_b (g : (Nat × Int32 × Int32 × Int32 × Nat × Nat × am_H) → Option (Int32 × am_H)) (v0 : Nat) (v1 : Nat) (v3 : Int32) (v4 : Int32) (v5 : Int32) (h : am_H) : Option (Int32 × am_H) := if v3 ≤ v5 then some (v4, h) else (Evenings_shuffle v0 v1 h).bind fun h3 => (pV h3 4 v1 3 (.int (0 : Int32))).bind fun h6 => (gR h6 0 v0 3).bind fun x9 => (Row_copy x9 v1 h6).bind fun h11 => (gR h11 0 v0 4).bind fun x14 => (Steps_goOn x14 v1 h11).bind fun h16 => (gR h16 0 v0 4).bind fun x19 => (gI h16 6 x19 2).bind fun x21 => if x21 = (0 : Int32) then (gI h16 0 v0 1).bind fun x25 => (gR h16 0 v0 4).bind fun x27 => (gI h16 6 x27 3).bind fun x29 => (pV h16 0 v0 1 (.int (x25 + x29))).bind fun h31 => (gI h31 0 v0 2).bind fun x34 => (gR h31 0 v0 4).bind fun x36 => (gI h31 6 x36 3).bind fun x38 => (pV h31 0 v0 2 (.int (if x34 < x38 then x38 else x34))).bind fun h40 => g (106, v3, (v4 + (1 : Int32)), v5, v0, v1, h40) else g (106, v3, v4, v5, v0, v1, h16)
set_option maxHeartbeats 1000000 in
set_option maxRecDepth 100000 in
theorem Evenings_hold_27_m {g g2 : (Nat × Int32 × Int32 × Int32 × Nat × Nat × am_H) → Option (Int32 × am_H)} (hg : ∀ s, Le (g s) (g2 s)) (v0 : Nat) (v1 : Nat) (v3 : Int32) (v4 : Int32) (v5 : Int32) (h : am_H) : Le (Evenings_hold_27_b g v0 v1 v3 v4 v5 h) (Evenings_hold_27_b g2 v0 v1 v3 v4 v5 h) := by unfold Evenings_hold_27_b; exact le_i (le_r _) (le_b (le_r _) fun h3 => le_b (le_r _) fun h6 => le_b (le_r _) fun x9 => le_b (le_r _) fun h11 => le_b (le_r _) fun x14 => le_b (le_r _) fun h16 => le_b (le_r _) fun x19 => le_b (le_r _) fun x21 => le_i (le_b (le_r _) fun x25 => le_b (le_r _) fun x27 => le_b (le_r _) fun x29 => le_b (le_r _) fun h31 => le_b (le_r _) fun x34 => le_b (le_r _) fun x36 => le_b (le_r _) fun x38 => le_b (le_r _) fun h40 => hg _) (hg _))
set_option maxHeartbeats 1000000 in
set_option maxRecDepth 100000 in
noncomputable def Evenings_hold_106_b (g : (Nat × Int32 × Int32 × Int32 × Nat × Nat × am_H) → Option (Int32 × am_H)) (v0 : Nat) (v1 : Nat) (v3 : Int32) (v4 : Int32) (v5 : Int32) (h : am_H) : Option (Int32 × am_H) := g (27, v3, v4, (v5 + (1 : Int32)), v0, v1, h)
set_option maxHeartbeats 1000000 in
set_option maxRecDepth 100000 in
theorem Evenings_hold_106_m {g g2 : (Nat × Int32 × Int32 × Int32 × Nat × Nat × am_H) → Option (Int32 × am_H)} (hg : ∀ s, Le (g s) (g2 s)) (v0 : Nat) (v1 : Nat) (v3 : Int32) (v4 : Int32) (v5 : Int32) (h : am_H) : Le (Evenings_hold_106_b g v0 v1 v3 v4 v5 h) (Evenings_hold_106_b g2 v0 v1 v3 v4 v5 h) := by unfold Evenings_hold_106_b; exact hg _
noncomputable def Evenings_hold_27_F (g : (Nat × Int32 × Int32 × Int32 × Nat × Nat × am_H) → Option (Int32 × am_H)) (s : (Nat × Int32 × Int32 × Int32 × Nat × Nat × am_H)) : Option (Int32 × am_H) := if s.1 = 27 then Evenings_hold_27_b g s.2.2.2.2.1 s.2.2.2.2.2.1 s.2.1 s.2.2.1 s.2.2.2.1 s.2.2.2.2.2.2 else if s.1 = 106 then Evenings_hold_106_b g s.2.2.2.2.1 s.2.2.2.2.2.1 s.2.1 s.2.2.1 s.2.2.2.1 s.2.2.2.2.2.2 else none
theorem Evenings_hold_27_M : Mn Evenings_hold_27_F := fun g g2 hg s => by unfold Evenings_hold_27_F; exact le_i (Evenings_hold_27_m hg s.2.2.2.2.1 s.2.2.2.2.2.1 s.2.1 s.2.2.1 s.2.2.2.1 s.2.2.2.2.2.2) (le_i (Evenings_hold_106_m hg s.2.2.2.2.1 s.2.2.2.2.2.1 s.2.1 s.2.2.1 s.2.2.2.1 s.2.2.2.2.2.2) (le_r _))
def Evenings_hold_27_P (s : (Nat × Int32 × Int32 × Int32 × Nat × Nat × am_H)) (r : (Int32 × am_H)) : Prop := (s.1 = 27 → Sx 5 mX0_hold 27 [.ref s.2.2.2.2.1, .ref s.2.2.2.2.2.1, .retAddr 0, .int s.2.1, .int s.2.2.1, .int s.2.2.2.1] [] s.2.2.2.2.2.2 (some (.int r.1)) r.2) ∧ (s.1 = 106 → Sx 5 mX0_hold 106 [.ref s.2.2.2.2.1, .ref s.2.2.2.2.2.1, .retAddr 0, .int s.2.1, .int s.2.2.1, .int s.2.2.2.1] [] s.2.2.2.2.2.2 (some (.int r.1)) r.2) ∧ True
set_option maxHeartbeats 1000000 in
set_option maxRecDepth 100000 in
theorem Evenings_hold_27_t {g : (Nat × Int32 × Int32 × Int32 × Nat × Nat × am_H) → Option (Int32 × am_H)} (hg : ∀ s r, g s = some r → Evenings_hold_27_P s r) {v0 : Nat} {v1 : Nat} {v3 : Int32} {v4 : Int32} {v5 : Int32} {h : am_H} {r : (Int32 × am_H)} (hb : Evenings_hold_27_b g v0 v1 v3 v4 v5 h = some r) : Sx 5 mX0_hold 27 [.ref v0, .ref v1, .retAddr 0, .int v3, .int v4, .int v5] [] h (some (.int r.1)) r.2 := by
  unfold Evenings_hold_27_b at hb
  refine Sx.o (fun _ _ _ k => ex_iload dX0_hold_27 rfl k) ?_
  refine Sx.o (fun _ _ _ k => ex_iload_n dX0_hold_29 rfl k) ?_
  refine Sx.b (fun _ _ _ k1 k2 => ex_icmp_ge 112 dX0_hold_30 (by decide) k1 k2) (fun q => ?_) (fun q => ?_)
  · have hb1 := ip q hb
    refine Sx.o (fun _ _ _ k => ex_iload dX0_hold_112 rfl k) ?_
    obtain rfl := Option.some.inj hb1
    exact Sx.r (fun _ _ _ k => ex_iret rfl dX0_hold_114 k)
  · have hb2 := iq q hb
    refine Sx.o (fun _ _ _ k => ex_aload_n dX0_hold_33 rfl rfl k) ?_
    refine Sx.o (fun _ _ _ k => ex_aload_n dX0_hold_34 rfl rfl k) ?_
    obtain ⟨h3, e_h3, hb4⟩ := ob2 hb2
    refine sx_callV (dc := 2) (as := [.ref v1]) (stq := []) (by omega) dX0_hold_35 MX0_shuffle kX0_37 iX0_shuffle sX0_shuffle rfl rfl (Evenings_shuffle_o e_h3) rfl rfl (Nat.le_of_ble_eq_true rfl) (Nat.le_of_ble_eq_true rfl) (Evenings_shuffle_s e_h3) rfl ?_
    refine Sx.o (fun _ _ _ k => ex_aload_n dX0_hold_38 rfl rfl k) ?_
    refine Sx.o (fun _ _ _ k => op_iconst (0 : Int32) dX0_hold_39 (by decide) k) ?_
    obtain ⟨h6, e_h6, hb7⟩ := ob2 hb4
    refine Sx.p (pV_q e_h6) (fun _ _ _ k => op_put pX0_41 dX0_hold_40 e_h6 (fun _ => rfl) (fun _ => rfl) k) ?_
    refine Sx.o (fun _ _ _ k => ex_aload_n dX0_hold_43 rfl rfl k) ?_
    obtain ⟨x9, e_x9, hb10⟩ := ob2 hb7
    refine Sx.o (fun _ _ _ k => op_getR fX0_12 dX0_hold_44 e_x9 k) ?_
    refine Sx.o (fun _ _ _ k => ex_aload_n dX0_hold_47 rfl rfl k) ?_
    obtain ⟨h11, e_h11, hb12⟩ := ob2 hb10
    refine sx_callV (dc := 1) (as := [.ref v1]) (stq := []) (by omega) dX0_hold_48 MX4_copy kX0_44 iX4_copy sX4_copy rfl rfl (Row_copy_o e_h11) rfl rfl (Nat.le_of_ble_eq_true rfl) (Nat.le_of_ble_eq_true rfl) (Row_copy_s e_h11) rfl ?_
    refine Sx.o (fun _ _ _ k => ex_aload_n dX0_hold_51 rfl rfl k) ?_
    obtain ⟨x14, e_x14, hb15⟩ := ob2 hb12
    refine Sx.o (fun _ _ _ k => op_getR fX0_18 dX0_hold_52 e_x14 k) ?_
    refine Sx.o (fun _ _ _ k => ex_aload_n dX0_hold_55 rfl rfl k) ?_
    obtain ⟨h16, e_h16, hb17⟩ := ob2 hb15
    refine sx_callV (dc := 4) (as := [.ref v1]) (stq := []) (by omega) dX0_hold_56 MX6_goOn kX0_47 iX6_goOn sX6_goOn rfl rfl (Steps_goOn_o e_h16) rfl rfl (Nat.le_of_ble_eq_true rfl) (Nat.le_of_ble_eq_true rfl) (Steps_goOn_s e_h16) rfl ?_
    refine Sx.o (fun _ _ _ k => ex_aload_n dX0_hold_59 rfl rfl k) ?_
    obtain ⟨x19, e_x19, hb20⟩ := ob2 hb17
    refine Sx.o (fun _ _ _ k => op_getR fX0_18 dX0_hold_60 e_x19 k) ?_
    obtain ⟨x21, e_x21, hb22⟩ := ob2 hb20
    refine Sx.o (fun _ _ _ k => op_getI fX0_52 dX0_hold_63 e_x21 k) ?_
    refine Sx.bn (fun _ _ _ k1 k2 => ex_if_ne 106 dX0_hold_66 (by decide) k1 k2) (fun q => ?_) (fun q => ?_)
    · have hb23 := iq q hb22
      exact (hg _ _ hb23).2.1 rfl
    · have hb24 := ip q hb22
      refine Sx.o (L' := [.ref v0, .ref v1, .retAddr 0, .int v3, .int (v4 + (1 : Int32)), .int v5]) (fun _ _ _ k => op_iinc (1 : Int32) dX0_hold_69 (by decide) rfl (by decide) k) ?_
      refine Sx.o (fun _ _ _ k => ex_aload_n dX0_hold_72 rfl rfl k) ?_
      refine Sx.o (fun _ _ _ k => ex_dup dX0_hold_73 rfl k) ?_
      obtain ⟨x25, e_x25, hb26⟩ := ob2 hb24
      refine Sx.o (fun _ _ _ k => op_getI fX0_26 dX0_hold_74 e_x25 k) ?_
      refine Sx.o (fun _ _ _ k => ex_aload_n dX0_hold_77 rfl rfl k) ?_
      obtain ⟨x27, e_x27, hb28⟩ := ob2 hb26
      refine Sx.o (fun _ _ _ k => op_getR fX0_18 dX0_hold_78 e_x27 k) ?_
      obtain ⟨x29, e_x29, hb30⟩ := ob2 hb28
      refine Sx.o (fun _ _ _ k => op_getI fX0_55 dX0_hold_81 e_x29 k) ?_
      refine Sx.o (fun _ _ _ k => ex_iadd dX0_hold_84 k) ?_
      obtain ⟨h31, e_h31, hb32⟩ := ob2 hb30
      refine Sx.p (pV_q e_h31) (fun _ _ _ k => op_put pX0_26 dX0_hold_85 e_h31 (fun _ => rfl) (fun _ => rfl) k) ?_
      refine Sx.o (fun _ _ _ k => ex_aload_n dX0_hold_88 rfl rfl k) ?_
      refine Sx.o (fun _ _ _ k => ex_aload_n dX0_hold_89 rfl rfl k) ?_
      obtain ⟨x34, e_x34, hb35⟩ := ob2 hb32
      refine Sx.o (fun _ _ _ k => op_getI fX0_30 dX0_hold_90 e_x34 k) ?_
      refine Sx.o (fun _ _ _ k => ex_aload_n dX0_hold_93 rfl rfl k) ?_
      obtain ⟨x36, e_x36, hb37⟩ := ob2 hb35
      refine Sx.o (fun _ _ _ k => op_getR fX0_18 dX0_hold_94 e_x36 k) ?_
      obtain ⟨x38, e_x38, hb39⟩ := ob2 hb37
      refine Sx.o (fun _ _ _ k => op_getI fX0_55 dX0_hold_97 e_x38 k) ?_
      refine Sx.o (fun _ _ _ k => op_mmax (by omega) dX0_hold_100 kX0_58 (Nat.le_of_ble_eq_true rfl) k) ?_
      obtain ⟨h40, e_h40, hb41⟩ := ob2 hb39
      refine Sx.p (pV_q e_h40) (fun _ _ _ k => op_put pX0_30 dX0_hold_103 e_h40 (fun _ => rfl) (fun _ => rfl) k) ?_
      exact (hg _ _ hb41).2.1 rfl
set_option maxHeartbeats 1000000 in
set_option maxRecDepth 100000 in
theorem Evenings_hold_106_t {g : (Nat × Int32 × Int32 × Int32 × Nat × Nat × am_H) → Option (Int32 × am_H)} (hg : ∀ s r, g s = some r → Evenings_hold_27_P s r) {v0 : Nat} {v1 : Nat} {v3 : Int32} {v4 : Int32} {v5 : Int32} {h : am_H} {r : (Int32 × am_H)} (hb : Evenings_hold_106_b g v0 v1 v3 v4 v5 h = some r) : Sx 5 mX0_hold 106 [.ref v0, .ref v1, .retAddr 0, .int v3, .int v4, .int v5] [] h (some (.int r.1)) r.2 := by
  unfold Evenings_hold_106_b at hb
  refine Sx.o (L' := [.ref v0, .ref v1, .retAddr 0, .int v3, .int v4, .int (v5 + (1 : Int32))]) (fun _ _ _ k => op_iinc (1 : Int32) dX0_hold_106 (by decide) rfl (by decide) k) ?_
  refine Sx.o (fun _ _ _ k => ex_goto 27 dX0_hold_109 (by decide) k) ?_
  exact (hg _ _ hb).1 rfl
theorem Evenings_hold_27_T : ∀ s r, fx Evenings_hold_27_F Evenings_hold_27_M s = some r → Evenings_hold_27_P s r := fx_ind Evenings_hold_27_M Evenings_hold_27_P (fun g hg s r hb => by
  unfold Evenings_hold_27_F at hb
  exact ⟨fun q => Evenings_hold_27_t hg (ip q hb), fun q => Evenings_hold_106_t hg (ip q (iq (by rw [q]; decide) hb)), trivial⟩)
set_option maxHeartbeats 1000000 in
set_option maxRecDepth 100000 in
theorem Evenings_hold_27_r {g : (Nat × Int32 × Int32 × Int32 × Nat × Nat × am_H) → Option (Int32 × am_H)} (hg : ∀ s r, g s = some r → Eqs s.2.2.2.2.2.2 r.2) {v0 : Nat} {v1 : Nat} {v3 : Int32} {v4 : Int32} {v5 : Int32} {h : am_H} {r : (Int32 × am_H)} (hb : Evenings_hold_27_b g v0 v1 v3 v4 v5 h = some r) : Eqs h r.2 := by
  unfold Evenings_hold_27_b at hb
  have w0 := Eqs.rf h
  by_cases q : v3 ≤ v5
  · have hb1 := ip q hb
    obtain rfl := Option.some.inj hb1
    exact w0
  · have hb2 := iq q hb
    obtain ⟨h3, e_h3, hb4⟩ := ob2 hb2
    have w5 := w0.tr (Evenings_shuffle_q e_h3)
    obtain ⟨h6, e_h6, hb7⟩ := ob2 hb4
    have w8 := w5.tr (pV_q e_h6)
    obtain ⟨x9, e_x9, hb10⟩ := ob2 hb7
    obtain ⟨h11, e_h11, hb12⟩ := ob2 hb10
    have w13 := w8.tr (Row_copy_q e_h11)
    obtain ⟨x14, e_x14, hb15⟩ := ob2 hb12
    obtain ⟨h16, e_h16, hb17⟩ := ob2 hb15
    have w18 := w13.tr (Steps_goOn_q e_h16)
    obtain ⟨x19, e_x19, hb20⟩ := ob2 hb17
    obtain ⟨x21, e_x21, hb22⟩ := ob2 hb20
    by_cases q : x21 = (0 : Int32)
    · have hb24 := ip q hb22
      obtain ⟨x25, e_x25, hb26⟩ := ob2 hb24
      obtain ⟨x27, e_x27, hb28⟩ := ob2 hb26
      obtain ⟨x29, e_x29, hb30⟩ := ob2 hb28
      obtain ⟨h31, e_h31, hb32⟩ := ob2 hb30
      have w33 := w18.tr (pV_q e_h31)
      obtain ⟨x34, e_x34, hb35⟩ := ob2 hb32
      obtain ⟨x36, e_x36, hb37⟩ := ob2 hb35
      obtain ⟨x38, e_x38, hb39⟩ := ob2 hb37
      obtain ⟨h40, e_h40, hb41⟩ := ob2 hb39
      have w42 := w33.tr (pV_q e_h40)
      exact w42.tr (hg _ _ hb41)
    · have hb23 := iq q hb22
      exact w18.tr (hg _ _ hb23)
set_option maxHeartbeats 1000000 in
set_option maxRecDepth 100000 in
theorem Evenings_hold_106_r {g : (Nat × Int32 × Int32 × Int32 × Nat × Nat × am_H) → Option (Int32 × am_H)} (hg : ∀ s r, g s = some r → Eqs s.2.2.2.2.2.2 r.2) {v0 : Nat} {v1 : Nat} {v3 : Int32} {v4 : Int32} {v5 : Int32} {h : am_H} {r : (Int32 × am_H)} (hb : Evenings_hold_106_b g v0 v1 v3 v4 v5 h = some r) : Eqs h r.2 := by
  unfold Evenings_hold_106_b at hb
  have w0 := Eqs.rf h
  exact w0.tr (hg _ _ hb)
theorem Evenings_hold_27_Q : ∀ s r, fx Evenings_hold_27_F Evenings_hold_27_M s = some r → Eqs s.2.2.2.2.2.2 r.2 := fx_ind Evenings_hold_27_M (fun s r => Eqs s.2.2.2.2.2.2 r.2) (fun g hg s r hb => by
  unfold Evenings_hold_27_F at hb
  by_cases q0 : s.1 = 27
  · exact Evenings_hold_27_r hg (ip q0 hb)
  · have hb0 := iq q0 hb
    by_cases q1 : s.1 = 106
    · exact Evenings_hold_106_r hg (ip q1 hb0)
    · have hb1 := iq q1 hb0
      exact nomatch hb1)
noncomputable def Evenings_hold_27 (v0 : Nat) (v1 : Nat) (v3 : Int32) (v4 : Int32) (v5 : Int32) (h : am_H) : Option (Int32 × am_H) := fx Evenings_hold_27_F Evenings_hold_27_M (27, v3, v4, v5, v0, v1, h)
noncomputable def Evenings_hold_106 (v0 : Nat) (v1 : Nat) (v3 : Int32) (v4 : Int32) (v5 : Int32) (h : am_H) : Option (Int32 × am_H) := fx Evenings_hold_27_F Evenings_hold_27_M (106, v3, v4, v5, v0, v1, h)
set_option maxHeartbeats 1000000 in
set_option maxRecDepth 100000 in
theorem Evenings_hold_27_e (v0 : Nat) (v1 : Nat) (v3 : Int32) (v4 : Int32) (v5 : Int32) (h : am_H) : Evenings_hold_27 v0 v1 v3 v4 v5 h = (if v3 ≤ v5 then some (v4, h) else (Evenings_shuffle v0 v1 h).bind fun h3 => (pV h3 4 v1 3 (.int (0 : Int32))).bind fun h6 => (gR h6 0 v0 3).bind fun x9 => (Row_copy x9 v1 h6).bind fun h11 => (gR h11 0 v0 4).bind fun x14 => (Steps_goOn x14 v1 h11).bind fun h16 => (gR h16 0 v0 4).bind fun x19 => (gI h16 6 x19 2).bind fun x21 => if x21 = (0 : Int32) then (gI h16 0 v0 1).bind fun x25 => (gR h16 0 v0 4).bind fun x27 => (gI h16 6 x27 3).bind fun x29 => (pV h16 0 v0 1 (.int (x25 + x29))).bind fun h31 => (gI h31 0 v0 2).bind fun x34 => (gR h31 0 v0 4).bind fun x36 => (gI h31 6 x36 3).bind fun x38 => (pV h31 0 v0 2 (.int (if x34 < x38 then x38 else x34))).bind fun h40 => Evenings_hold_106 v0 v1 v3 (v4 + (1 : Int32)) v5 h40 else Evenings_hold_106 v0 v1 v3 v4 v5 h16) := (fx_eq Evenings_hold_27_M (27, v3, v4, v5, v0, v1, h)).trans (if_pos rfl)
theorem Evenings_hold_27_q {v0 : Nat} {v1 : Nat} {v3 : Int32} {v4 : Int32} {v5 : Int32} {h : am_H} {r : (Int32 × am_H)} (hb : Evenings_hold_27 v0 v1 v3 v4 v5 h = some r) : Eqs h r.2 := Evenings_hold_27_Q _ _ hb
theorem Evenings_hold_27_s {v0 : Nat} {v1 : Nat} {v3 : Int32} {v4 : Int32} {v5 : Int32} {h : am_H} {r : (Int32 × am_H)} (hb : Evenings_hold_27 v0 v1 v3 v4 v5 h = some r) : Sx 5 mX0_hold 27 [.ref v0, .ref v1, .retAddr 0, .int v3, .int v4, .int v5] [] h (some (.int r.1)) r.2 := (Evenings_hold_27_T _ _ hb).1 rfl
set_option maxHeartbeats 1000000 in
set_option maxRecDepth 100000 in
theorem Evenings_hold_106_e (v0 : Nat) (v1 : Nat) (v3 : Int32) (v4 : Int32) (v5 : Int32) (h : am_H) : Evenings_hold_106 v0 v1 v3 v4 v5 h = (Evenings_hold_27 v0 v1 v3 v4 (v5 + (1 : Int32)) h) := (fx_eq Evenings_hold_27_M (106, v3, v4, v5, v0, v1, h)).trans ((if_neg (show ¬ (106 : Nat) = 27 by decide)).trans (if_pos rfl))
theorem Evenings_hold_106_q {v0 : Nat} {v1 : Nat} {v3 : Int32} {v4 : Int32} {v5 : Int32} {h : am_H} {r : (Int32 × am_H)} (hb : Evenings_hold_106 v0 v1 v3 v4 v5 h = some r) : Eqs h r.2 := Evenings_hold_27_Q _ _ hb
theorem Evenings_hold_106_s {v0 : Nat} {v1 : Nat} {v3 : Int32} {v4 : Int32} {v5 : Int32} {h : am_H} {r : (Int32 × am_H)} (hb : Evenings_hold_106 v0 v1 v3 v4 v5 h = some r) : Sx 5 mX0_hold 106 [.ref v0, .ref v1, .retAddr 0, .int v3, .int v4, .int v5] [] h (some (.int r.1)) r.2 := (Evenings_hold_27_T _ _ hb).2.1 rfl
set_option maxHeartbeats 1000000 in
set_option maxRecDepth 100000 in
noncomputable def Evenings_hold (v0 : Nat) (v1 : Nat) (v2 : Int32) (v3 : Int32) (h : am_H) : Option (Int32 × am_H) := if isO h 0 v0 = true then (pV h 0 v0 0 (.int (1 : Int32))).bind fun h43 => (pV h43 0 v0 1 (.int (0 : Int32))).bind fun h46 => (pV h46 0 v0 2 (.int (-1 : Int32))).bind fun h49 => (pV h49 0 v0 5 (.long (Int32.toInt64 v2))).bind fun h52 => Evenings_hold_27 v0 v1 v3 (0 : Int32) (0 : Int32) h52 else none
set_option maxHeartbeats 1000000 in
set_option maxRecDepth 100000 in
theorem Evenings_hold_s {v0 : Nat} {v1 : Nat} {v2 : Int32} {v3 : Int32} {h : am_H} {r : (Int32 × am_H)} (hb : Evenings_hold v0 v1 v2 v3 h = some r) : Sx 5 mX0_hold 0 (am_en [.ref v0, .ref v1, .int v2, .int v3] 6) [] h (some (.int r.1)) r.2 := by
  unfold Evenings_hold at hb
  have hb := (iz hb).2
  show Sx 5 mX0_hold 0 [.ref v0, .ref v1, .int v2, .int v3, .retAddr 0, .retAddr 0] [] h (some (.int r.1)) r.2
  refine Sx.o (fun _ _ _ k => ex_aload_n dX0_hold_0 rfl rfl k) ?_
  refine Sx.o (fun _ _ _ k => op_iconst (1 : Int32) dX0_hold_1 (by decide) k) ?_
  obtain ⟨h43, e_h43, hb44⟩ := ob2 hb
  refine Sx.p (pV_q e_h43) (fun _ _ _ k => op_put pX0_22 dX0_hold_2 e_h43 (fun _ => rfl) (fun _ => rfl) k) ?_
  refine Sx.o (fun _ _ _ k => ex_aload_n dX0_hold_5 rfl rfl k) ?_
  refine Sx.o (fun _ _ _ k => op_iconst (0 : Int32) dX0_hold_6 (by decide) k) ?_
  obtain ⟨h46, e_h46, hb47⟩ := ob2 hb44
  refine Sx.p (pV_q e_h46) (fun _ _ _ k => op_put pX0_26 dX0_hold_7 e_h46 (fun _ => rfl) (fun _ => rfl) k) ?_
  refine Sx.o (fun _ _ _ k => ex_aload_n dX0_hold_10 rfl rfl k) ?_
  refine Sx.o (fun _ _ _ k => op_iconst (-1 : Int32) dX0_hold_11 (by decide) k) ?_
  obtain ⟨h49, e_h49, hb50⟩ := ob2 hb47
  refine Sx.p (pV_q e_h49) (fun _ _ _ k => op_put pX0_30 dX0_hold_12 e_h49 (fun _ => rfl) (fun _ => rfl) k) ?_
  refine Sx.o (fun _ _ _ k => ex_aload_n dX0_hold_15 rfl rfl k) ?_
  refine Sx.o (fun _ _ _ k => ex_iload_n dX0_hold_16 rfl k) ?_
  refine Sx.o (fun _ _ _ k => ex_i2l dX0_hold_17 k) ?_
  obtain ⟨h52, e_h52, hb53⟩ := ob2 hb50
  refine Sx.p (pV_q e_h52) (fun _ _ _ k => op_put pX0_33 dX0_hold_18 e_h52 (fun _ => rfl) (fun _ => rfl) k) ?_
  refine Sx.o (fun _ _ _ k => op_iconst (0 : Int32) dX0_hold_21 (by decide) k) ?_
  refine Sx.o (L' := [.ref v0, .ref v1, .int v2, .int v3, .int (0 : Int32), .retAddr 0]) (fun _ _ _ k => ex_istore dX0_hold_22 (by decide) k) ?_
  refine Sx.o (fun _ _ _ k => op_iconst (0 : Int32) dX0_hold_24 (by decide) k) ?_
  refine Sx.o (L' := [.ref v0, .ref v1, .int v2, .int v3, .int (0 : Int32), .int (0 : Int32)]) (fun _ _ _ k => ex_istore dX0_hold_25 (by decide) k) ?_
  refine Sx.fg [true, true, false, true, true, true] ?_
  exact Evenings_hold_27_s hb53
set_option maxHeartbeats 1000000 in
set_option maxRecDepth 100000 in
theorem Evenings_hold_q {v0 : Nat} {v1 : Nat} {v2 : Int32} {v3 : Int32} {h : am_H} {r : (Int32 × am_H)} (hb : Evenings_hold v0 v1 v2 v3 h = some r) : Eqs h r.2 := by
  unfold Evenings_hold at hb
  have hb := (iz hb).2
  have w0 := Eqs.rf h
  obtain ⟨h43, e_h43, hb44⟩ := ob2 hb
  have w45 := w0.tr (pV_q e_h43)
  obtain ⟨h46, e_h46, hb47⟩ := ob2 hb44
  have w48 := w45.tr (pV_q e_h46)
  obtain ⟨h49, e_h49, hb50⟩ := ob2 hb47
  have w51 := w48.tr (pV_q e_h49)
  obtain ⟨h52, e_h52, hb53⟩ := ob2 hb50
  have w54 := w51.tr (pV_q e_h52)
  exact w54.tr (Evenings_hold_27_q hb53)
theorem Evenings_hold_o {v0 : Nat} {v1 : Nat} {v2 : Int32} {v3 : Int32} {h : am_H} {r : (Int32 × am_H)} (hb : Evenings_hold v0 v1 v2 v3 h = some r) : isO h 0 v0 = true := by
  unfold Evenings_hold at hb
  exact (iz hb).1
set_option maxHeartbeats 1000000 in
set_option maxRecDepth 100000 in
noncomputable def Evenings_init (v0 : Nat) (v1 : Nat) (h : am_H) : Option am_H := if isO h 0 v0 = true then (some (h ++ [.inr (4, [.null, .int 0, .int 0, .int 0, .int 0])])).bind fun h1 => (Row_init (List.length h) h1).bind fun h3 => (pV h3 0 v0 3 (.ref (List.length h))).bind fun h5 => (pV h5 0 v0 4 (.ref v1)).bind fun h8 => some h8 else none
set_option maxHeartbeats 1000000 in
set_option maxRecDepth 100000 in
theorem Evenings_init_s {v0 : Nat} {v1 : Nat} {h : am_H} {r : am_H} (hb : Evenings_init v0 v1 h = some r) : Sx 2 mX0_init 0 (am_en [.ref v0, .ref v1] 2) [] h none r := by
  unfold Evenings_init at hb
  have hb := (iz hb).2
  show Sx 2 mX0_init 0 [.ref v0, .ref v1] [] h none r
  refine Sx.o (fun _ _ _ k => ex_aload_n dX0_init_0 rfl rfl k) ?_
  refine Sx.o (fun _ _ _ k => op_obj (by omega) dX0_init_1 kX0_3 (Nat.le_of_ble_eq_true rfl) k) ?_
  refine Sx.o (fun _ _ _ k => ex_aload_n dX0_init_4 rfl rfl k) ?_
  obtain ⟨h1, e_h1, hb2⟩ := ob2 hb
  have e2_h1 := Option.some.inj e_h1
  refine Sx.nw (N := 5) rfl (fun _ _ _ k => ex_new nX0_9 dX0_init_5 k) ?_
  rw [e2_h1]
  refine Sx.o (fun _ _ _ k => ex_dup dX0_init_8 rfl k) ?_
  obtain ⟨h3, e_h3, hb4⟩ := ob2 hb2
  refine sx_callIN (as := []) (by omega) dX0_init_9 MX4_init rfl rfl kX0_11 iX4_init rfl rfl (Nat.le_of_ble_eq_true rfl) (Nat.le_of_ble_eq_true rfl) (Row_init_s e_h3) ?_
  obtain ⟨h5, e_h5, hb6⟩ := ob2 hb4
  refine Sx.p (pV_q e_h5) (fun _ _ _ k => op_putF pX0_12 (fun r hr => by cases hr; rfl) rfl dX0_init_12 e_h5 (fun _ => rfl) (fun _ => rfl) k) ?_
  refine Sx.o (fun _ _ _ k => ex_aload_n dX0_init_15 rfl rfl k) ?_
  refine Sx.o (fun _ _ _ k => ex_aload_n dX0_init_16 rfl rfl k) ?_
  obtain ⟨h8, e_h8, hb9⟩ := ob2 hb6
  refine Sx.p (pV_q e_h8) (fun _ _ _ k => op_putF pX0_18 (fun r hr => by cases hr; rfl) rfl dX0_init_17 e_h8 (fun _ => rfl) (fun _ => rfl) k) ?_
  obtain rfl := Option.some.inj hb9
  exact Sx.r (fun _ _ _ k => ex_vret rfl dX0_init_20 k)
theorem Evenings_init_o {v0 : Nat} {v1 : Nat} {h : am_H} {r : am_H} (hb : Evenings_init v0 v1 h = some r) : isO h 0 v0 = true := by
  unfold Evenings_init at hb
  exact (iz hb).1
