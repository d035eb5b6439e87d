/-! Steps: its methods as functions (by wip/whole/dec.py) -/
set_option maxHeartbeats 1000000 in
set_option maxRecDepth 100000 in
noncomputable def Steps_earlier_2_b (g : (Nat × Int32 × Int32 × Nat × am_H) → Option Int32) (v0 : Nat) (v1 : Int32) (v2 : Int32) (h : am_H) : Option Int32 := if v1 ≤ v2 then some (-1 : Int32) else (gR h 6 v0 10).bind fun x3 => (aL h x3).bind fun x5 => if x5 ≤ v1 then some (-1 : Int32) else (gR h 6 v0 10).bind fun x9 => (aJ h x9 v2).bind fun x11 => (gR h 6 v0 10).bind fun x13 => (aJ h x13 v1).bind fun x15 => if (lg_cmp x11 x15) = (0 : Int32) then some v2 else g (2, v1, (v2 + (1 : Int32)), v0, h)
set_option maxHeartbeats 1000000 in
set_option maxRecDepth 100000 in
theorem Steps_earlier_2_m {g g2 : (Nat × Int32 × Int32 × Nat × am_H) → Option Int32} (hg : ∀ s, Le (g s) (g2 s)) (v0 : Nat) (v1 : Int32) (v2 : Int32) (h : am_H) : Le (Steps_earlier_2_b g v0 v1 v2 h) (Steps_earlier_2_b g2 v0 v1 v2 h) := by unfold Steps_earlier_2_b; exact le_i (le_r _) (le_b (le_r _) fun x3 => le_b (le_r _) fun x5 => le_i (le_r _) (le_b (le_r _) fun x9 => le_b (le_r _) fun x11 => le_b (le_r _) fun x13 => le_b (le_r _) fun x15 => le_i (le_r _) (hg _)))
noncomputable def Steps_earlier_2_F (g : (Nat × Int32 × Int32 × Nat × am_H) → Option Int32) (s : (Nat × Int32 × Int32 × Nat × am_H)) : Option Int32 := if s.1 = 2 then Steps_earlier_2_b g s.2.2.2.1 s.2.1 s.2.2.1 s.2.2.2.2 else none
theorem Steps_earlier_2_M : Mn Steps_earlier_2_F := fun g g2 hg s => by unfold Steps_earlier_2_F; exact le_i (Steps_earlier_2_m hg s.2.2.2.1 s.2.1 s.2.2.1 s.2.2.2.2) (le_r _)
def Steps_earlier_2_P (s : (Nat × Int32 × Int32 × Nat × am_H)) (r : Int32) : Prop := (s.1 = 2 → Sx 0 mX6_earlier 2 [.ref s.2.2.2.1, .int s.2.1, .int s.2.2.1] [] s.2.2.2.2 (some (.int r)) s.2.2.2.2) ∧ True
set_option maxHeartbeats 1000000 in
set_option maxRecDepth 100000 in
theorem Steps_earlier_2_t {g : (Nat × Int32 × Int32 × Nat × am_H) → Option Int32} (hg : ∀ s r, g s = some r → Steps_earlier_2_P s r) {v0 : Nat} {v1 : Int32} {v2 : Int32} {h : am_H} {r : Int32} (hb : Steps_earlier_2_b g v0 v1 v2 h = some r) : Sx 0 mX6_earlier 2 [.ref v0, .int v1, .int v2] [] h (some (.int r)) h := by
  unfold Steps_earlier_2_b at hb
  refine Sx.o (fun _ _ _ k => ex_iload_n dX6_earlier_2 rfl k) ?_
  refine Sx.o (fun _ _ _ k => ex_iload_n dX6_earlier_3 rfl k) ?_
  refine Sx.b (fun _ _ _ k1 k2 => ex_icmp_ge 40 dX6_earlier_4 (by decide) k1 k2) (fun q => ?_) (fun q => ?_)
  · have hb1 := ip q hb
    refine Sx.o (fun _ _ _ k => op_iconst (-1 : Int32) dX6_earlier_40 (by decide) k) ?_
    obtain rfl := Option.some.inj hb1
    exact Sx.r (fun _ _ _ k => ex_iret rfl dX6_earlier_41 k)
  · have hb2 := iq q hb
    refine Sx.o (fun _ _ _ k => ex_iload_n dX6_earlier_7 rfl k) ?_
    refine Sx.o (fun _ _ _ k => ex_aload_n dX6_earlier_8 rfl rfl k) ?_
    obtain ⟨x3, e_x3, hb4⟩ := ob2 hb2
    refine Sx.o (fun _ _ _ k => op_getR fX6_15 dX6_earlier_9 e_x3 k) ?_
    obtain ⟨x5, e_x5, hb6⟩ := ob2 hb4
    refine Sx.o (fun _ _ _ k => op_alen dX6_earlier_12 e_x5 k) ?_
    refine Sx.b (fun _ _ _ k1 k2 => ex_icmp_ge 40 dX6_earlier_13 (by decide) k1 k2) (fun q => ?_) (fun q => ?_)
    · have hb7 := ip q hb6
      refine Sx.o (fun _ _ _ k => op_iconst (-1 : Int32) dX6_earlier_40 (by decide) k) ?_
      obtain rfl := Option.some.inj hb7
      exact Sx.r (fun _ _ _ k => ex_iret rfl dX6_earlier_41 k)
    · have hb8 := iq q hb6
      refine Sx.o (fun _ _ _ k => ex_aload_n dX6_earlier_16 rfl rfl k) ?_
      obtain ⟨x9, e_x9, hb10⟩ := ob2 hb8
      refine Sx.o (fun _ _ _ k => op_getR fX6_15 dX6_earlier_17 e_x9 k) ?_
      refine Sx.o (fun _ _ _ k => ex_iload_n dX6_earlier_20 rfl k) ?_
      obtain ⟨x11, e_x11, hb12⟩ := ob2 hb10
      refine Sx.o (fun _ _ _ k => op_lald dX6_earlier_21 e_x11 k) ?_
      refine Sx.o (fun _ _ _ k => ex_aload_n dX6_earlier_22 rfl rfl k) ?_
      obtain ⟨x13, e_x13, hb14⟩ := ob2 hb12
      refine Sx.o (fun _ _ _ k => op_getR fX6_15 dX6_earlier_23 e_x13 k) ?_
      refine Sx.o (fun _ _ _ k => ex_iload_n dX6_earlier_26 rfl k) ?_
      obtain ⟨x15, e_x15, hb16⟩ := ob2 hb14
      refine Sx.o (fun _ _ _ k => op_lald dX6_earlier_27 e_x15 k) ?_
      refine Sx.o (fun _ _ _ k => ex_lcmp dX6_earlier_28 k) ?_
      refine Sx.bn (fun _ _ _ k1 k2 => ex_if_ne 34 dX6_earlier_29 (by decide) k1 k2) (fun q => ?_) (fun q => ?_)
      · have hb17 := iq q hb16
        refine Sx.o (L' := [.ref v0, .int v1, .int (v2 + (1 : Int32))]) (fun _ _ _ k => op_iinc (1 : Int32) dX6_earlier_34 (by decide) rfl (by decide) k) ?_
        refine Sx.o (fun _ _ _ k => ex_goto 2 dX6_earlier_37 (by decide) k) ?_
        exact (hg _ _ hb17).1 rfl
      · have hb18 := ip q hb16
        refine Sx.o (fun _ _ _ k => ex_iload_n dX6_earlier_32 rfl k) ?_
        obtain rfl := Option.some.inj hb18
        exact Sx.r (fun _ _ _ k => ex_iret rfl dX6_earlier_33 k)
theorem Steps_earlier_2_T : ∀ s r, fx Steps_earlier_2_F Steps_earlier_2_M s = some r → Steps_earlier_2_P s r := fx_ind Steps_earlier_2_M Steps_earlier_2_P (fun g hg s r hb => by
  unfold Steps_earlier_2_F at hb
  exact ⟨fun q => Steps_earlier_2_t hg (ip q hb), trivial⟩)
noncomputable def Steps_earlier_2 (v0 : Nat) (v1 : Int32) (v2 : Int32) (h : am_H) : Option Int32 := fx Steps_earlier_2_F Steps_earlier_2_M (2, v1, v2, v0, h)
set_option maxHeartbeats 1000000 in
set_option maxRecDepth 100000 in
theorem Steps_earlier_2_e (v0 : Nat) (v1 : Int32) (v2 : Int32) (h : am_H) : Steps_earlier_2 v0 v1 v2 h = (if v1 ≤ v2 then some (-1 : Int32) else (gR h 6 v0 10).bind fun x3 => (aL h x3).bind fun x5 => if x5 ≤ v1 then some (-1 : Int32) else (gR h 6 v0 10).bind fun x9 => (aJ h x9 v2).bind fun x11 => (gR h 6 v0 10).bind fun x13 => (aJ h x13 v1).bind fun x15 => if (lg_cmp x11 x15) = (0 : Int32) then some v2 else Steps_earlier_2 v0 v1 (v2 + (1 : Int32)) h) := (fx_eq Steps_earlier_2_M (2, v1, v2, v0, h)).trans (if_pos rfl)
theorem Steps_earlier_2_s {v0 : Nat} {v1 : Int32} {v2 : Int32} {h : am_H} {r : Int32} (hb : Steps_earlier_2 v0 v1 v2 h = some r) : Sx 0 mX6_earlier 2 [.ref v0, .int v1, .int v2] [] h (some (.int r)) h := (Steps_earlier_2_T _ _ hb).1 rfl
set_option maxHeartbeats 1000000 in
set_option maxRecDepth 100000 in
noncomputable def Steps_earlier (v0 : Nat) (v1 : Int32) (h : am_H) : Option Int32 := if isO h 6 v0 = true then Steps_earlier_2 v0 v1 (0 : Int32) h else none
set_option maxHeartbeats 1000000 in
set_option maxRecDepth 100000 in
theorem Steps_earlier_s {v0 : Nat} {v1 : Int32} {h : am_H} {r : Int32} (hb : Steps_earlier v0 v1 h = some r) : Sx 0 mX6_earlier 0 (am_en [.ref v0, .int v1] 3) [] h (some (.int r)) h := by
  unfold Steps_earlier at hb
  have hb := (iz hb).2
  show Sx 0 mX6_earlier 0 [.ref v0, .int v1, .retAddr 0] [] h (some (.int r)) h
  refine Sx.o (fun _ _ _ k => op_iconst (0 : Int32) dX6_earlier_0 (by decide) k) ?_
  refine Sx.o (L' := [.ref v0, .int v1, .int (0 : Int32)]) (fun _ _ _ k => ex_istore_n dX6_earlier_1 (by decide) k) ?_
  exact Steps_earlier_2_s hb
theorem Steps_earlier_o {v0 : Nat} {v1 : Int32} {h : am_H} {r : Int32} (hb : Steps_earlier v0 v1 h = some r) : isO h 6 v0 = true := by
  unfold Steps_earlier at hb
  exact (iz hb).1
set_option maxHeartbeats 1000000 in
set_option maxRecDepth 100000 in
noncomputable def Steps_fillWords (v0 : Nat) (v1 : Nat) (h : am_H) : Option am_H := if isO h 6 v0 = true then (gR h 6 v0 9).bind fun x1 => (Row_card v1 (0 : Int32) h).bind fun x3 => (sI h x1 (0 : Int32) x3).bind fun h5 => (gR h5 6 v0 9).bind fun x8 => (Row_card v1 (1 : Int32) h5).bind fun x10 => (sI h5 x8 (1 : Int32) x10).bind fun h12 => (gR h12 6 v0 9).bind fun x15 => (Row_card v1 (2 : Int32) h12).bind fun x17 => (sI h12 x15 (2 : Int32) x17).bind fun h19 => (gR h19 6 v0 9).bind fun x22 => (gI h19 4 v1 1).bind fun x24 => (Row_card v1 (x24 - (1 : Int32)) h19).bind fun x26 => (sI h19 x22 (3 : Int32) x26).bind fun h28 => (gR h28 6 v0 9).bind fun x31 => (gI h28 4 v1 1).bind fun x33 => (sI h28 x31 (4 : Int32) x33).bind fun h35 => (gR h35 6 v0 9).bind fun x38 => (gI h35 4 v1 3).bind fun x40 => (sI h35 x38 (5 : Int32) x40).bind fun h42 => (gR h42 6 v0 9).bind fun x45 => (gI h42 4 v1 4).bind fun x47 => (sI h42 x45 (6 : Int32) x47).bind fun h49 => (gR h49 6 v0 9).bind fun x52 => (gR h49 6 v0 8).bind fun x54 => (gI h49 7 x54 4).bind fun x56 => (sI h49 x52 (7 : Int32) x56).bind fun h58 => some h58 else none
set_option maxHeartbeats 1000000 in
set_option maxRecDepth 100000 in
theorem Steps_fillWords_s {v0 : Nat} {v1 : Nat} {h : am_H} {r : am_H} (hb : Steps_fillWords v0 v1 h = some r) : Sx 1 mX6_fillWords 0 (am_en [.ref v0, .ref v1] 2) [] h none r := by
  unfold Steps_fillWords at hb
  have hb := (iz hb).2
  show Sx 1 mX6_fillWords 0 [.ref v0, .ref v1] [] h none r
  refine Sx.o (fun _ _ _ k => ex_aload_n dX6_fillWords_0 rfl rfl k) ?_
  obtain ⟨x1, e_x1, hb2⟩ := ob2 hb
  refine Sx.o (fun _ _ _ k => op_getR fX6_9 dX6_fillWords_1 e_x1 k) ?_
  refine Sx.o (fun _ _ _ k => op_iconst (0 : Int32) dX6_fillWords_4 (by decide) k) ?_
  refine Sx.o (fun _ _ _ k => ex_aload_n dX6_fillWords_5 rfl rfl k) ?_
  refine Sx.o (fun _ _ _ k => op_iconst (0 : Int32) dX6_fillWords_6 (by decide) k) ?_
  obtain ⟨x3, e_x3, hb4⟩ := ob2 hb2
  refine sx_callV (dc := 0) (as := [.int (0 : Int32)]) (stq := [.int x3, .int (0 : Int32), .ref x1]) (by omega) dX6_fillWords_7 MX4_card kX6_23 iX4_card sX4_card rfl rfl (Row_card_o e_x3) rfl rfl (Nat.le_of_ble_eq_true rfl) (Nat.le_of_ble_eq_true rfl) (Row_card_s e_x3) rfl ?_
  obtain ⟨h5, e_h5, hb6⟩ := ob2 hb4
  refine Sx.p (sI_q e_h5) (fun _ _ _ k => op_iast dX6_fillWords_10 e_h5 k) ?_
  refine Sx.o (fun _ _ _ k => ex_aload_n dX6_fillWords_11 rfl rfl k) ?_
  obtain ⟨x8, e_x8, hb9⟩ := ob2 hb6
  refine Sx.o (fun _ _ _ k => op_getR fX6_9 dX6_fillWords_12 e_x8 k) ?_
  refine Sx.o (fun _ _ _ k => op_iconst (1 : Int32) dX6_fillWords_15 (by decide) k) ?_
  refine Sx.o (fun _ _ _ k => ex_aload_n dX6_fillWords_16 rfl rfl k) ?_
  refine Sx.o (fun _ _ _ k => op_iconst (1 : Int32) dX6_fillWords_17 (by decide) k) ?_
  obtain ⟨x10, e_x10, hb11⟩ := ob2 hb9
  refine sx_callV (dc := 0) (as := [.int (1 : Int32)]) (stq := [.int x10, .int (1 : Int32), .ref x8]) (by omega) dX6_fillWords_18 MX4_card kX6_23 iX4_card sX4_card rfl rfl (Row_card_o e_x10) rfl rfl (Nat.le_of_ble_eq_true rfl) (Nat.le_of_ble_eq_true rfl) (Row_card_s e_x10) rfl ?_
  obtain ⟨h12, e_h12, hb13⟩ := ob2 hb11
  refine Sx.p (sI_q e_h12) (fun _ _ _ k => op_iast dX6_fillWords_21 e_h12 k) ?_
  refine Sx.o (fun _ _ _ k => ex_aload_n dX6_fillWords_22 rfl rfl k) ?_
  obtain ⟨x15, e_x15, hb16⟩ := ob2 hb13
  refine Sx.o (fun _ _ _ k => op_getR fX6_9 dX6_fillWords_23 e_x15 k) ?_
  refine Sx.o (fun _ _ _ k => op_iconst (2 : Int32) dX6_fillWords_26 (by decide) k) ?_
  refine Sx.o (fun _ _ _ k => ex_aload_n dX6_fillWords_27 rfl rfl k) ?_
  refine Sx.o (fun _ _ _ k => op_iconst (2 : Int32) dX6_fillWords_28 (by decide) k) ?_
  obtain ⟨x17, e_x17, hb18⟩ := ob2 hb16
  refine sx_callV (dc := 0) (as := [.int (2 : Int32)]) (stq := [.int x17, .int (2 : Int32), .ref x15]) (by omega) dX6_fillWords_29 MX4_card kX6_23 iX4_card sX4_card rfl rfl (Row_card_o e_x17) rfl rfl (Nat.le_of_ble_eq_true rfl) (Nat.le_of_ble_eq_true rfl) (Row_card_s e_x17) rfl ?_
  obtain ⟨h19, e_h19, hb20⟩ := ob2 hb18
  refine Sx.p (sI_q e_h19) (fun _ _ _ k => op_iast dX6_fillWords_32 e_h19 k) ?_
  refine Sx.o (fun _ _ _ k => ex_aload_n dX6_fillWords_33 rfl rfl k) ?_
  obtain ⟨x22, e_x22, hb23⟩ := ob2 hb20
  refine Sx.o (fun _ _ _ k => op_getR fX6_9 dX6_fillWords_34 e_x22 k) ?_
  refine Sx.o (fun _ _ _ k => op_iconst (3 : Int32) dX6_fillWords_37 (by decide) k) ?_
  refine Sx.o (fun _ _ _ k => ex_aload_n dX6_fillWords_38 rfl rfl k) ?_
  refine Sx.o (fun _ _ _ k => ex_aload_n dX6_fillWords_39 rfl rfl k) ?_
  obtain ⟨x24, e_x24, hb25⟩ := ob2 hb23
  refine Sx.o (fun _ _ _ k => op_getI fX6_59 dX6_fillWords_40 e_x24 k) ?_
  refine Sx.o (fun _ _ _ k => op_iconst (1 : Int32) dX6_fillWords_43 (by decide) k) ?_
  refine Sx.o (fun _ _ _ k => ex_isub dX6_fillWords_44 k) ?_
  obtain ⟨x26, e_x26, hb27⟩ := ob2 hb25
  refine sx_callV (dc := 0) (as := [.int (x24 - (1 : Int32))]) (stq := [.int x26, .int (3 : Int32), .ref x22]) (by omega) dX6_fillWords_45 MX4_card kX6_23 iX4_card sX4_card rfl rfl (Row_card_o e_x26) rfl rfl (Nat.le_of_ble_eq_true rfl) (Nat.le_of_ble_eq_true rfl) (Row_card_s e_x26) rfl ?_
  obtain ⟨h28, e_h28, hb29⟩ := ob2 hb27
  refine Sx.p (sI_q e_h28) (fun _ _ _ k => op_iast dX6_fillWords_48 e_h28 k) ?_
  refine Sx.o (fun _ _ _ k => ex_aload_n dX6_fillWords_49 rfl rfl k) ?_
  obtain ⟨x31, e_x31, hb32⟩ := ob2 hb29
  refine Sx.o (fun _ _ _ k => op_getR fX6_9 dX6_fillWords_50 e_x31 k) ?_
  refine Sx.o (fun _ _ _ k => op_iconst (4 : Int32) dX6_fillWords_53 (by decide) k) ?_
  refine Sx.o (fun _ _ _ k => ex_aload_n dX6_fillWords_54 rfl rfl k) ?_
  obtain ⟨x33, e_x33, hb34⟩ := ob2 hb32
  refine Sx.o (fun _ _ _ k => op_getI fX6_59 dX6_fillWords_55 e_x33 k) ?_
  obtain ⟨h35, e_h35, hb36⟩ := ob2 hb34
  refine Sx.p (sI_q e_h35) (fun _ _ _ k => op_iast dX6_fillWords_58 e_h35 k) ?_
  refine Sx.o (fun _ _ _ k => ex_aload_n dX6_fillWords_59 rfl rfl k) ?_
  obtain ⟨x38, e_x38, hb39⟩ := ob2 hb36
  refine Sx.o (fun _ _ _ k => op_getR fX6_9 dX6_fillWords_60 e_x38 k) ?_
  refine Sx.o (fun _ _ _ k => op_iconst (5 : Int32) dX6_fillWords_63 (by decide) k) ?_
  refine Sx.o (fun _ _ _ k => ex_aload_n dX6_fillWords_64 rfl rfl k) ?_
  obtain ⟨x40, e_x40, hb41⟩ := ob2 hb39
  refine Sx.o (fun _ _ _ k => op_getI fX6_29 dX6_fillWords_65 e_x40 k) ?_
  obtain ⟨h42, e_h42, hb43⟩ := ob2 hb41
  refine Sx.p (sI_q e_h42) (fun _ _ _ k => op_iast dX6_fillWords_68 e_h42 k) ?_
  refine Sx.o (fun _ _ _ k => ex_aload_n dX6_fillWords_69 rfl rfl k) ?_
  obtain ⟨x45, e_x45, hb46⟩ := ob2 hb43
  refine Sx.o (fun _ _ _ k => op_getR fX6_9 dX6_fillWords_70 e_x45 k) ?_
  refine Sx.o (fun _ _ _ k => op_bipush (6 : Int32) dX6_fillWords_73 (by decide) k) ?_
  refine Sx.o (fun _ _ _ k => ex_aload_n dX6_fillWords_75 rfl rfl k) ?_
  obtain ⟨x47, e_x47, hb48⟩ := ob2 hb46
  refine Sx.o (fun _ _ _ k => op_getI fX6_62 dX6_fillWords_76 e_x47 k) ?_
  obtain ⟨h49, e_h49, hb50⟩ := ob2 hb48
  refine Sx.p (sI_q e_h49) (fun _ _ _ k => op_iast dX6_fillWords_79 e_h49 k) ?_
  refine Sx.o (fun _ _ _ k => ex_aload_n dX6_fillWords_80 rfl rfl k) ?_
  obtain ⟨x52, e_x52, hb53⟩ := ob2 hb50
  refine Sx.o (fun _ _ _ k => op_getR fX6_9 dX6_fillWords_81 e_x52 k) ?_
  refine Sx.o (fun _ _ _ k => op_bipush (7 : Int32) dX6_fillWords_84 (by decide) k) ?_
  refine Sx.o (fun _ _ _ k => ex_aload_n dX6_fillWords_86 rfl rfl k) ?_
  obtain ⟨x54, e_x54, hb55⟩ := ob2 hb53
  refine Sx.o (fun _ _ _ k => op_getR fX6_19 dX6_fillWords_87 e_x54 k) ?_
  obtain ⟨x56, e_x56, hb57⟩ := ob2 hb55
  refine Sx.o (fun _ _ _ k => op_getI fX6_65 dX6_fillWords_90 e_x56 k) ?_
  obtain ⟨h58, e_h58, hb59⟩ := ob2 hb57
  refine Sx.p (sI_q e_h58) (fun _ _ _ k => op_iast dX6_fillWords_93 e_h58 k) ?_
  obtain rfl := Option.some.inj hb59
  exact Sx.r (fun _ _ _ k => ex_vret rfl dX6_fillWords_94 k)
set_option maxHeartbeats 1000000 in
set_option maxRecDepth 100000 in
theorem Steps_fillWords_q {v0 : Nat} {v1 : Nat} {h : am_H} {r : am_H} (hb : Steps_fillWords v0 v1 h = some r) : Eqs h r := by
  unfold Steps_fillWords at hb
  have hb := (iz hb).2
  have w0 := Eqs.rf h
  obtain ⟨x1, e_x1, hb2⟩ := ob2 hb
  obtain ⟨x3, e_x3, hb4⟩ := ob2 hb2
  obtain ⟨h5, e_h5, hb6⟩ := ob2 hb4
  have w7 := w0.tr (sI_q e_h5)
  obtain ⟨x8, e_x8, hb9⟩ := ob2 hb6
  obtain ⟨x10, e_x10, hb11⟩ := ob2 hb9
  obtain ⟨h12, e_h12, hb13⟩ := ob2 hb11
  have w14 := w7.tr (sI_q e_h12)
  obtain ⟨x15, e_x15, hb16⟩ := ob2 hb13
  obtain ⟨x17, e_x17, hb18⟩ := ob2 hb16
  obtain ⟨h19, e_h19, hb20⟩ := ob2 hb18
  have w21 := w14.tr (sI_q e_h19)
  obtain ⟨x22, e_x22, hb23⟩ := ob2 hb20
  obtain ⟨x24, e_x24, hb25⟩ := ob2 hb23
  obtain ⟨x26, e_x26, hb27⟩ := ob2 hb25
  obtain ⟨h28, e_h28, hb29⟩ := ob2 hb27
  have w30 := w21.tr (sI_q e_h28)
  obtain ⟨x31, e_x31, hb32⟩ := ob2 hb29
  obtain ⟨x33, e_x33, hb34⟩ := ob2 hb32
  obtain ⟨h35, e_h35, hb36⟩ := ob2 hb34
  have w37 := w30.tr (sI_q e_h35)
  obtain ⟨x38, e_x38, hb39⟩ := ob2 hb36
  obtain ⟨x40, e_x40, hb41⟩ := ob2 hb39
  obtain ⟨h42, e_h42, hb43⟩ := ob2 hb41
  have w44 := w37.tr (sI_q e_h42)
  obtain ⟨x45, e_x45, hb46⟩ := ob2 hb43
  obtain ⟨x47, e_x47, hb48⟩ := ob2 hb46
  obtain ⟨h49, e_h49, hb50⟩ := ob2 hb48
  have w51 := w44.tr (sI_q e_h49)
  obtain ⟨x52, e_x52, hb53⟩ := ob2 hb50
  obtain ⟨x54, e_x54, hb55⟩ := ob2 hb53
  obtain ⟨x56, e_x56, hb57⟩ := ob2 hb55
  obtain ⟨h58, e_h58, hb59⟩ := ob2 hb57
  have w60 := w51.tr (sI_q e_h58)
  obtain rfl := Option.some.inj hb59
  exact w60
theorem Steps_fillWords_o {v0 : Nat} {v1 : Nat} {h : am_H} {r : am_H} (hb : Steps_fillWords v0 v1 h = some r) : isO h 6 v0 = true := by
  unfold Steps_fillWords at hb
  exact (iz hb).1
set_option maxHeartbeats 1000000 in
set_option maxRecDepth 100000 in
noncomputable def Steps_look_148 (s0 : Int32) (h : am_H) : Option (Int32 × am_H) := if s0 = (0 : Int32) then some ((1 : Int32), h) else some ((3 : Int32), h)
set_option maxHeartbeats 1000000 in
set_option maxRecDepth 100000 in
theorem Steps_look_148_s {s0 : Int32} {h : am_H} {r : (Int32 × am_H)} (hb : Steps_look_148 s0 h = some r) : Sx 3 mX6_look 148 [.retAddr 0, .retAddr 0, .retAddr 0, .retAddr 0, .retAddr 0, .retAddr 0] [.int s0] h (some (.int r.1)) r.2 := by
  unfold Steps_look_148 at hb
  refine Sx.o (L' := [.retAddr 0, .retAddr 0, .retAddr 0, .retAddr 0, .retAddr 0, .int s0]) (fun _ _ _ k => ex_istore dX6_look_148 (by decide) k) ?_
  refine Sx.o (fun _ _ _ k => ex_iload dX6_look_150 rfl k) ?_
  refine Sx.b (fun _ _ _ k1 k2 => ex_if_eq 159 dX6_look_152 (by decide) k1 k2) (fun q => ?_) (fun q => ?_)
  · have hb1 := ip q hb
    refine Sx.o (fun _ _ _ k => op_iconst (1 : Int32) dX6_look_159 (by decide) k) ?_
    obtain rfl := Option.some.inj hb1
    exact Sx.r (fun _ _ _ k => ex_iret rfl dX6_look_160 k)
  · have hb2 := iq q hb
    refine Sx.o (fun _ _ _ k => op_iconst (3 : Int32) dX6_look_155 (by decide) k) ?_
    refine Sx.o (fun _ _ _ k => ex_goto 160 dX6_look_156 (by decide) k) ?_
    obtain rfl := Option.some.inj hb2
    exact Sx.r (fun _ _ _ k => ex_iret rfl dX6_look_160 k)
set_option maxHeartbeats 1000000 in
set_option maxRecDepth 100000 in
theorem Steps_look_148_q {s0 : Int32} {h : am_H} {r : (Int32 × am_H)} (hb : Steps_look_148 s0 h = some r) : Eqs h r.2 := by
  unfold Steps_look_148 at hb
  have w0 := Eqs.rf h
  by_cases q : s0 = (0 : Int32)
  · have hb1 := ip q hb
    obtain rfl := Option.some.inj hb1
    exact w0
  · have hb2 := iq q hb
    obtain rfl := Option.some.inj hb2
    exact w0
set_option maxHeartbeats 1000000 in
set_option maxRecDepth 100000 in
noncomputable def Steps_look_147 (h : am_H) : Option (Int32 × am_H) := Steps_look_148 (0 : Int32) h
set_option maxHeartbeats 1000000 in
set_option maxRecDepth 100000 in
theorem Steps_look_147_s {h : am_H} {r : (Int32 × am_H)} (hb : Steps_look_147 h = some r) : Sx 3 mX6_look 147 [.retAddr 0, .retAddr 0, .retAddr 0, .retAddr 0, .retAddr 0, .retAddr 0] [] h (some (.int r.1)) r.2 := by
  unfold Steps_look_147 at hb
  refine Sx.o (fun _ _ _ k => op_iconst (0 : Int32) dX6_look_147 (by decide) k) ?_
  exact Steps_look_148_s hb
set_option maxHeartbeats 1000000 in
set_option maxRecDepth 100000 in
theorem Steps_look_147_q {h : am_H} {r : (Int32 × am_H)} (hb : Steps_look_147 h = some r) : Eqs h r.2 := by
  unfold Steps_look_147 at hb
  have w0 := Eqs.rf h
  exact w0.tr (Steps_look_148_q hb)
set_option maxHeartbeats 1000000 in
set_option maxRecDepth 100000 in
noncomputable def Steps_look_101 (v0 : Nat) (v1 : Nat) (v3 : Int32) (h : am_H) : Option (Int32 × am_H) := if v3 = (0 : Int32) then (gI h 6 v0 0).bind fun x5 => if x5 < (0 : Int32) then Steps_look_147 h else (gI h 6 v0 0).bind fun x9 => (gI h 4 v1 1).bind fun x11 => if x11 < x9 then Steps_look_147 h else (gI h 6 v0 1).bind fun x15 => if x15 < (0 : Int32) then Steps_look_147 h else (gI h 6 v0 1).bind fun x19 => (gI h 4 v1 1).bind fun x21 => if x21 < x19 then Steps_look_147 h else Steps_look_148 (1 : Int32) h else some ((0 : Int32), h)
set_option maxHeartbeats 1000000 in
set_option maxRecDepth 100000 in
theorem Steps_look_101_s {v0 : Nat} {v1 : Nat} {v3 : Int32} {h : am_H} {r : (Int32 × am_H)} (hb : Steps_look_101 v0 v1 v3 h = some r) : Sx 3 mX6_look 101 [.ref v0, .ref v1, .retAddr 0, .int v3, .retAddr 0, .retAddr 0] [] h (some (.int r.1)) r.2 := by
  unfold Steps_look_101 at hb
  refine Sx.o (fun _ _ _ k => ex_iload_n dX6_look_101 rfl k) ?_
  refine Sx.b (fun _ _ _ k1 k2 => ex_if_eq 107 dX6_look_102 (by decide) k1 k2) (fun q => ?_) (fun q => ?_)
  · have hb3 := ip q hb
    refine Sx.o (fun _ _ _ k => ex_aload_n dX6_look_107 rfl rfl k) ?_
    obtain ⟨x5, e_x5, hb6⟩ := ob2 hb3
    refine Sx.o (fun _ _ _ k => op_getI fX6_33 dX6_look_108 e_x5 k) ?_
    refine Sx.b (fun _ _ _ k1 k2 => ex_if_lt 147 dX6_look_111 (by decide) k1 k2) (fun q => ?_) (fun q => ?_)
    · have hb7 := ip q hb6
      refine Sx.fg [false, false, true, false, true, true] ?_
      exact Steps_look_147_s hb7
    · have hb8 := iq q hb6
      refine Sx.o (fun _ _ _ k => ex_aload_n dX6_look_114 rfl rfl k) ?_
      obtain ⟨x9, e_x9, hb10⟩ := ob2 hb8
      refine Sx.o (fun _ _ _ k => op_getI fX6_33 dX6_look_115 e_x9 k) ?_
      refine Sx.o (fun _ _ _ k => ex_aload_n dX6_look_118 rfl rfl k) ?_
      obtain ⟨x11, e_x11, hb12⟩ := ob2 hb10
      refine Sx.o (fun _ _ _ k => op_getI fX6_59 dX6_look_119 e_x11 k) ?_
      refine Sx.b (fun _ _ _ k1 k2 => ex_icmp_gt 147 dX6_look_122 (by decide) k1 k2) (fun q => ?_) (fun q => ?_)
      · have hb13 := ip q hb12
        refine Sx.fg [false, false, true, false, true, true] ?_
        exact Steps_look_147_s hb13
      · have hb14 := iq q hb12
        refine Sx.o (fun _ _ _ k => ex_aload_n dX6_look_125 rfl rfl k) ?_
        obtain ⟨x15, e_x15, hb16⟩ := ob2 hb14
        refine Sx.o (fun _ _ _ k => op_getI fX6_36 dX6_look_126 e_x15 k) ?_
        refine Sx.b (fun _ _ _ k1 k2 => ex_if_lt 147 dX6_look_129 (by decide) k1 k2) (fun q => ?_) (fun q => ?_)
        · have hb17 := ip q hb16
          refine Sx.fg [false, false, true, false, true, true] ?_
          exact Steps_look_147_s hb17
        · have hb18 := iq q hb16
          refine Sx.o (fun _ _ _ k => ex_aload_n dX6_look_132 rfl rfl k) ?_
          obtain ⟨x19, e_x19, hb20⟩ := ob2 hb18
          refine Sx.o (fun _ _ _ k => op_getI fX6_36 dX6_look_133 e_x19 k) ?_
          refine Sx.o (fun _ _ _ k => ex_aload_n dX6_look_136 rfl rfl k) ?_
          obtain ⟨x21, e_x21, hb22⟩ := ob2 hb20
          refine Sx.o (fun _ _ _ k => op_getI fX6_59 dX6_look_137 e_x21 k) ?_
          refine Sx.b (fun _ _ _ k1 k2 => ex_icmp_gt 147 dX6_look_140 (by decide) k1 k2) (fun q => ?_) (fun q => ?_)
          · have hb23 := ip q hb22
            refine Sx.fg [false, false, true, false, true, true] ?_
            exact Steps_look_147_s hb23
          · have hb24 := iq q hb22
            refine Sx.o (fun _ _ _ k => op_iconst (1 : Int32) dX6_look_143 (by decide) k) ?_
            refine Sx.o (fun _ _ _ k => ex_goto 148 dX6_look_144 (by decide) k) ?_
            refine Sx.fg [false, false, true, false, true, true] ?_
            exact Steps_look_148_s hb24
  · have hb4 := iq q hb
    refine Sx.o (fun _ _ _ k => op_iconst (0 : Int32) dX6_look_105 (by decide) k) ?_
    obtain rfl := Option.some.inj hb4
    exact Sx.r (fun _ _ _ k => ex_iret rfl dX6_look_106 k)
set_option maxHeartbeats 1000000 in
set_option maxRecDepth 100000 in
theorem Steps_look_101_q {v0 : Nat} {v1 : Nat} {v3 : Int32} {h : am_H} {r : (Int32 × am_H)} (hb : Steps_look_101 v0 v1 v3 h = some r) : Eqs h r.2 := by
  unfold Steps_look_101 at hb
  have w0 := Eqs.rf h
  by_cases q : v3 = (0 : Int32)
  · have hb3 := ip q hb
    obtain ⟨x5, e_x5, hb6⟩ := ob2 hb3
    by_cases q : x5 < (0 : Int32)
    · have hb7 := ip q hb6
      exact w0.tr (Steps_look_147_q hb7)
    · have hb8 := iq q hb6
      obtain ⟨x9, e_x9, hb10⟩ := ob2 hb8
      obtain ⟨x11, e_x11, hb12⟩ := ob2 hb10
      by_cases q : x11 < x9
      · have hb13 := ip q hb12
        exact w0.tr (Steps_look_147_q hb13)
      · have hb14 := iq q hb12
        obtain ⟨x15, e_x15, hb16⟩ := ob2 hb14
        by_cases q : x15 < (0 : Int32)
        · have hb17 := ip q hb16
          exact w0.tr (Steps_look_147_q hb17)
        · have hb18 := iq q hb16
          obtain ⟨x19, e_x19, hb20⟩ := ob2 hb18
          obtain ⟨x21, e_x21, hb22⟩ := ob2 hb20
          by_cases q : x21 < x19
          · have hb23 := ip q hb22
            exact w0.tr (Steps_look_147_q hb23)
          · have hb24 := iq q hb22
            exact w0.tr (Steps_look_148_q hb24)
  · have hb4 := iq q hb
    obtain rfl := Option.some.inj hb4
    exact w0
set_option maxHeartbeats 1000000 in
set_option maxRecDepth 100000 in
noncomputable def Steps_look_30 (v0 : Nat) (v1 : Nat) (v3 : Int32) (s0 : Int32) (s1 : Nat) (h : am_H) : Option (Int32 × am_H) := (pV h 6 s1 0 (.int s0)).bind fun h25 => (pV h25 6 v0 1 (.int (0 : Int32))).bind fun h28 => (gR h28 6 v0 8).bind fun x31 => (Table_inForce x31 h28).bind fun x33 => if x33 = none then Steps_look_101 v0 v1 v3 h28 else (x33).bind fun x37 => (Steps_fillWords v0 v1 h28).bind fun h39 => (gR h39 6 v0 9).bind fun x42 => (gI h39 6 v0 0).bind fun x44 => (Text_latestOf x37 (0 : Int32) x42 x44 h39).bind fun r46 => (pV r46.2 6 v0 0 (.int r46.1)).bind fun h49 => (gR h49 6 v0 9).bind fun x52 => (Text_latestOf x37 (1 : Int32) x52 (0 : Int32) h49).bind fun r54 => (pV r54.2 6 v0 1 (.int r54.1)).bind fun h57 => (gR h57 6 v0 9).bind fun x60 => (Text_hasEnded x37 x60 v3 h57).bind fun r62 => Steps_look_101 v0 v1 r62.1 r62.2
set_option maxHeartbeats 1000000 in
set_option maxRecDepth 100000 in
theorem Steps_look_30_s {v0 : Nat} {v1 : Nat} {v3 : Int32} {s0 : Int32} {s1 : Nat} {h : am_H} {r : (Int32 × am_H)} (hb : Steps_look_30 v0 v1 v3 s0 s1 h = some r) : Sx 3 mX6_look 30 [.ref v0, .ref v1, .retAddr 0, .int v3, .retAddr 0, .retAddr 0] [.int s0, .ref s1] h (some (.int r.1)) r.2 := by
  unfold Steps_look_30 at hb
  obtain ⟨h25, e_h25, hb26⟩ := ob2 hb
  refine Sx.p (pV_q e_h25) (fun _ _ _ k => op_put pX6_33 dX6_look_30 e_h25 (fun _ => rfl) (fun _ => rfl) k) ?_
  refine Sx.o (fun _ _ _ k => ex_aload_n dX6_look_33 rfl rfl k) ?_
  refine Sx.o (fun _ _ _ k => op_iconst (0 : Int32) dX6_look_34 (by decide) k) ?_
  obtain ⟨h28, e_h28, hb29⟩ := ob2 hb26
  refine Sx.p (pV_q e_h28) (fun _ _ _ k => op_put pX6_36 dX6_look_35 e_h28 (fun _ => rfl) (fun _ => rfl) k) ?_
  refine Sx.o (fun _ _ _ k => ex_aload_n dX6_look_38 rfl rfl k) ?_
  obtain ⟨x31, e_x31, hb32⟩ := ob2 hb29
  refine Sx.o (fun _ _ _ k => op_getR fX6_19 dX6_look_39 e_x31 k) ?_
  obtain ⟨x33, e_x33, hb34⟩ := ob2 hb32
  refine sx_callV (dc := 0) (as := []) (stq := [va_rf x33]) (by omega) dX6_look_42 MX7_inForce kX6_39 iX7_inForce sX7_inForce rfl rfl (Table_inForce_o e_x33) rfl rfl (Nat.le_of_ble_eq_true rfl) (Nat.le_of_ble_eq_true rfl) (Table_inForce_s e_x33) rfl ?_
  refine Sx.o (L' := [.ref v0, .ref v1, .retAddr 0, .int v3, va_rf x33, .retAddr 0]) (fun _ _ _ k => ex_astore dX6_look_45 (am_rfv _) (by decide) k) ?_
  refine Sx.o (fun _ _ _ k => ex_aload dX6_look_47 rfl (am_rfv _) k) ?_
  refine Sx.b (fun _ _ _ k1 k2 => op_ifnull (r := x33) 101 dX6_look_49 (by decide) k1 k2) (fun q => ?_) (fun q => ?_)
  · have hb35 := ip q hb34
    refine Sx.fg [true, true, true, true, false, true] ?_
    exact Steps_look_101_s hb35
  · have hb36 := iq q hb34
    obtain ⟨x37, e_x37, hb38⟩ := ob2 hb36
    subst e_x37
    refine Sx.o (fun _ _ _ k => ex_aload_n dX6_look_52 rfl rfl k) ?_
    refine Sx.o (fun _ _ _ k => ex_aload_n dX6_look_53 rfl rfl k) ?_
    obtain ⟨h39, e_h39, hb40⟩ := ob2 hb38
    refine sx_callV (dc := 1) (as := [.ref v1]) (stq := []) (by omega) dX6_look_54 MX6_fillWords kX6_45 iX6_fillWords sX6_fillWords rfl rfl (Steps_fillWords_o e_h39) rfl rfl (Nat.le_of_ble_eq_true rfl) (Nat.le_of_ble_eq_true rfl) (Steps_fillWords_s e_h39) rfl ?_
    refine Sx.o (fun _ _ _ k => ex_aload_n dX6_look_57 rfl rfl k) ?_
    refine Sx.o (fun _ _ _ k => ex_aload dX6_look_58 rfl rfl k) ?_
    refine Sx.o (fun _ _ _ k => op_iconst (0 : Int32) dX6_look_60 (by decide) k) ?_
    refine Sx.o (fun _ _ _ k => ex_aload_n dX6_look_61 rfl rfl k) ?_
    obtain ⟨x42, e_x42, hb43⟩ := ob2 hb40
    refine Sx.o (fun _ _ _ k => op_getR fX6_9 dX6_look_62 e_x42 k) ?_
    refine Sx.o (fun _ _ _ k => ex_aload_n dX6_look_65 rfl rfl k) ?_
    obtain ⟨x44, e_x44, hb45⟩ := ob2 hb43
    refine Sx.o (fun _ _ _ k => op_getI fX6_33 dX6_look_66 e_x44 k) ?_
    obtain ⟨r46, e_r46, hb47⟩ := ob2 hb45
    refine sx_callV (dc := 2) (as := [.int (0 : Int32), .ref x42, .int x44]) (stq := [.int r46.1, .ref v0]) (by omega) dX6_look_69 MX9_latestOf kX6_51 iX9_latestOf sX9_latestOf rfl rfl (Text_latestOf_o e_r46) rfl rfl (Nat.le_of_ble_eq_true rfl) (Nat.le_of_ble_eq_true rfl) (Text_latestOf_s e_r46) rfl ?_
    obtain ⟨h49, e_h49, hb50⟩ := ob2 hb47
    refine Sx.p (pV_q e_h49) (fun _ _ _ k => op_put pX6_33 dX6_look_72 e_h49 (fun _ => rfl) (fun _ => rfl) k) ?_
    refine Sx.o (fun _ _ _ k => ex_aload_n dX6_look_75 rfl rfl k) ?_
    refine Sx.o (fun _ _ _ k => ex_aload dX6_look_76 rfl rfl k) ?_
    refine Sx.o (fun _ _ _ k => op_iconst (1 : Int32) dX6_look_78 (by decide) k) ?_
    refine Sx.o (fun _ _ _ k => ex_aload_n dX6_look_79 rfl rfl k) ?_
    obtain ⟨x52, e_x52, hb53⟩ := ob2 hb50
    refine Sx.o (fun _ _ _ k => op_getR fX6_9 dX6_look_80 e_x52 k) ?_
    refine Sx.o (fun _ _ _ k => op_iconst (0 : Int32) dX6_look_83 (by decide) k) ?_
    obtain ⟨r54, e_r54, hb55⟩ := ob2 hb53
    refine sx_callV (dc := 2) (as := [.int (1 : Int32), .ref x52, .int (0 : Int32)]) (stq := [.int r54.1, .ref v0]) (by omega) dX6_look_84 MX9_latestOf kX6_51 iX9_latestOf sX9_latestOf rfl rfl (Text_latestOf_o e_r54) rfl rfl (Nat.le_of_ble_eq_true rfl) (Nat.le_of_ble_eq_true rfl) (Text_latestOf_s e_r54) rfl ?_
    obtain ⟨h57, e_h57, hb58⟩ := ob2 hb55
    refine Sx.p (pV_q e_h57) (fun _ _ _ k => op_put pX6_36 dX6_look_87 e_h57 (fun _ => rfl) (fun _ => rfl) k) ?_
    refine Sx.o (fun _ _ _ k => ex_aload dX6_look_90 rfl rfl k) ?_
    refine Sx.o (fun _ _ _ k => ex_aload_n dX6_look_92 rfl rfl k) ?_
    obtain ⟨x60, e_x60, hb61⟩ := ob2 hb58
    refine Sx.o (fun _ _ _ k => op_getR fX6_9 dX6_look_93 e_x60 k) ?_
    refine Sx.o (fun _ _ _ k => ex_iload_n dX6_look_96 rfl k) ?_
    obtain ⟨r62, e_r62, hb63⟩ := ob2 hb61
    refine sx_callV (dc := 2) (as := [.ref x60, .int v3]) (stq := [.int r62.1]) (by omega) dX6_look_97 MX9_hasEnded kX6_55 iX9_hasEnded sX9_hasEnded rfl rfl (Text_hasEnded_o e_r62) rfl rfl (Nat.le_of_ble_eq_true rfl) (Nat.le_of_ble_eq_true rfl) (Text_hasEnded_s e_r62) rfl ?_
    refine Sx.o (L' := [.ref v0, .ref v1, .retAddr 0, .int r62.1, .ref x37, .retAddr 0]) (fun _ _ _ k => ex_istore_n dX6_look_100 (by decide) k) ?_
    refine Sx.fg [true, true, true, true, false, true] ?_
    exact Steps_look_101_s hb63
set_option maxHeartbeats 1000000 in
set_option maxRecDepth 100000 in
theorem Steps_look_30_q {v0 : Nat} {v1 : Nat} {v3 : Int32} {s0 : Int32} {s1 : Nat} {h : am_H} {r : (Int32 × am_H)} (hb : Steps_look_30 v0 v1 v3 s0 s1 h = some r) : Eqs h r.2 := by
  unfold Steps_look_30 at hb
  have w0 := Eqs.rf h
  obtain ⟨h25, e_h25, hb26⟩ := ob2 hb
  have w27 := w0.tr (pV_q e_h25)
  obtain ⟨h28, e_h28, hb29⟩ := ob2 hb26
  have w30 := w27.tr (pV_q e_h28)
  obtain ⟨x31, e_x31, hb32⟩ := ob2 hb29
  obtain ⟨x33, e_x33, hb34⟩ := ob2 hb32
  by_cases q : x33 = none
  · have hb35 := ip q hb34
    exact w30.tr (Steps_look_101_q hb35)
  · have hb36 := iq q hb34
    obtain ⟨x37, e_x37, hb38⟩ := ob2 hb36
    subst e_x37
    obtain ⟨h39, e_h39, hb40⟩ := ob2 hb38
    have w41 := w30.tr (Steps_fillWords_q e_h39)
    obtain ⟨x42, e_x42, hb43⟩ := ob2 hb40
    obtain ⟨x44, e_x44, hb45⟩ := ob2 hb43
    obtain ⟨r46, e_r46, hb47⟩ := ob2 hb45
    have w48 := w41.tr (Text_latestOf_q e_r46)
    obtain ⟨h49, e_h49, hb50⟩ := ob2 hb47
    have w51 := w48.tr (pV_q e_h49)
    obtain ⟨x52, e_x52, hb53⟩ := ob2 hb50
    obtain ⟨r54, e_r54, hb55⟩ := ob2 hb53
    have w56 := w51.tr (Text_latestOf_q e_r54)
    obtain ⟨h57, e_h57, hb58⟩ := ob2 hb55
    have w59 := w56.tr (pV_q e_h57)
    obtain ⟨x60, e_x60, hb61⟩ := ob2 hb58
    obtain ⟨r62, e_r62, hb63⟩ := ob2 hb61
    have w64 := w59.tr (Text_hasEnded_q e_r62)
    exact w64.tr (Steps_look_101_q hb63)
set_option maxHeartbeats 1000000 in
set_option maxRecDepth 100000 in
noncomputable def Steps_look_16 (v0 : Nat) (v1 : Nat) (v2 : Int32) (s0 : Int32) (h : am_H) : Option (Int32 × am_H) := if v2 = (0 : Int32) then (gI h 4 v1 3).bind fun x67 => Steps_look_30 v0 v1 s0 x67 v0 h else Steps_look_30 v0 v1 s0 v2 v0 h
set_option maxHeartbeats 1000000 in
set_option maxRecDepth 100000 in
theorem Steps_look_16_s {v0 : Nat} {v1 : Nat} {v2 : Int32} {s0 : Int32} {h : am_H} {r : (Int32 × am_H)} (hb : Steps_look_16 v0 v1 v2 s0 h = some r) : Sx 3 mX6_look 16 [.ref v0, .ref v1, .int v2, .retAddr 0, .retAddr 0, .retAddr 0] [.int s0] h (some (.int r.1)) r.2 := by
  unfold Steps_look_16 at hb
  refine Sx.o (L' := [.ref v0, .ref v1, .int v2, .int s0, .retAddr 0, .retAddr 0]) (fun _ _ _ k => ex_istore_n dX6_look_16 (by decide) k) ?_
  refine Sx.o (fun _ _ _ k => ex_aload_n dX6_look_17 rfl rfl k) ?_
  refine Sx.o (fun _ _ _ k => ex_iload_n dX6_look_18 rfl k) ?_
  refine Sx.bn (fun _ _ _ k1 k2 => ex_if_ne 29 dX6_look_19 (by decide) k1 k2) (fun q => ?_) (fun q => ?_)
  · have hb65 := iq q hb
    refine Sx.o (fun _ _ _ k => ex_iload_n dX6_look_29 rfl k) ?_
    refine Sx.fg [true, true, false, true, true, true] ?_
    exact Steps_look_30_s hb65
  · have hb66 := ip q hb
    refine Sx.o (fun _ _ _ k => ex_aload_n dX6_look_22 rfl rfl k) ?_
    obtain ⟨x67, e_x67, hb68⟩ := ob2 hb66
    refine Sx.o (fun _ _ _ k => op_getI fX6_29 dX6_look_23 e_x67 k) ?_
    refine Sx.o (fun _ _ _ k => ex_goto 30 dX6_look_26 (by decide) k) ?_
    refine Sx.fg [true, true, false, true, true, true] ?_
    exact Steps_look_30_s hb68
set_option maxHeartbeats 1000000 in
set_option maxRecDepth 100000 in
theorem Steps_look_16_q {v0 : Nat} {v1 : Nat} {v2 : Int32} {s0 : Int32} {h : am_H} {r : (Int32 × am_H)} (hb : Steps_look_16 v0 v1 v2 s0 h = some r) : Eqs h r.2 := by
  unfold Steps_look_16 at hb
  have w0 := Eqs.rf h
  by_cases q : v2 = (0 : Int32)
  · have hb66 := ip q hb
    obtain ⟨x67, e_x67, hb68⟩ := ob2 hb66
    exact w0.tr (Steps_look_30_q hb68)
  · have hb65 := iq q hb
    exact w0.tr (Steps_look_30_q hb65)
set_option maxHeartbeats 1000000 in
set_option maxRecDepth 100000 in
noncomputable def Steps_look (v0 : Nat) (v1 : Nat) (h : am_H) : Option (Int32 × am_H) := if isO h 6 v0 = true then (Row_card v1 (0 : Int32) h).bind fun x69 => if x69 = (1 : Int32) then Steps_look_16 v0 v1 x69 (1 : Int32) h else Steps_look_16 v0 v1 x69 (0 : Int32) h else none
set_option maxHeartbeats 1000000 in
set_option maxRecDepth 100000 in
theorem Steps_look_s {v0 : Nat} {v1 : Nat} {h : am_H} {r : (Int32 × am_H)} (hb : Steps_look v0 v1 h = some r) : Sx 3 mX6_look 0 (am_en [.ref v0, .ref v1] 6) [] h (some (.int r.1)) r.2 := by
  unfold Steps_look at hb
  have hb := (iz hb).2
  show Sx 3 mX6_look 0 [.ref v0, .ref v1, .retAddr 0, .retAddr 0, .retAddr 0, .retAddr 0] [] h (some (.int r.1)) r.2
  refine Sx.o (fun _ _ _ k => ex_aload_n dX6_look_0 rfl rfl k) ?_
  refine Sx.o (fun _ _ _ k => op_iconst (0 : Int32) dX6_look_1 (by decide) k) ?_
  obtain ⟨x69, e_x69, hb70⟩ := ob2 hb
  refine sx_callV (dc := 0) (as := [.int (0 : Int32)]) (stq := [.int x69]) (by omega) dX6_look_2 MX4_card kX6_23 iX4_card sX4_card rfl rfl (Row_card_o e_x69) rfl rfl (Nat.le_of_ble_eq_true rfl) (Nat.le_of_ble_eq_true rfl) (Row_card_s e_x69) rfl ?_
  refine Sx.o (L' := [.ref v0, .ref v1, .int x69, .retAddr 0, .retAddr 0, .retAddr 0]) (fun _ _ _ k => ex_istore_n dX6_look_5 (by decide) k) ?_
  refine Sx.o (fun _ _ _ k => ex_iload_n dX6_look_6 rfl k) ?_
  refine Sx.o (fun _ _ _ k => op_iconst (1 : Int32) dX6_look_7 (by decide) k) ?_
  refine Sx.bn (fun _ _ _ k1 k2 => ex_icmp_ne 15 dX6_look_8 (by decide) k1 k2) (fun q => ?_) (fun q => ?_)
  · have hb71 := iq q hb70
    refine Sx.o (fun _ _ _ k => op_iconst (0 : Int32) dX6_look_15 (by decide) k) ?_
    exact Steps_look_16_s hb71
  · have hb72 := ip q hb70
    refine Sx.o (fun _ _ _ k => op_iconst (1 : Int32) dX6_look_11 (by decide) k) ?_
    refine Sx.o (fun _ _ _ k => ex_goto 16 dX6_look_12 (by decide) k) ?_
    exact Steps_look_16_s hb72
set_option maxHeartbeats 1000000 in
set_option maxRecDepth 100000 in
theorem Steps_look_q {v0 : Nat} {v1 : Nat} {h : am_H} {r : (Int32 × am_H)} (hb : Steps_look v0 v1 h = some r) : Eqs h r.2 := by
  unfold Steps_look at hb
  have hb := (iz hb).2
  have w0 := Eqs.rf h
  obtain ⟨x69, e_x69, hb70⟩ := ob2 hb
  by_cases q : x69 = (1 : Int32)
  · have hb72 := ip q hb70
    exact w0.tr (Steps_look_16_q hb72)
  · have hb71 := iq q hb70
    exact w0.tr (Steps_look_16_q hb71)
theorem Steps_look_o {v0 : Nat} {v1 : Nat} {h : am_H} {r : (Int32 × am_H)} (hb : Steps_look v0 v1 h = some r) : isO h 6 v0 = true := by
  unfold Steps_look at hb
  exact (iz hb).1
set_option maxHeartbeats 1000000 in
set_option maxRecDepth 100000 in
noncomputable def Steps_make_26 (v0 : Nat) (v1 : Nat) (h : am_H) : Option am_H := (gI h 4 v1 2).bind fun x1 => (pV h 4 v1 2 (.int (if (9999 : Int32) < x1 + (1 : Int32) then (9999 : Int32) else x1 + (1 : Int32)))).bind fun h3 => (gI h3 6 v0 0).bind fun x6 => (pV h3 4 v1 3 (.int (if (13 : Int32) < x6 then (13 : Int32) else x6))).bind fun h8 => some h8
set_option maxHeartbeats 1000000 in
set_option maxRecDepth 100000 in
theorem Steps_make_26_s {v0 : Nat} {v1 : Nat} {h : am_H} {r : am_H} (hb : Steps_make_26 v0 v1 h = some r) : Sx 3 mX6_make 26 [.ref v0, .ref v1] [] h none r := by
  unfold Steps_make_26 at hb
  refine Sx.o (fun _ _ _ k => ex_aload_n dX6_make_26 rfl rfl k) ?_
  refine Sx.o (fun _ _ _ k => ex_aload_n dX6_make_27 rfl rfl k) ?_
  obtain ⟨x1, e_x1, hb2⟩ := ob2 hb
  refine Sx.o (fun _ _ _ k => op_getI fX6_76 dX6_make_28 e_x1 k) ?_
  refine Sx.o (fun _ _ _ k => op_iconst (1 : Int32) dX6_make_31 (by decide) k) ?_
  refine Sx.o (fun _ _ _ k => ex_iadd dX6_make_32 k) ?_
  refine Sx.o (fun _ _ _ k => op_sipush (9999 : Int32) dX6_make_33 (by decide) k) ?_
  refine Sx.o (fun _ _ _ k => op_mmin (by omega) dX6_make_36 kX6_79 (Nat.le_of_ble_eq_true rfl) k) ?_
  obtain ⟨h3, e_h3, hb4⟩ := ob2 hb2
  refine Sx.p (pV_q e_h3) (fun _ _ _ k => op_put pX6_76 dX6_make_39 e_h3 (fun _ => rfl) (fun _ => rfl) k) ?_
  refine Sx.o (fun _ _ _ k => ex_aload_n dX6_make_42 rfl rfl k) ?_
  refine Sx.o (fun _ _ _ k => ex_aload_n dX6_make_43 rfl rfl k) ?_
  obtain ⟨x6, e_x6, hb7⟩ := ob2 hb4
  refine Sx.o (fun _ _ _ k => op_getI fX6_33 dX6_make_44 e_x6 k) ?_
  refine Sx.o (fun _ _ _ k => op_bipush (13 : Int32) dX6_make_47 (by decide) k) ?_
  refine Sx.o (fun _ _ _ k => op_mmin (by omega) dX6_make_49 kX6_79 (Nat.le_of_ble_eq_true rfl) k) ?_
  obtain ⟨h8, e_h8, hb9⟩ := ob2 hb7
  refine Sx.p (pV_q e_h8) (fun _ _ _ k => op_put pX6_29 dX6_make_52 e_h8 (fun _ => rfl) (fun _ => rfl) k) ?_
  obtain rfl := Option.some.inj hb9
  exact Sx.r (fun _ _ _ k => ex_vret rfl dX6_make_55 k)
set_option maxHeartbeats 1000000 in
set_option maxRecDepth 100000 in
theorem Steps_make_26_q {v0 : Nat} {v1 : Nat} {h : am_H} {r : am_H} (hb : Steps_make_26 v0 v1 h = some r) : Eqs h r := by
  unfold Steps_make_26 at hb
  have w0 := Eqs.rf h
  obtain ⟨x1, e_x1, hb2⟩ := ob2 hb
  obtain ⟨h3, e_h3, hb4⟩ := ob2 hb2
  have w5 := w0.tr (pV_q e_h3)
  obtain ⟨x6, e_x6, hb7⟩ := ob2 hb4
  obtain ⟨h8, e_h8, hb9⟩ := ob2 hb7
  have w10 := w5.tr (pV_q e_h8)
  obtain rfl := Option.some.inj hb9
  exact w10
set_option maxHeartbeats 1000000 in
set_option maxRecDepth 100000 in
noncomputable def Steps_make (v0 : Nat) (v1 : Nat) (h : am_H) : Option am_H := if isO h 6 v0 = true then (gI h 6 v0 0).bind fun x11 => (Row_reverse v1 (0 : Int32) (x11 - (1 : Int32)) h).bind fun h13 => (gI h13 6 v0 1).bind fun x16 => if x16 ≤ (0 : Int32) then Steps_make_26 v0 v1 h13 else (gI h13 6 v0 1).bind fun x20 => (Row_lower v1 x20 h13).bind fun h22 => Steps_make_26 v0 v1 h22 else none
set_option maxHeartbeats 1000000 in
set_option maxRecDepth 100000 in
theorem Steps_make_s {v0 : Nat} {v1 : Nat} {h : am_H} {r : am_H} (hb : Steps_make v0 v1 h = some r) : Sx 3 mX6_make 0 (am_en [.ref v0, .ref v1] 2) [] h none r := by
  unfold Steps_make at hb
  have hb := (iz hb).2
  show Sx 3 mX6_make 0 [.ref v0, .ref v1] [] h none r
  refine Sx.o (fun _ _ _ k => ex_aload_n dX6_make_0 rfl rfl k) ?_
  refine Sx.o (fun _ _ _ k => op_iconst (0 : Int32) dX6_make_1 (by decide) k) ?_
  refine Sx.o (fun _ _ _ k => ex_aload_n dX6_make_2 rfl rfl k) ?_
  obtain ⟨x11, e_x11, hb12⟩ := ob2 hb
  refine Sx.o (fun _ _ _ k => op_getI fX6_33 dX6_make_3 e_x11 k) ?_
  refine Sx.o (fun _ _ _ k => op_iconst (1 : Int32) dX6_make_6 (by decide) k) ?_
  refine Sx.o (fun _ _ _ k => ex_isub dX6_make_7 k) ?_
  obtain ⟨h13, e_h13, hb14⟩ := ob2 hb12
  refine sx_callV (dc := 1) (as := [.int (0 : Int32), .int (x11 - (1 : Int32))]) (stq := []) (by omega) dX6_make_8 MX4_reverse kX6_68 iX4_reverse sX4_reverse rfl rfl (Row_reverse_o e_h13) rfl rfl (Nat.le_of_ble_eq_true rfl) (Nat.le_of_ble_eq_true rfl) (Row_reverse_s e_h13) rfl ?_
  refine Sx.o (fun _ _ _ k => ex_aload_n dX6_make_11 rfl rfl k) ?_
  obtain ⟨x16, e_x16, hb17⟩ := ob2 hb14
  refine Sx.o (fun _ _ _ k => op_getI fX6_36 dX6_make_12 e_x16 k) ?_
  refine Sx.b (fun _ _ _ k1 k2 => ex_if_le 26 dX6_make_15 (by decide) k1 k2) (fun q => ?_) (fun q => ?_)
  · have hb18 := ip q hb17
    exact Steps_make_26_s hb18
  · have hb19 := iq q hb17
    refine Sx.o (fun _ _ _ k => ex_aload_n dX6_make_18 rfl rfl k) ?_
    refine Sx.o (fun _ _ _ k => ex_aload_n dX6_make_19 rfl rfl k) ?_
    obtain ⟨x20, e_x20, hb21⟩ := ob2 hb19
    refine Sx.o (fun _ _ _ k => op_getI fX6_36 dX6_make_20 e_x20 k) ?_
    obtain ⟨h22, e_h22, hb23⟩ := ob2 hb21
    refine sx_callV (dc := 2) (as := [.int x20]) (stq := []) (by omega) dX6_make_23 MX4_lower kX6_72 iX4_lower sX4_lower rfl rfl (Row_lower_o e_h22) rfl rfl (Nat.le_of_ble_eq_true rfl) (Nat.le_of_ble_eq_true rfl) (Row_lower_s e_h22) rfl ?_
    exact Steps_make_26_s hb23
set_option maxHeartbeats 1000000 in
set_option maxRecDepth 100000 in
theorem Steps_make_q {v0 : Nat} {v1 : Nat} {h : am_H} {r : am_H} (hb : Steps_make v0 v1 h = some r) : Eqs h r := by
  unfold Steps_make at hb
  have hb := (iz hb).2
  have w0 := Eqs.rf h
  obtain ⟨x11, e_x11, hb12⟩ := ob2 hb
  obtain ⟨h13, e_h13, hb14⟩ := ob2 hb12
  have w15 := w0.tr (Row_reverse_q e_h13)
  obtain ⟨x16, e_x16, hb17⟩ := ob2 hb14
  by_cases q : x16 ≤ (0 : Int32)
  · have hb18 := ip q hb17
    exact w15.tr (Steps_make_26_q hb18)
  · have hb19 := iq q hb17
    obtain ⟨x20, e_x20, hb21⟩ := ob2 hb19
    obtain ⟨h22, e_h22, hb23⟩ := ob2 hb21
    have w24 := w15.tr (Row_lower_q e_h22)
    exact w24.tr (Steps_make_26_q hb23)
theorem Steps_make_o {v0 : Nat} {v1 : Nat} {h : am_H} {r : am_H} (hb : Steps_make v0 v1 h = some r) : isO h 6 v0 = true := by
  unfold Steps_make at hb
  exact (iz hb).1
set_option maxHeartbeats 1000000 in
set_option maxRecDepth 100000 in
noncomputable def Steps_goOn_31_b (g : (Nat × Int32 × Int32 × Nat × Nat × am_H) → Option am_H) (v0 : Nat) (v1 : Nat) (v2 : Int32) (v3 : Int32) (h : am_H) : Option am_H := if v2 < v3 then some h else (pV h 6 v0 3 (.int v3)).bind fun h3 => (Steps_look v0 v1 h3).bind fun r6 => (pV r6.2 6 v0 2 (.int r6.1)).bind fun h9 => (gI h9 6 v0 2).bind fun x12 => if x12 = (3 : Int32) then (gR h9 6 v0 10).bind fun x16 => (Row_packed v1 h9).bind fun x18 => (sJ h9 x16 v3 x18).bind fun h20 => (Steps_earlier v0 v3 h20).bind fun x23 => (pV h20 6 v0 4 (.int x23)).bind fun h25 => (gI h25 6 v0 4).bind fun x28 => if x28 = (-1 : Int32) then if v2 ≤ v3 then g (102, v2, v3, v0, v1, h25) else (Steps_make v0 v1 h25).bind fun h34 => g (102, v2, v3, v0, v1, h34) else (pV h25 6 v0 2 (.int (2 : Int32))).bind fun h37 => some h37 else some h9
set_option maxHeartbeats 1000000 in
set_option maxRecDepth 100000 in
theorem Steps_goOn_31_m {g g2 : (Nat × Int32 × Int32 × Nat × Nat × am_H) → Option am_H} (hg : ∀ s, Le (g s) (g2 s)) (v0 : Nat) (v1 : Nat) (v2 : Int32) (v3 : Int32) (h : am_H) : Le (Steps_goOn_31_b g v0 v1 v2 v3 h) (Steps_goOn_31_b g2 v0 v1 v2 v3 h) := by unfold Steps_goOn_31_b; exact le_i (le_r _) (le_b (le_r _) fun h3 => le_b (le_r _) fun r6 => le_b (le_r _) fun h9 => le_b (le_r _) fun x12 => le_i (le_b (le_r _) fun x16 => le_b (le_r _) fun x18 => le_b (le_r _) fun h20 => le_b (le_r _) fun x23 => le_b (le_r _) fun h25 => le_b (le_r _) fun x28 => le_i (le_i (hg _) (le_b (le_r _) fun h34 => hg _)) (le_r _)) (le_r _))
set_option maxHeartbeats 1000000 in
set_option maxRecDepth 100000 in
noncomputable def Steps_goOn_102_b (g : (Nat × Int32 × Int32 × Nat × Nat × am_H) → Option am_H) (v0 : Nat) (v1 : Nat) (v2 : Int32) (v3 : Int32) (h : am_H) : Option am_H := g (31, v2, (v3 + (1 : Int32)), v0, v1, h)
set_option maxHeartbeats 1000000 in
set_option maxRecDepth 100000 in
theorem Steps_goOn_102_m {g g2 : (Nat × Int32 × Int32 × Nat × Nat × am_H) → Option am_H} (hg : ∀ s, Le (g s) (g2 s)) (v0 : Nat) (v1 : Nat) (v2 : Int32) (v3 : Int32) (h : am_H) : Le (Steps_goOn_102_b g v0 v1 v2 v3 h) (Steps_goOn_102_b g2 v0 v1 v2 v3 h) := by unfold Steps_goOn_102_b; exact hg _
noncomputable def Steps_goOn_31_F (g : (Nat × Int32 × Int32 × Nat × Nat × am_H) → Option am_H) (s : (Nat × Int32 × Int32 × Nat × Nat × am_H)) : Option am_H := if s.1 = 31 then Steps_goOn_31_b g s.2.2.2.1 s.2.2.2.2.1 s.2.1 s.2.2.1 s.2.2.2.2.2 else if s.1 = 102 then Steps_goOn_102_b g s.2.2.2.1 s.2.2.2.2.1 s.2.1 s.2.2.1 s.2.2.2.2.2 else none
theorem Steps_goOn_31_M : Mn Steps_goOn_31_F := fun g g2 hg s => by unfold Steps_goOn_31_F; exact le_i (Steps_goOn_31_m hg s.2.2.2.1 s.2.2.2.2.1 s.2.1 s.2.2.1 s.2.2.2.2.2) (le_i (Steps_goOn_102_m hg s.2.2.2.1 s.2.2.2.2.1 s.2.1 s.2.2.1 s.2.2.2.2.2) (le_r _))
def Steps_goOn_31_P (s : (Nat × Int32 × Int32 × Nat × Nat × am_H)) (r : am_H) : Prop := (s.1 = 31 → Sx 4 mX6_goOn 31 [.ref s.2.2.2.1, .ref s.2.2.2.2.1, .int s.2.1, .int s.2.2.1] [] s.2.2.2.2.2 none r) ∧ (s.1 = 102 → Sx 4 mX6_goOn 102 [.ref s.2.2.2.1, .ref s.2.2.2.2.1, .int s.2.1, .int s.2.2.1] [] s.2.2.2.2.2 none r) ∧ True
set_option maxHeartbeats 1000000 in
set_option maxRecDepth 100000 in
theorem Steps_goOn_31_t {g : (Nat × Int32 × Int32 × Nat × Nat × am_H) → Option am_H} (hg : ∀ s r, g s = some r → Steps_goOn_31_P s r) {v0 : Nat} {v1 : Nat} {v2 : Int32} {v3 : Int32} {h : am_H} {r : am_H} (hb : Steps_goOn_31_b g v0 v1 v2 v3 h = some r) : Sx 4 mX6_goOn 31 [.ref v0, .ref v1, .int v2, .int v3] [] h none r := by
  unfold Steps_goOn_31_b at hb
  refine Sx.o (fun _ _ _ k => ex_iload_n dX6_goOn_31 rfl k) ?_
  refine Sx.o (fun _ _ _ k => ex_iload_n dX6_goOn_32 rfl k) ?_
  refine Sx.b (fun _ _ _ k1 k2 => ex_icmp_gt 108 dX6_goOn_33 (by decide) k1 k2) (fun q => ?_) (fun q => ?_)
  · have hb1 := ip q hb
    obtain rfl := Option.some.inj hb1
    exact Sx.r (fun _ _ _ k => ex_vret rfl dX6_goOn_108 k)
  · have hb2 := iq q hb
    refine Sx.o (fun _ _ _ k => ex_aload_n dX6_goOn_36 rfl rfl k) ?_
    refine Sx.o (fun _ _ _ k => ex_iload_n dX6_goOn_37 rfl k) ?_
    obtain ⟨h3, e_h3, hb4⟩ := ob2 hb2
    refine Sx.p (pV_q e_h3) (fun _ _ _ k => op_put pX6_94 dX6_goOn_38 e_h3 (fun _ => rfl) (fun _ => rfl) k) ?_
    refine Sx.o (fun _ _ _ k => ex_aload_n dX6_goOn_41 rfl rfl k) ?_
    refine Sx.o (fun _ _ _ k => ex_aload_n dX6_goOn_42 rfl rfl k) ?_
    refine Sx.o (fun _ _ _ k => ex_aload_n dX6_goOn_43 rfl rfl k) ?_
    obtain ⟨r6, e_r6, hb7⟩ := ob2 hb4
    refine sx_callV (dc := 3) (as := [.ref v1]) (stq := [.int r6.1, .ref v0]) (by omega) dX6_goOn_44 MX6_look kX6_97 iX6_look sX6_look rfl rfl (Steps_look_o e_r6) rfl rfl (Nat.le_of_ble_eq_true rfl) (Nat.le_of_ble_eq_true rfl) (Steps_look_s e_r6) rfl ?_
    obtain ⟨h9, e_h9, hb10⟩ := ob2 hb7
    refine Sx.p (pV_q e_h9) (fun _ _ _ k => op_put pX6_91 dX6_goOn_47 e_h9 (fun _ => rfl) (fun _ => rfl) k) ?_
    refine Sx.o (fun _ _ _ k => ex_aload_n dX6_goOn_50 rfl rfl k) ?_
    obtain ⟨x12, e_x12, hb13⟩ := ob2 hb10
    refine Sx.o (fun _ _ _ k => op_getI fX6_91 dX6_goOn_51 e_x12 k) ?_
    refine Sx.o (fun _ _ _ k => op_iconst (3 : Int32) dX6_goOn_54 (by decide) k) ?_
    refine Sx.b (fun _ _ _ k1 k2 => ex_icmp_eq 59 dX6_goOn_55 (by decide) k1 k2) (fun q => ?_) (fun q => ?_)
    · have hb14 := ip q hb13
      refine Sx.o (fun _ _ _ k => ex_aload_n dX6_goOn_59 rfl rfl k) ?_
      obtain ⟨x16, e_x16, hb17⟩ := ob2 hb14
      refine Sx.o (fun _ _ _ k => op_getR fX6_15 dX6_goOn_60 e_x16 k) ?_
      refine Sx.o (fun _ _ _ k => ex_iload_n dX6_goOn_63 rfl k) ?_
      refine Sx.o (fun _ _ _ k => ex_aload_n dX6_goOn_64 rfl rfl k) ?_
      obtain ⟨x18, e_x18, hb19⟩ := ob2 hb17
      refine sx_callV (dc := 0) (as := []) (stq := [.long x18, .int v3, .ref x16]) (by omega) dX6_goOn_65 MX4_packed kX6_101 iX4_packed sX4_packed rfl rfl (Row_packed_o e_x18) rfl rfl (Nat.le_of_ble_eq_true rfl) (Nat.le_of_ble_eq_true rfl) (Row_packed_s e_x18) rfl ?_
      obtain ⟨h20, e_h20, hb21⟩ := ob2 hb19
      refine Sx.p (sJ_q e_h20) (fun _ _ _ k => op_last dX6_goOn_68 e_h20 k) ?_
      refine Sx.o (fun _ _ _ k => ex_aload_n dX6_goOn_69 rfl rfl k) ?_
      refine Sx.o (fun _ _ _ k => ex_aload_n dX6_goOn_70 rfl rfl k) ?_
      refine Sx.o (fun _ _ _ k => ex_iload_n dX6_goOn_71 rfl k) ?_
      obtain ⟨x23, e_x23, hb24⟩ := ob2 hb21
      refine sx_callV (dc := 0) (as := [.int v3]) (stq := [.int x23, .ref v0]) (by omega) dX6_goOn_72 MX6_earlier kX6_105 iX6_earlier sX6_earlier rfl rfl (Steps_earlier_o e_x23) rfl rfl (Nat.le_of_ble_eq_true rfl) (Nat.le_of_ble_eq_true rfl) (Steps_earlier_s e_x23) rfl ?_
      obtain ⟨h25, e_h25, hb26⟩ := ob2 hb24
      refine Sx.p (pV_q e_h25) (fun _ _ _ k => op_put pX6_88 dX6_goOn_75 e_h25 (fun _ => rfl) (fun _ => rfl) k) ?_
      refine Sx.o (fun _ _ _ k => ex_aload_n dX6_goOn_78 rfl rfl k) ?_
      obtain ⟨x28, e_x28, hb29⟩ := ob2 hb26
      refine Sx.o (fun _ _ _ k => op_getI fX6_88 dX6_goOn_79 e_x28 k) ?_
      refine Sx.o (fun _ _ _ k => op_iconst (-1 : Int32) dX6_goOn_82 (by decide) k) ?_
      refine Sx.b (fun _ _ _ k1 k2 => ex_icmp_eq 92 dX6_goOn_83 (by decide) k1 k2) (fun q => ?_) (fun q => ?_)
      · have hb30 := ip q hb29
        refine Sx.o (fun _ _ _ k => ex_iload_n dX6_goOn_92 rfl k) ?_
        refine Sx.o (fun _ _ _ k => ex_iload_n dX6_goOn_93 rfl k) ?_
        refine Sx.b (fun _ _ _ k1 k2 => ex_icmp_ge 102 dX6_goOn_94 (by decide) k1 k2) (fun q => ?_) (fun q => ?_)
        · have hb32 := ip q hb30
          exact (hg _ _ hb32).2.1 rfl
        · have hb33 := iq q hb30
          refine Sx.o (fun _ _ _ k => ex_aload_n dX6_goOn_97 rfl rfl k) ?_
          refine Sx.o (fun _ _ _ k => ex_aload_n dX6_goOn_98 rfl rfl k) ?_
          obtain ⟨h34, e_h34, hb35⟩ := ob2 hb33
          refine sx_callV (dc := 3) (as := [.ref v1]) (stq := []) (by omega) dX6_goOn_99 MX6_make kX6_108 iX6_make sX6_make rfl rfl (Steps_make_o e_h34) rfl rfl (Nat.le_of_ble_eq_true rfl) (Nat.le_of_ble_eq_true rfl) (Steps_make_s e_h34) rfl ?_
          exact (hg _ _ hb35).2.1 rfl
      · have hb31 := iq q hb29
        refine Sx.o (fun _ _ _ k => ex_aload_n dX6_goOn_86 rfl rfl k) ?_
        refine Sx.o (fun _ _ _ k => op_iconst (2 : Int32) dX6_goOn_87 (by decide) k) ?_
        obtain ⟨h37, e_h37, hb38⟩ := ob2 hb31
        refine Sx.p (pV_q e_h37) (fun _ _ _ k => op_put pX6_91 dX6_goOn_88 e_h37 (fun _ => rfl) (fun _ => rfl) k) ?_
        obtain rfl := Option.some.inj hb38
        exact Sx.r (fun _ _ _ k => ex_vret rfl dX6_goOn_91 k)
    · have hb15 := iq q hb13
      obtain rfl := Option.some.inj hb15
      exact Sx.r (fun _ _ _ k => ex_vret rfl dX6_goOn_58 k)
set_option maxHeartbeats 1000000 in
set_option maxRecDepth 100000 in
theorem Steps_goOn_102_t {g : (Nat × Int32 × Int32 × Nat × Nat × am_H) → Option am_H} (hg : ∀ s r, g s = some r → Steps_goOn_31_P s r) {v0 : Nat} {v1 : Nat} {v2 : Int32} {v3 : Int32} {h : am_H} {r : am_H} (hb : Steps_goOn_102_b g v0 v1 v2 v3 h = some r) : Sx 4 mX6_goOn 102 [.ref v0, .ref v1, .int v2, .int v3] [] h none r := by
  unfold Steps_goOn_102_b at hb
  refine Sx.o (L' := [.ref v0, .ref v1, .int v2, .int (v3 + (1 : Int32))]) (fun _ _ _ k => op_iinc (1 : Int32) dX6_goOn_102 (by decide) rfl (by decide) k) ?_
  refine Sx.o (fun _ _ _ k => ex_goto 31 dX6_goOn_105 (by decide) k) ?_
  exact (hg _ _ hb).1 rfl
theorem Steps_goOn_31_T : ∀ s r, fx Steps_goOn_31_F Steps_goOn_31_M s = some r → Steps_goOn_31_P s r := fx_ind Steps_goOn_31_M Steps_goOn_31_P (fun g hg s r hb => by
  unfold Steps_goOn_31_F at hb
  exact ⟨fun q => Steps_goOn_31_t hg (ip q hb), fun q => Steps_goOn_102_t hg (ip q (iq (by rw [q]; decide) hb)), trivial⟩)
set_option maxHeartbeats 1000000 in
set_option maxRecDepth 100000 in
theorem Steps_goOn_31_r {g : (Nat × Int32 × Int32 × Nat × Nat × am_H) → Option am_H} (hg : ∀ s r, g s = some r → Eqs s.2.2.2.2.2 r) {v0 : Nat} {v1 : Nat} {v2 : Int32} {v3 : Int32} {h : am_H} {r : am_H} (hb : Steps_goOn_31_b g v0 v1 v2 v3 h = some r) : Eqs h r := by
  unfold Steps_goOn_31_b at hb
  have w0 := Eqs.rf h
  by_cases q : v2 < v3
  · have hb1 := ip q hb
    obtain rfl := Option.some.inj hb1
    exact w0
  · have hb2 := iq q hb
    obtain ⟨h3, e_h3, hb4⟩ := ob2 hb2
    have w5 := w0.tr (pV_q e_h3)
    obtain ⟨r6, e_r6, hb7⟩ := ob2 hb4
    have w8 := w5.tr (Steps_look_q e_r6)
    obtain ⟨h9, e_h9, hb10⟩ := ob2 hb7
    have w11 := w8.tr (pV_q e_h9)
    obtain ⟨x12, e_x12, hb13⟩ := ob2 hb10
    by_cases q : x12 = (3 : Int32)
    · have hb14 := ip q hb13
      obtain ⟨x16, e_x16, hb17⟩ := ob2 hb14
      obtain ⟨x18, e_x18, hb19⟩ := ob2 hb17
      obtain ⟨h20, e_h20, hb21⟩ := ob2 hb19
      have w22 := w11.tr (sJ_q e_h20)
      obtain ⟨x23, e_x23, hb24⟩ := ob2 hb21
      obtain ⟨h25, e_h25, hb26⟩ := ob2 hb24
      have w27 := w22.tr (pV_q e_h25)
      obtain ⟨x28, e_x28, hb29⟩ := ob2 hb26
      by_cases q : x28 = (-1 : Int32)
      · have hb30 := ip q hb29
        by_cases q : v2 ≤ v3
        · have hb32 := ip q hb30
          exact w27.tr (hg _ _ hb32)
        · have hb33 := iq q hb30
          obtain ⟨h34, e_h34, hb35⟩ := ob2 hb33
          have w36 := w27.tr (Steps_make_q e_h34)
          exact w36.tr (hg _ _ hb35)
      · have hb31 := iq q hb29
        obtain ⟨h37, e_h37, hb38⟩ := ob2 hb31
        have w39 := w27.tr (pV_q e_h37)
        obtain rfl := Option.some.inj hb38
        exact w39
    · have hb15 := iq q hb13
      obtain rfl := Option.some.inj hb15
      exact w11
set_option maxHeartbeats 1000000 in
set_option maxRecDepth 100000 in
theorem Steps_goOn_102_r {g : (Nat × Int32 × Int32 × Nat × Nat × am_H) → Option am_H} (hg : ∀ s r, g s = some r → Eqs s.2.2.2.2.2 r) {v0 : Nat} {v1 : Nat} {v2 : Int32} {v3 : Int32} {h : am_H} {r : am_H} (hb : Steps_goOn_102_b g v0 v1 v2 v3 h = some r) : Eqs h r := by
  unfold Steps_goOn_102_b at hb
  have w0 := Eqs.rf h
  exact w0.tr (hg _ _ hb)
theorem Steps_goOn_31_Q : ∀ s r, fx Steps_goOn_31_F Steps_goOn_31_M s = some r → Eqs s.2.2.2.2.2 r := fx_ind Steps_goOn_31_M (fun s r => Eqs s.2.2.2.2.2 r) (fun g hg s r hb => by
  unfold Steps_goOn_31_F at hb
  by_cases q0 : s.1 = 31
  · exact Steps_goOn_31_r hg (ip q0 hb)
  · have hb0 := iq q0 hb
    by_cases q1 : s.1 = 102
    · exact Steps_goOn_102_r hg (ip q1 hb0)
    · have hb1 := iq q1 hb0
      exact nomatch hb1)
noncomputable def Steps_goOn_31 (v0 : Nat) (v1 : Nat) (v2 : Int32) (v3 : Int32) (h : am_H) : Option am_H := fx Steps_goOn_31_F Steps_goOn_31_M (31, v2, v3, v0, v1, h)
noncomputable def Steps_goOn_102 (v0 : Nat) (v1 : Nat) (v2 : Int32) (v3 : Int32) (h : am_H) : Option am_H := fx Steps_goOn_31_F Steps_goOn_31_M (102, v2, v3, v0, v1, h)
set_option maxHeartbeats 1000000 in
set_option maxRecDepth 100000 in
theorem Steps_goOn_31_e (v0 : Nat) (v1 : Nat) (v2 : Int32) (v3 : Int32) (h : am_H) : Steps_goOn_31 v0 v1 v2 v3 h = (if v2 < v3 then some h else (pV h 6 v0 3 (.int v3)).bind fun h3 => (Steps_look v0 v1 h3).bind fun r6 => (pV r6.2 6 v0 2 (.int r6.1)).bind fun h9 => (gI h9 6 v0 2).bind fun x12 => if x12 = (3 : Int32) then (gR h9 6 v0 10).bind fun x16 => (Row_packed v1 h9).bind fun x18 => (sJ h9 x16 v3 x18).bind fun h20 => (Steps_earlier v0 v3 h20).bind fun x23 => (pV h20 6 v0 4 (.int x23)).bind fun h25 => (gI h25 6 v0 4).bind fun x28 => if x28 = (-1 : Int32) then if v2 ≤ v3 then Steps_goOn_102 v0 v1 v2 v3 h25 else (Steps_make v0 v1 h25).bind fun h34 => Steps_goOn_102 v0 v1 v2 v3 h34 else (pV h25 6 v0 2 (.int (2 : Int32))).bind fun h37 => some h37 else some h9) := (fx_eq Steps_goOn_31_M (31, v2, v3, v0, v1, h)).trans (if_pos rfl)
theorem Steps_goOn_31_q {v0 : Nat} {v1 : Nat} {v2 : Int32} {v3 : Int32} {h : am_H} {r : am_H} (hb : Steps_goOn_31 v0 v1 v2 v3 h = some r) : Eqs h r := Steps_goOn_31_Q _ _ hb
theorem Steps_goOn_31_s {v0 : Nat} {v1 : Nat} {v2 : Int32} {v3 : Int32} {h : am_H} {r : am_H} (hb : Steps_goOn_31 v0 v1 v2 v3 h = some r) : Sx 4 mX6_goOn 31 [.ref v0, .ref v1, .int v2, .int v3] [] h none r := (Steps_goOn_31_T _ _ hb).1 rfl
set_option maxHeartbeats 1000000 in
set_option maxRecDepth 100000 in
theorem Steps_goOn_102_e (v0 : Nat) (v1 : Nat) (v2 : Int32) (v3 : Int32) (h : am_H) : Steps_goOn_102 v0 v1 v2 v3 h = (Steps_goOn_31 v0 v1 v2 (v3 + (1 : Int32)) h) := (fx_eq Steps_goOn_31_M (102, v2, v3, v0, v1, h)).trans ((if_neg (show ¬ (102 : Nat) = 31 by decide)).trans (if_pos rfl))
theorem Steps_goOn_102_q {v0 : Nat} {v1 : Nat} {v2 : Int32} {v3 : Int32} {h : am_H} {r : am_H} (hb : Steps_goOn_102 v0 v1 v2 v3 h = some r) : Eqs h r := Steps_goOn_31_Q _ _ hb
theorem Steps_goOn_102_s {v0 : Nat} {v1 : Nat} {v2 : Int32} {v3 : Int32} {h : am_H} {r : am_H} (hb : Steps_goOn_102 v0 v1 v2 v3 h = some r) : Sx 4 mX6_goOn 102 [.ref v0, .ref v1, .int v2, .int v3] [] h none r := (Steps_goOn_31_T _ _ hb).2.1 rfl
set_option maxHeartbeats 1000000 in
set_option maxRecDepth 100000 in
noncomputable def Steps_goOn (v0 : Nat) (v1 : Nat) (h : am_H) : Option am_H := if isO h 6 v0 = true then (gR h 6 v0 8).bind fun x40 => (gI h 7 x40 5).bind fun x42 => (pV h 6 v0 4 (.int (-1 : Int32))).bind fun h44 => (pV h44 6 v0 2 (.int (3 : Int32))).bind fun h47 => (pV h47 6 v0 3 (.int (0 : Int32))).bind fun h50 => Steps_goOn_31 v0 v1 (if (300 : Int32) < x42 then (300 : Int32) else x42) (0 : Int32) h50 else none
set_option maxHeartbeats 1000000 in
set_option maxRecDepth 100000 in
theorem Steps_goOn_s {v0 : Nat} {v1 : Nat} {h : am_H} {r : am_H} (hb : Steps_goOn v0 v1 h = some r) : Sx 4 mX6_goOn 0 (am_en [.ref v0, .ref v1] 4) [] h none r := by
  unfold Steps_goOn at hb
  have hb := (iz hb).2
  show Sx 4 mX6_goOn 0 [.ref v0, .ref v1, .retAddr 0, .retAddr 0] [] h none r
  refine Sx.o (fun _ _ _ k => ex_aload_n dX6_goOn_0 rfl rfl k) ?_
  obtain ⟨x40, e_x40, hb41⟩ := ob2 hb
  refine Sx.o (fun _ _ _ k => op_getR fX6_19 dX6_goOn_1 e_x40 k) ?_
  obtain ⟨x42, e_x42, hb43⟩ := ob2 hb41
  refine Sx.o (fun _ _ _ k => op_getI fX6_85 dX6_goOn_4 e_x42 k) ?_
  refine Sx.o (fun _ _ _ k => op_sipush (300 : Int32) dX6_goOn_7 (by decide) k) ?_
  refine Sx.o (fun _ _ _ k => op_mmin (by omega) dX6_goOn_10 kX6_79 (Nat.le_of_ble_eq_true rfl) k) ?_
  refine Sx.o (L' := [.ref v0, .ref v1, .int (if (300 : Int32) < x42 then (300 : Int32) else x42), .retAddr 0]) (fun _ _ _ k => ex_istore_n dX6_goOn_13 (by decide) k) ?_
  refine Sx.o (fun _ _ _ k => ex_aload_n dX6_goOn_14 rfl rfl k) ?_
  refine Sx.o (fun _ _ _ k => op_iconst (-1 : Int32) dX6_goOn_15 (by decide) k) ?_
  obtain ⟨h44, e_h44, hb45⟩ := ob2 hb43
  refine Sx.p (pV_q e_h44) (fun _ _ _ k => op_put pX6_88 dX6_goOn_16 e_h44 (fun _ => rfl) (fun _ => rfl) k) ?_
  refine Sx.o (fun _ _ _ k => ex_aload_n dX6_goOn_19 rfl rfl k) ?_
  refine Sx.o (fun _ _ _ k => op_iconst (3 : Int32) dX6_goOn_20 (by decide) k) ?_
  obtain ⟨h47, e_h47, hb48⟩ := ob2 hb45
  refine Sx.p (pV_q e_h47) (fun _ _ _ k => op_put pX6_91 dX6_goOn_21 e_h47 (fun _ => rfl) (fun _ => rfl) k) ?_
  refine Sx.o (fun _ _ _ k => ex_aload_n dX6_goOn_24 rfl rfl k) ?_
  refine Sx.o (fun _ _ _ k => op_iconst (0 : Int32) dX6_goOn_25 (by decide) k) ?_
  obtain ⟨h50, e_h50, hb51⟩ := ob2 hb48
  refine Sx.p (pV_q e_h50) (fun _ _ _ k => op_put pX6_94 dX6_goOn_26 e_h50 (fun _ => rfl) (fun _ => rfl) k) ?_
  refine Sx.o (fun _ _ _ k => op_iconst (0 : Int32) dX6_goOn_29 (by decide) k) ?_
  refine Sx.o (L' := [.ref v0, .ref v1, .int (if (300 : Int32) < x42 then (300 : Int32) else x42), .int (0 : Int32)]) (fun _ _ _ k => ex_istore_n dX6_goOn_30 (by decide) k) ?_
  exact Steps_goOn_31_s hb51
set_option maxHeartbeats 1000000 in
set_option maxRecDepth 100000 in
theorem Steps_goOn_q {v0 : Nat} {v1 : Nat} {h : am_H} {r : am_H} (hb : Steps_goOn v0 v1 h = some r) : Eqs h r := by
  unfold Steps_goOn at hb
  have hb := (iz hb).2
  have w0 := Eqs.rf h
  obtain ⟨x40, e_x40, hb41⟩ := ob2 hb
  obtain ⟨x42, e_x42, hb43⟩ := ob2 hb41
  obtain ⟨h44, e_h44, hb45⟩ := ob2 hb43
  have w46 := w0.tr (pV_q e_h44)
  obtain ⟨h47, e_h47, hb48⟩ := ob2 hb45
  have w49 := w46.tr (pV_q e_h47)
  obtain ⟨h50, e_h50, hb51⟩ := ob2 hb48
  have w52 := w49.tr (pV_q e_h50)
  exact w52.tr (Steps_goOn_31_q hb51)
theorem Steps_goOn_o {v0 : Nat} {v1 : Nat} {h : am_H} {r : am_H} (hb : Steps_goOn v0 v1 h = some r) : isO h 6 v0 = true := by
  unfold Steps_goOn at hb
  exact (iz hb).1
set_option maxHeartbeats 1000000 in
set_option maxRecDepth 100000 in
noncomputable def Steps_endsBehind_21_b (g : (Nat × Int32 × Int32 × Int64 × Nat × Nat × am_H) → Option (Int32 × am_H)) (v0 : Nat) (v1 : Nat) (v2 : Int32) (v3 : Int64) (v5 : Int32) (h : am_H) : Option (Int32 × am_H) := if v2 < v5 then some ((-1 : Int32), h) else (Steps_look v0 v1 h).bind fun r3 => if r3.1 = (3 : Int32) then (Row_packed v1 r3.2).bind fun x8 => if (lg_cmp x8 v3) = (0 : Int32) then some ((-1 : Int32), r3.2) else if (v5 &&& (v5 - (1 : Int32))) = (0 : Int32) then g (80, v2, v5, x8, v0, v1, r3.2) else g (80, v2, v5, v3, v0, v1, r3.2) else if r3.1 = (0 : Int32) then some (v5, r3.2) else some ((-1 : Int32), r3.2)
set_option maxHeartbeats 1000000 in
set_option maxRecDepth 100000 in
theorem Steps_endsBehind_21_m {g g2 : (Nat × Int32 × Int32 × Int64 × Nat × Nat × am_H) → Option (Int32 × am_H)} (hg : ∀ s, Le (g s) (g2 s)) (v0 : Nat) (v1 : Nat) (v2 : Int32) (v3 : Int64) (v5 : Int32) (h : am_H) : Le (Steps_endsBehind_21_b g v0 v1 v2 v3 v5 h) (Steps_endsBehind_21_b g2 v0 v1 v2 v3 v5 h) := by unfold Steps_endsBehind_21_b; exact le_i (le_r _) (le_b (le_r _) fun r3 => le_i (le_b (le_r _) fun x8 => le_i (le_r _) (le_i (hg _) (hg _))) (le_r _))
set_option maxHeartbeats 1000000 in
set_option maxRecDepth 100000 in
noncomputable def Steps_endsBehind_80_b (g : (Nat × Int32 × Int32 × Int64 × Nat × Nat × am_H) → Option (Int32 × am_H)) (v0 : Nat) (v1 : Nat) (v2 : Int32) (v3 : Int64) (v5 : Int32) (h : am_H) : Option (Int32 × am_H) := (Steps_make v0 v1 h).bind fun h16 => g (21, v2, (v5 + (1 : Int32)), v3, v0, v1, h16)
set_option maxHeartbeats 1000000 in
set_option maxRecDepth 100000 in
theorem Steps_endsBehind_80_m {g g2 : (Nat × Int32 × Int32 × Int64 × Nat × Nat × am_H) → Option (Int32 × am_H)} (hg : ∀ s, Le (g s) (g2 s)) (v0 : Nat) (v1 : Nat) (v2 : Int32) (v3 : Int64) (v5 : Int32) (h : am_H) : Le (Steps_endsBehind_80_b g v0 v1 v2 v3 v5 h) (Steps_endsBehind_80_b g2 v0 v1 v2 v3 v5 h) := by unfold Steps_endsBehind_80_b; exact le_b (le_r _) fun h16 => hg _
noncomputable def Steps_endsBehind_21_F (g : (Nat × Int32 × Int32 × Int64 × Nat × Nat × am_H) → Option (Int32 × am_H)) (s : (Nat × Int32 × Int32 × Int64 × Nat × Nat × am_H)) : Option (Int32 × am_H) := if s.1 = 21 then Steps_endsBehind_21_b g s.2.2.2.2.1 s.2.2.2.2.2.1 s.2.1 s.2.2.2.1 s.2.2.1 s.2.2.2.2.2.2 else if s.1 = 80 then Steps_endsBehind_80_b g s.2.2.2.2.1 s.2.2.2.2.2.1 s.2.1 s.2.2.2.1 s.2.2.1 s.2.2.2.2.2.2 else none
theorem Steps_endsBehind_21_M : Mn Steps_endsBehind_21_F := fun g g2 hg s => by unfold Steps_endsBehind_21_F; exact le_i (Steps_endsBehind_21_m hg s.2.2.2.2.1 s.2.2.2.2.2.1 s.2.1 s.2.2.2.1 s.2.2.1 s.2.2.2.2.2.2) (le_i (Steps_endsBehind_80_m hg s.2.2.2.2.1 s.2.2.2.2.2.1 s.2.1 s.2.2.2.1 s.2.2.1 s.2.2.2.2.2.2) (le_r _))
def Steps_endsBehind_21_P (s : (Nat × Int32 × Int32 × Int64 × Nat × Nat × am_H)) (r : (Int32 × am_H)) : Prop := (s.1 = 21 → Sx 4 mX6_endsBehind 21 [.ref s.2.2.2.2.1, .ref s.2.2.2.2.2.1, .int s.2.1, .long s.2.2.2.1, .retAddr 0, .int s.2.2.1, .retAddr 0, .retAddr 0, .retAddr 0] [] s.2.2.2.2.2.2 (some (.int r.1)) r.2) ∧ (s.1 = 80 → Sx 4 mX6_endsBehind 80 [.ref s.2.2.2.2.1, .ref s.2.2.2.2.2.1, .int s.2.1, .long s.2.2.2.1, .retAddr 0, .int s.2.2.1, .retAddr 0, .retAddr 0, .retAddr 0] [] s.2.2.2.2.2.2 (some (.int r.1)) r.2) ∧ True
set_option maxHeartbeats 1000000 in
set_option maxRecDepth 100000 in
theorem Steps_endsBehind_21_t {g : (Nat × Int32 × Int32 × Int64 × Nat × Nat × am_H) → Option (Int32 × am_H)} (hg : ∀ s r, g s = some r → Steps_endsBehind_21_P s r) {v0 : Nat} {v1 : Nat} {v2 : Int32} {v3 : Int64} {v5 : Int32} {h : am_H} {r : (Int32 × am_H)} (hb : Steps_endsBehind_21_b g v0 v1 v2 v3 v5 h = some r) : Sx 4 mX6_endsBehind 21 [.ref v0, .ref v1, .int v2, .long v3, .retAddr 0, .int v5, .retAddr 0, .retAddr 0, .retAddr 0] [] h (some (.int r.1)) r.2 := by
  unfold Steps_endsBehind_21_b at hb
  refine Sx.o (fun _ _ _ k => ex_iload dX6_endsBehind_21 rfl k) ?_
  refine Sx.o (fun _ _ _ k => ex_iload_n dX6_endsBehind_23 rfl k) ?_
  refine Sx.b (fun _ _ _ k1 k2 => ex_icmp_gt 91 dX6_endsBehind_24 (by decide) k1 k2) (fun q => ?_) (fun q => ?_)
  · have hb1 := ip q hb
    refine Sx.o (fun _ _ _ k => op_iconst (-1 : Int32) dX6_endsBehind_91 (by decide) k) ?_
    obtain rfl := Option.some.inj hb1
    exact Sx.r (fun _ _ _ k => ex_iret rfl dX6_endsBehind_92 k)
  · have hb2 := iq q hb
    refine Sx.o (fun _ _ _ k => ex_aload_n dX6_endsBehind_27 rfl rfl k) ?_
    refine Sx.o (fun _ _ _ k => ex_aload_n dX6_endsBehind_28 rfl rfl k) ?_
    obtain ⟨r3, e_r3, hb4⟩ := ob2 hb2
    refine sx_callV (dc := 3) (as := [.ref v1]) (stq := [.int r3.1]) (by omega) dX6_endsBehind_29 MX6_look kX6_97 iX6_look sX6_look rfl rfl (Steps_look_o e_r3) rfl rfl (Nat.le_of_ble_eq_true rfl) (Nat.le_of_ble_eq_true rfl) (Steps_look_s e_r3) rfl ?_
    refine Sx.o (L' := [.ref v0, .ref v1, .int v2, .long v3, .retAddr 0, .int v5, .int r3.1, .retAddr 0, .retAddr 0]) (fun _ _ _ k => ex_istore dX6_endsBehind_32 (by decide) k) ?_
    refine Sx.o (fun _ _ _ k => ex_iload dX6_endsBehind_34 rfl k) ?_
    refine Sx.o (fun _ _ _ k => op_iconst (3 : Int32) dX6_endsBehind_36 (by decide) k) ?_
    refine Sx.b (fun _ _ _ k1 k2 => ex_icmp_eq 52 dX6_endsBehind_37 (by decide) k1 k2) (fun q => ?_) (fun q => ?_)
    · have hb6 := ip q hb4
      refine Sx.o (fun _ _ _ k => ex_aload_n dX6_endsBehind_52 rfl rfl k) ?_
      obtain ⟨x8, e_x8, hb9⟩ := ob2 hb6
      refine sx_callV (dc := 0) (as := []) (stq := [.long x8]) (by omega) dX6_endsBehind_53 MX4_packed kX6_101 iX4_packed sX4_packed rfl rfl (Row_packed_o e_x8) rfl rfl (Nat.le_of_ble_eq_true rfl) (Nat.le_of_ble_eq_true rfl) (Row_packed_s e_x8) rfl ?_
      refine Sx.o (L' := [.ref v0, .ref v1, .int v2, .long v3, .retAddr 0, .int v5, .int r3.1, .long x8, .retAddr 0]) (fun _ _ _ k => ex_lstore dX6_endsBehind_56 (by decide) k) ?_
      refine Sx.o (fun _ _ _ k => ex_lload dX6_endsBehind_58 rfl k) ?_
      refine Sx.o (fun _ _ _ k => ex_lload_n dX6_endsBehind_60 rfl k) ?_
      refine Sx.o (fun _ _ _ k => ex_lcmp dX6_endsBehind_61 k) ?_
      refine Sx.bn (fun _ _ _ k1 k2 => ex_if_ne 67 dX6_endsBehind_62 (by decide) k1 k2) (fun q => ?_) (fun q => ?_)
      · have hb10 := iq q hb9
        refine Sx.o (fun _ _ _ k => ex_iload dX6_endsBehind_67 rfl k) ?_
        refine Sx.o (fun _ _ _ k => ex_iload dX6_endsBehind_69 rfl k) ?_
        refine Sx.o (fun _ _ _ k => op_iconst (1 : Int32) dX6_endsBehind_71 (by decide) k) ?_
        refine Sx.o (fun _ _ _ k => ex_isub dX6_endsBehind_72 k) ?_
        refine Sx.o (fun _ _ _ k => ex_iand dX6_endsBehind_73 k) ?_
        refine Sx.bn (fun _ _ _ k1 k2 => ex_if_ne 80 dX6_endsBehind_74 (by decide) k1 k2) (fun q => ?_) (fun q => ?_)
        · have hb12 := iq q hb10
          refine Sx.fg [true, true, true, true, true, true, false, false, true] ?_
          exact (hg _ _ hb12).2.1 rfl
        · have hb13 := ip q hb10
          refine Sx.o (fun _ _ _ k => ex_lload dX6_endsBehind_77 rfl k) ?_
          refine Sx.o (L' := [.ref v0, .ref v1, .int v2, .long x8, .retAddr 0, .int v5, .int r3.1, .long x8, .retAddr 0]) (fun _ _ _ k => ex_lstore_n dX6_endsBehind_79 (by decide) k) ?_
          refine Sx.fg [true, true, true, true, true, true, false, false, true] ?_
          exact (hg _ _ hb13).2.1 rfl
      · have hb11 := ip q hb9
        refine Sx.o (fun _ _ _ k => op_iconst (-1 : Int32) dX6_endsBehind_65 (by decide) k) ?_
        obtain rfl := Option.some.inj hb11
        exact Sx.r (fun _ _ _ k => ex_iret rfl dX6_endsBehind_66 k)
    · have hb7 := iq q hb4
      refine Sx.o (fun _ _ _ k => ex_iload dX6_endsBehind_40 rfl k) ?_
      refine Sx.bn (fun _ _ _ k1 k2 => ex_if_ne 50 dX6_endsBehind_42 (by decide) k1 k2) (fun q => ?_) (fun q => ?_)
      · have hb14 := iq q hb7
        refine Sx.o (fun _ _ _ k => op_iconst (-1 : Int32) dX6_endsBehind_50 (by decide) k) ?_
        obtain rfl := Option.some.inj hb14
        exact Sx.r (fun _ _ _ k => ex_iret rfl dX6_endsBehind_51 k)
      · have hb15 := ip q hb7
        refine Sx.o (fun _ _ _ k => ex_iload dX6_endsBehind_45 rfl k) ?_
        refine Sx.o (fun _ _ _ k => ex_goto 51 dX6_endsBehind_47 (by decide) k) ?_
        obtain rfl := Option.some.inj hb15
        exact Sx.r (fun _ _ _ k => ex_iret rfl dX6_endsBehind_51 k)
set_option maxHeartbeats 1000000 in
set_option maxRecDepth 100000 in
theorem Steps_endsBehind_80_t {g : (Nat × Int32 × Int32 × Int64 × Nat × Nat × am_H) → Option (Int32 × am_H)} (hg : ∀ s r, g s = some r → Steps_endsBehind_21_P s r) {v0 : Nat} {v1 : Nat} {v2 : Int32} {v3 : Int64} {v5 : Int32} {h : am_H} {r : (Int32 × am_H)} (hb : Steps_endsBehind_80_b g v0 v1 v2 v3 v5 h = some r) : Sx 4 mX6_endsBehind 80 [.ref v0, .ref v1, .int v2, .long v3, .retAddr 0, .int v5, .retAddr 0, .retAddr 0, .retAddr 0] [] h (some (.int r.1)) r.2 := by
  unfold Steps_endsBehind_80_b at hb
  refine Sx.o (fun _ _ _ k => ex_aload_n dX6_endsBehind_80 rfl rfl k) ?_
  refine Sx.o (fun _ _ _ k => ex_aload_n dX6_endsBehind_81 rfl rfl k) ?_
  obtain ⟨h16, e_h16, hb17⟩ := ob2 hb
  refine sx_callV (dc := 3) (as := [.ref v1]) (stq := []) (by omega) dX6_endsBehind_82 MX6_make kX6_108 iX6_make sX6_make rfl rfl (Steps_make_o e_h16) rfl rfl (Nat.le_of_ble_eq_true rfl) (Nat.le_of_ble_eq_true rfl) (Steps_make_s e_h16) rfl ?_
  refine Sx.o (L' := [.ref v0, .ref v1, .int v2, .long v3, .retAddr 0, .int (v5 + (1 : Int32)), .retAddr 0, .retAddr 0, .retAddr 0]) (fun _ _ _ k => op_iinc (1 : Int32) dX6_endsBehind_85 (by decide) rfl (by decide) k) ?_
  refine Sx.o (fun _ _ _ k => ex_goto 21 dX6_endsBehind_88 (by decide) k) ?_
  exact (hg _ _ hb17).1 rfl
theorem Steps_endsBehind_21_T : ∀ s r, fx Steps_endsBehind_21_F Steps_endsBehind_21_M s = some r → Steps_endsBehind_21_P s r := fx_ind Steps_endsBehind_21_M Steps_endsBehind_21_P (fun g hg s r hb => by
  unfold Steps_endsBehind_21_F at hb
  exact ⟨fun q => Steps_endsBehind_21_t hg (ip q hb), fun q => Steps_endsBehind_80_t hg (ip q (iq (by rw [q]; decide) hb)), trivial⟩)
set_option maxHeartbeats 1000000 in
set_option maxRecDepth 100000 in
theorem Steps_endsBehind_21_r {g : (Nat × Int32 × Int32 × Int64 × Nat × Nat × am_H) → Option (Int32 × am_H)} (hg : ∀ s r, g s = some r → Eqs s.2.2.2.2.2.2 r.2) {v0 : Nat} {v1 : Nat} {v2 : Int32} {v3 : Int64} {v5 : Int32} {h : am_H} {r : (Int32 × am_H)} (hb : Steps_endsBehind_21_b g v0 v1 v2 v3 v5 h = some r) : Eqs h r.2 := by
  unfold Steps_endsBehind_21_b at hb
  have w0 := Eqs.rf h
  by_cases q : v2 < v5
  · have hb1 := ip q hb
    obtain rfl := Option.some.inj hb1
    exact w0
  · have hb2 := iq q hb
    obtain ⟨r3, e_r3, hb4⟩ := ob2 hb2
    have w5 := w0.tr (Steps_look_q e_r3)
    by_cases q : r3.1 = (3 : Int32)
    · have hb6 := ip q hb4
      obtain ⟨x8, e_x8, hb9⟩ := ob2 hb6
      by_cases q : (lg_cmp x8 v3) = (0 : Int32)
      · have hb11 := ip q hb9
        obtain rfl := Option.some.inj hb11
        exact w5
      · have hb10 := iq q hb9
        by_cases q : (v5 &&& (v5 - (1 : Int32))) = (0 : Int32)
        · have hb13 := ip q hb10
          exact w5.tr (hg _ _ hb13)
        · have hb12 := iq q hb10
          exact w5.tr (hg _ _ hb12)
    · have hb7 := iq q hb4
      by_cases q : r3.1 = (0 : Int32)
      · have hb15 := ip q hb7
        obtain rfl := Option.some.inj hb15
        exact w5
      · have hb14 := iq q hb7
        obtain rfl := Option.some.inj hb14
        exact w5
set_option maxHeartbeats 1000000 in
set_option maxRecDepth 100000 in
theorem Steps_endsBehind_80_r {g : (Nat × Int32 × Int32 × Int64 × Nat × Nat × am_H) → Option (Int32 × am_H)} (hg : ∀ s r, g s = some r → Eqs s.2.2.2.2.2.2 r.2) {v0 : Nat} {v1 : Nat} {v2 : Int32} {v3 : Int64} {v5 : Int32} {h : am_H} {r : (Int32 × am_H)} (hb : Steps_endsBehind_80_b g v0 v1 v2 v3 v5 h = some r) : Eqs h r.2 := by
  unfold Steps_endsBehind_80_b at hb
  have w0 := Eqs.rf h
  obtain ⟨h16, e_h16, hb17⟩ := ob2 hb
  have w18 := w0.tr (Steps_make_q e_h16)
  exact w18.tr (hg _ _ hb17)
theorem Steps_endsBehind_21_Q : ∀ s r, fx Steps_endsBehind_21_F Steps_endsBehind_21_M s = some r → Eqs s.2.2.2.2.2.2 r.2 := fx_ind Steps_endsBehind_21_M (fun s r => Eqs s.2.2.2.2.2.2 r.2) (fun g hg s r hb => by
  unfold Steps_endsBehind_21_F at hb
  by_cases q0 : s.1 = 21
  · exact Steps_endsBehind_21_r hg (ip q0 hb)
  · have hb0 := iq q0 hb
    by_cases q1 : s.1 = 80
    · exact Steps_endsBehind_80_r hg (ip q1 hb0)
    · have hb1 := iq q1 hb0
      exact nomatch hb1)
noncomputable def Steps_endsBehind_21 (v0 : Nat) (v1 : Nat) (v2 : Int32) (v3 : Int64) (v5 : Int32) (h : am_H) : Option (Int32 × am_H) := fx Steps_endsBehind_21_F Steps_endsBehind_21_M (21, v2, v5, v3, v0, v1, h)
noncomputable def Steps_endsBehind_80 (v0 : Nat) (v1 : Nat) (v2 : Int32) (v3 : Int64) (v5 : Int32) (h : am_H) : Option (Int32 × am_H) := fx Steps_endsBehind_21_F Steps_endsBehind_21_M (80, v2, v5, v3, v0, v1, h)
set_option maxHeartbeats 1000000 in
set_option maxRecDepth 100000 in
theorem Steps_endsBehind_21_e (v0 : Nat) (v1 : Nat) (v2 : Int32) (v3 : Int64) (v5 : Int32) (h : am_H) : Steps_endsBehind_21 v0 v1 v2 v3 v5 h = (if v2 < v5 then some ((-1 : Int32), h) else (Steps_look v0 v1 h).bind fun r3 => if r3.1 = (3 : Int32) then (Row_packed v1 r3.2).bind fun x8 => if (lg_cmp x8 v3) = (0 : Int32) then some ((-1 : Int32), r3.2) else if (v5 &&& (v5 - (1 : Int32))) = (0 : Int32) then Steps_endsBehind_80 v0 v1 v2 x8 v5 r3.2 else Steps_endsBehind_80 v0 v1 v2 v3 v5 r3.2 else if r3.1 = (0 : Int32) then some (v5, r3.2) else some ((-1 : Int32), r3.2)) := (fx_eq Steps_endsBehind_21_M (21, v2, v5, v3, v0, v1, h)).trans (if_pos rfl)
theorem Steps_endsBehind_21_q {v0 : Nat} {v1 : Nat} {v2 : Int32} {v3 : Int64} {v5 : Int32} {h : am_H} {r : (Int32 × am_H)} (hb : Steps_endsBehind_21 v0 v1 v2 v3 v5 h = some r) : Eqs h r.2 := Steps_endsBehind_21_Q _ _ hb
theorem Steps_endsBehind_21_s {v0 : Nat} {v1 : Nat} {v2 : Int32} {v3 : Int64} {v5 : Int32} {h : am_H} {r : (Int32 × am_H)} (hb : Steps_endsBehind_21 v0 v1 v2 v3 v5 h = some r) : Sx 4 mX6_endsBehind 21 [.ref v0, .ref v1, .int v2, .long v3, .retAddr 0, .int v5, .retAddr 0, .retAddr 0, .retAddr 0] [] h (some (.int r.1)) r.2 := (Steps_endsBehind_21_T _ _ hb).1 rfl
set_option maxHeartbeats 1000000 in
set_option maxRecDepth 100000 in
theorem Steps_endsBehind_80_e (v0 : Nat) (v1 : Nat) (v2 : Int32) (v3 : Int64) (v5 : Int32) (h : am_H) : Steps_endsBehind_80 v0 v1 v2 v3 v5 h = ((Steps_make v0 v1 h).bind fun h16 => Steps_endsBehind_21 v0 v1 v2 v3 (v5 + (1 : Int32)) h16) := (fx_eq Steps_endsBehind_21_M (80, v2, v5, v3, v0, v1, h)).trans ((if_neg (show ¬ (80 : Nat) = 21 by decide)).trans (if_pos rfl))
theorem Steps_endsBehind_80_q {v0 : Nat} {v1 : Nat} {v2 : Int32} {v3 : Int64} {v5 : Int32} {h : am_H} {r : (Int32 × am_H)} (hb : Steps_endsBehind_80 v0 v1 v2 v3 v5 h = some r) : Eqs h r.2 := Steps_endsBehind_21_Q _ _ hb
theorem Steps_endsBehind_80_s {v0 : Nat} {v1 : Nat} {v2 : Int32} {v3 : Int64} {v5 : Int32} {h : am_H} {r : (Int32 × am_H)} (hb : Steps_endsBehind_80 v0 v1 v2 v3 v5 h = some r) : Sx 4 mX6_endsBehind 80 [.ref v0, .ref v1, .int v2, .long v3, .retAddr 0, .int v5, .retAddr 0, .retAddr 0, .retAddr 0] [] h (some (.int r.1)) r.2 := (Steps_endsBehind_21_T _ _ hb).2.1 rfl
set_option maxHeartbeats 1000000 in
set_option maxRecDepth 100000 in
noncomputable def Steps_endsBehind (v0 : Nat) (v1 : Nat) (h : am_H) : Option (Int32 × am_H) := if isO h 6 v0 = true then (gR h 6 v0 8).bind fun x19 => (gI h 7 x19 5).bind fun x21 => Steps_endsBehind_21 v0 v1 (if (300 : Int32) < x21 then (300 : Int32) else x21) (-1 : Int64) (0 : Int32) h else none
set_option maxHeartbeats 1000000 in
set_option maxRecDepth 100000 in
theorem Steps_endsBehind_s {v0 : Nat} {v1 : Nat} {h : am_H} {r : (Int32 × am_H)} (hb : Steps_endsBehind v0 v1 h = some r) : Sx 4 mX6_endsBehind 0 (am_en [.ref v0, .ref v1] 9) [] h (some (.int r.1)) r.2 := by
  unfold Steps_endsBehind at hb
  have hb := (iz hb).2
  show Sx 4 mX6_endsBehind 0 [.ref v0, .ref v1, .retAddr 0, .retAddr 0, .retAddr 0, .retAddr 0, .retAddr 0, .retAddr 0, .retAddr 0] [] h (some (.int r.1)) r.2
  refine Sx.o (fun _ _ _ k => ex_aload_n dX6_endsBehind_0 rfl rfl k) ?_
  obtain ⟨x19, e_x19, hb20⟩ := ob2 hb
  refine Sx.o (fun _ _ _ k => op_getR fX6_19 dX6_endsBehind_1 e_x19 k) ?_
  obtain ⟨x21, e_x21, hb22⟩ := ob2 hb20
  refine Sx.o (fun _ _ _ k => op_getI fX6_85 dX6_endsBehind_4 e_x21 k) ?_
  refine Sx.o (fun _ _ _ k => op_sipush (300 : Int32) dX6_endsBehind_7 (by decide) k) ?_
  refine Sx.o (fun _ _ _ k => op_mmin (by omega) dX6_endsBehind_10 kX6_79 (Nat.le_of_ble_eq_true rfl) k) ?_
  refine Sx.o (L' := [.ref v0, .ref v1, .int (if (300 : Int32) < x21 then (300 : Int32) else x21), .retAddr 0, .retAddr 0, .retAddr 0, .retAddr 0, .retAddr 0, .retAddr 0]) (fun _ _ _ k => ex_istore_n dX6_endsBehind_13 (by decide) k) ?_
  refine Sx.o (fun _ _ _ k => ex_ldc2 dX6_endsBehind_14 qX6_111 k) ?_
  refine Sx.o (L' := [.ref v0, .ref v1, .int (if (300 : Int32) < x21 then (300 : Int32) else x21), .long (-1 : Int64), .retAddr 0, .retAddr 0, .retAddr 0, .retAddr 0, .retAddr 0]) (fun _ _ _ k => ex_lstore_n dX6_endsBehind_17 (by decide) k) ?_
  refine Sx.o (fun _ _ _ k => op_iconst (0 : Int32) dX6_endsBehind_18 (by decide) k) ?_
  refine Sx.o (L' := [.ref v0, .ref v1, .int (if (300 : Int32) < x21 then (300 : Int32) else x21), .long (-1 : Int64), .retAddr 0, .int (0 : Int32), .retAddr 0, .retAddr 0, .retAddr 0]) (fun _ _ _ k => ex_istore dX6_endsBehind_19 (by decide) k) ?_
  exact Steps_endsBehind_21_s hb22
set_option maxHeartbeats 1000000 in
set_option maxRecDepth 100000 in
theorem Steps_endsBehind_q {v0 : Nat} {v1 : Nat} {h : am_H} {r : (Int32 × am_H)} (hb : Steps_endsBehind v0 v1 h = some r) : Eqs h r.2 := by
  unfold Steps_endsBehind at hb
  have hb := (iz hb).2
  have w0 := Eqs.rf h
  obtain ⟨x19, e_x19, hb20⟩ := ob2 hb
  obtain ⟨x21, e_x21, hb22⟩ := ob2 hb20
  exact w0.tr (Steps_endsBehind_21_q hb22)
theorem Steps_endsBehind_o {v0 : Nat} {v1 : Nat} {h : am_H} {r : (Int32 × am_H)} (hb : Steps_endsBehind v0 v1 h = some r) : isO h 6 v0 = true := by
  unfold Steps_endsBehind at hb
  exact (iz hb).1
set_option maxHeartbeats 1000000 in
set_option maxRecDepth 100000 in
noncomputable def Steps_lookForCheat_17_b (g : (Nat × Int32 × Int32 × Nat × Nat × Nat × am_H) → Option am_H) (v0 : Nat) (v1 : Nat) (v2 : Nat) (v3 : Int32) (h : am_H) : Option am_H := (gI h 4 v1 1).bind fun x1 => if x1 ≤ v3 then some h else g (30, v3, (v3 + (1 : Int32)), v0, v1, v2, h)
set_option maxHeartbeats 1000000 in
set_option maxRecDepth 100000 in
theorem Steps_lookForCheat_17_m {g g2 : (Nat × Int32 × Int32 × Nat × Nat × Nat × am_H) → Option am_H} (hg : ∀ s, Le (g s) (g2 s)) (v0 : Nat) (v1 : Nat) (v2 : Nat) (v3 : Int32) (h : am_H) : Le (Steps_lookForCheat_17_b g v0 v1 v2 v3 h) (Steps_lookForCheat_17_b g2 v0 v1 v2 v3 h) := by unfold Steps_lookForCheat_17_b; exact le_b (le_r _) fun x1 => le_i (le_r _) (hg _)
set_option maxHeartbeats 1000000 in
set_option maxRecDepth 100000 in
noncomputable def Steps_lookForCheat_30_b (g : (Nat × Int32 × Int32 × Nat × Nat × Nat × am_H) → Option am_H) (v0 : Nat) (v1 : Nat) (v2 : Nat) (v3 : Int32) (v4 : Int32) (h : am_H) : Option am_H := (gI h 4 v1 1).bind fun x5 => if x5 ≤ v4 then g (17, (v3 + (1 : Int32)), 0, v0, v1, v2, h) else (Row_card v1 v3 h).bind fun x9 => (Row_card v1 v4 h).bind fun x11 => if x9 = x11 then g (98, v3, v4, v0, v1, v2, h) else (Row_copy v2 v1 h).bind fun h15 => (Row_exchange v2 v3 v4 h15).bind fun h18 => (Steps_endsBehind v0 v2 h18).bind fun r21 => (gI r21.2 6 v0 5).bind fun x24 => if r21.1 ≤ x24 then g (98, v3, v4, v0, v1, v2, r21.2) else (pV r21.2 6 v0 5 (.int r21.1)).bind fun h28 => (pV h28 6 v0 6 (.int v3)).bind fun h31 => (pV h31 6 v0 7 (.int v4)).bind fun h34 => g (98, v3, v4, v0, v1, v2, h34)
set_option maxHeartbeats 1000000 in
set_option maxRecDepth 100000 in
theorem Steps_lookForCheat_30_m {g g2 : (Nat × Int32 × Int32 × Nat × Nat × Nat × am_H) → Option am_H} (hg : ∀ s, Le (g s) (g2 s)) (v0 : Nat) (v1 : Nat) (v2 : Nat) (v3 : Int32) (v4 : Int32) (h : am_H) : Le (Steps_lookForCheat_30_b g v0 v1 v2 v3 v4 h) (Steps_lookForCheat_30_b g2 v0 v1 v2 v3 v4 h) := by unfold Steps_lookForCheat_30_b; exact le_b (le_r _) fun x5 => le_i (hg _) (le_b (le_r _) fun x9 => le_b (le_r _) fun x11 => le_i (hg _) (le_b (le_r _) fun h15 => le_b (le_r _) fun h18 => le_b (le_r _) fun r21 => le_b (le_r _) fun x24 => le_i (hg _) (le_b (le_r _) fun h28 => le_b (le_r _) fun h31 => le_b (le_r _) fun h34 => hg _)))
set_option maxHeartbeats 1000000 in
set_option maxRecDepth 100000 in
noncomputable def Steps_lookForCheat_98_b (g : (Nat × Int32 × Int32 × Nat × Nat × Nat × am_H) → Option am_H) (v0 : Nat) (v1 : Nat) (v2 : Nat) (v3 : Int32) (v4 : Int32) (h : am_H) : Option am_H := g (30, v3, (v4 + (1 : Int32)), v0, v1, v2, h)
set_option maxHeartbeats 1000000 in
set_option maxRecDepth 100000 in
theorem Steps_lookForCheat_98_m {g g2 : (Nat × Int32 × Int32 × Nat × Nat × Nat × am_H) → Option am_H} (hg : ∀ s, Le (g s) (g2 s)) (v0 : Nat) (v1 : Nat) (v2 : Nat) (v3 : Int32) (v4 : Int32) (h : am_H) : Le (Steps_lookForCheat_98_b g v0 v1 v2 v3 v4 h) (Steps_lookForCheat_98_b g2 v0 v1 v2 v3 v4 h) := by unfold Steps_lookForCheat_98_b; exact hg _
noncomputable def Steps_lookForCheat_17_F (g : (Nat × Int32 × Int32 × Nat × Nat × Nat × am_H) → Option am_H) (s : (Nat × Int32 × Int32 × Nat × Nat × Nat × am_H)) : Option am_H := if s.1 = 17 then Steps_lookForCheat_17_b g s.2.2.2.1 s.2.2.2.2.1 s.2.2.2.2.2.1 s.2.1 s.2.2.2.2.2.2 else if s.1 = 30 then Steps_lookForCheat_30_b g s.2.2.2.1 s.2.2.2.2.1 s.2.2.2.2.2.1 s.2.1 s.2.2.1 s.2.2.2.2.2.2 else if s.1 = 98 then Steps_lookForCheat_98_b g s.2.2.2.1 s.2.2.2.2.1 s.2.2.2.2.2.1 s.2.1 s.2.2.1 s.2.2.2.2.2.2 else none
theorem Steps_lookForCheat_17_M : Mn Steps_lookForCheat_17_F := fun g g2 hg s => by unfold Steps_lookForCheat_17_F; exact le_i (Steps_lookForCheat_17_m hg s.2.2.2.1 s.2.2.2.2.1 s.2.2.2.2.2.1 s.2.1 s.2.2.2.2.2.2) (le_i (Steps_lookForCheat_30_m hg s.2.2.2.1 s.2.2.2.2.1 s.2.2.2.2.2.1 s.2.1 s.2.2.1 s.2.2.2.2.2.2) (le_i (Steps_lookForCheat_98_m hg s.2.2.2.1 s.2.2.2.2.1 s.2.2.2.2.2.1 s.2.1 s.2.2.1 s.2.2.2.2.2.2) (le_r _)))
def Steps_lookForCheat_17_P (s : (Nat × Int32 × Int32 × Nat × Nat × Nat × am_H)) (r : am_H) : Prop := (s.1 = 17 → Sx 5 mX6_lookForCheat 17 [.ref s.2.2.2.1, .ref s.2.2.2.2.1, .ref s.2.2.2.2.2.1, .int s.2.1, .retAddr 0, .retAddr 0] [] s.2.2.2.2.2.2 none r) ∧ (s.1 = 30 → Sx 5 mX6_lookForCheat 30 [.ref s.2.2.2.1, .ref s.2.2.2.2.1, .ref s.2.2.2.2.2.1, .int s.2.1, .int s.2.2.1, .retAddr 0] [] s.2.2.2.2.2.2 none r) ∧ (s.1 = 98 → Sx 5 mX6_lookForCheat 98 [.ref s.2.2.2.1, .ref s.2.2.2.2.1, .ref s.2.2.2.2.2.1, .int s.2.1, .int s.2.2.1, .retAddr 0] [] s.2.2.2.2.2.2 none r) ∧ True
set_option maxHeartbeats 1000000 in
set_option maxRecDepth 100000 in
theorem Steps_lookForCheat_17_t {g : (Nat × Int32 × Int32 × Nat × Nat × Nat × am_H) → Option am_H} (hg : ∀ s r, g s = some r → Steps_lookForCheat_17_P s r) {v0 : Nat} {v1 : Nat} {v2 : Nat} {v3 : Int32} {h : am_H} {r : am_H} (hb : Steps_lookForCheat_17_b g v0 v1 v2 v3 h = some r) : Sx 5 mX6_lookForCheat 17 [.ref v0, .ref v1, .ref v2, .int v3, .retAddr 0, .retAddr 0] [] h none r := by
  unfold Steps_lookForCheat_17_b at hb
  refine Sx.o (fun _ _ _ k => ex_iload_n dX6_lookForCheat_17 rfl k) ?_
  refine Sx.o (fun _ _ _ k => ex_aload_n dX6_lookForCheat_18 rfl rfl k) ?_
  obtain ⟨x1, e_x1, hb2⟩ := ob2 hb
  refine Sx.o (fun _ _ _ k => op_getI fX6_59 dX6_lookForCheat_19 e_x1 k) ?_
  refine Sx.b (fun _ _ _ k1 k2 => ex_icmp_ge 110 dX6_lookForCheat_22 (by decide) k1 k2) (fun q => ?_) (fun q => ?_)
  · have hb3 := ip q hb2
    obtain rfl := Option.some.inj hb3
    exact Sx.r (fun _ _ _ k => ex_vret rfl dX6_lookForCheat_110 k)
  · have hb4 := iq q hb2
    refine Sx.o (fun _ _ _ k => ex_iload_n dX6_lookForCheat_25 rfl k) ?_
    refine Sx.o (fun _ _ _ k => op_iconst (1 : Int32) dX6_lookForCheat_26 (by decide) k) ?_
    refine Sx.o (fun _ _ _ k => ex_iadd dX6_lookForCheat_27 k) ?_
    refine Sx.o (L' := [.ref v0, .ref v1, .ref v2, .int v3, .int (v3 + (1 : Int32)), .retAddr 0]) (fun _ _ _ k => ex_istore dX6_lookForCheat_28 (by decide) k) ?_
    exact (hg _ _ hb4).2.1 rfl
set_option maxHeartbeats 1000000 in
set_option maxRecDepth 100000 in
theorem Steps_lookForCheat_30_t {g : (Nat × Int32 × Int32 × Nat × Nat × Nat × am_H) → Option am_H} (hg : ∀ s r, g s = some r → Steps_lookForCheat_17_P s r) {v0 : Nat} {v1 : Nat} {v2 : Nat} {v3 : Int32} {v4 : Int32} {h : am_H} {r : am_H} (hb : Steps_lookForCheat_30_b g v0 v1 v2 v3 v4 h = some r) : Sx 5 mX6_lookForCheat 30 [.ref v0, .ref v1, .ref v2, .int v3, .int v4, .retAddr 0] [] h none r := by
  unfold Steps_lookForCheat_30_b at hb
  refine Sx.o (fun _ _ _ k => ex_iload dX6_lookForCheat_30 rfl k) ?_
  refine Sx.o (fun _ _ _ k => ex_aload_n dX6_lookForCheat_32 rfl rfl k) ?_
  obtain ⟨x5, e_x5, hb6⟩ := ob2 hb
  refine Sx.o (fun _ _ _ k => op_getI fX6_59 dX6_lookForCheat_33 e_x5 k) ?_
  refine Sx.b (fun _ _ _ k1 k2 => ex_icmp_ge 104 dX6_lookForCheat_36 (by decide) k1 k2) (fun q => ?_) (fun q => ?_)
  · have hb7 := ip q hb6
    refine Sx.o (L' := [.ref v0, .ref v1, .ref v2, .int (v3 + (1 : Int32)), .int v4, .retAddr 0]) (fun _ _ _ k => op_iinc (1 : Int32) dX6_lookForCheat_104 (by decide) rfl (by decide) k) ?_
    refine Sx.o (fun _ _ _ k => ex_goto 17 dX6_lookForCheat_107 (by decide) k) ?_
    refine Sx.fg [true, true, true, true, false, true] ?_
    exact (hg _ _ hb7).1 rfl
  · have hb8 := iq q hb6
    refine Sx.o (fun _ _ _ k => ex_aload_n dX6_lookForCheat_39 rfl rfl k) ?_
    refine Sx.o (fun _ _ _ k => ex_iload_n dX6_lookForCheat_40 rfl k) ?_
    obtain ⟨x9, e_x9, hb10⟩ := ob2 hb8
    refine sx_callV (dc := 0) (as := [.int v3]) (stq := [.int x9]) (by omega) dX6_lookForCheat_41 MX4_card kX6_23 iX4_card sX4_card rfl rfl (Row_card_o e_x9) rfl rfl (Nat.le_of_ble_eq_true rfl) (Nat.le_of_ble_eq_true rfl) (Row_card_s e_x9) rfl ?_
    refine Sx.o (fun _ _ _ k => ex_aload_n dX6_lookForCheat_44 rfl rfl k) ?_
    refine Sx.o (fun _ _ _ k => ex_iload dX6_lookForCheat_45 rfl k) ?_
    obtain ⟨x11, e_x11, hb12⟩ := ob2 hb10
    refine sx_callV (dc := 0) (as := [.int v4]) (stq := [.int x11, .int x9]) (by omega) dX6_lookForCheat_47 MX4_card kX6_23 iX4_card sX4_card rfl rfl (Row_card_o e_x11) rfl rfl (Nat.le_of_ble_eq_true rfl) (Nat.le_of_ble_eq_true rfl) (Row_card_s e_x11) rfl ?_
    refine Sx.b (fun _ _ _ k1 k2 => ex_icmp_eq 98 dX6_lookForCheat_50 (by decide) k1 k2) (fun q => ?_) (fun q => ?_)
    · have hb13 := ip q hb12
      exact (hg _ _ hb13).2.2.1 rfl
    · have hb14 := iq q hb12
      refine Sx.o (fun _ _ _ k => ex_aload_n dX6_lookForCheat_53 rfl rfl k) ?_
      refine Sx.o (fun _ _ _ k => ex_aload_n dX6_lookForCheat_54 rfl rfl k) ?_
      obtain ⟨h15, e_h15, hb16⟩ := ob2 hb14
      refine sx_callV (dc := 1) (as := [.ref v1]) (stq := []) (by omega) dX6_lookForCheat_55 MX4_copy kX6_122 iX4_copy sX4_copy rfl rfl (Row_copy_o e_h15) rfl rfl (Nat.le_of_ble_eq_true rfl) (Nat.le_of_ble_eq_true rfl) (Row_copy_s e_h15) rfl ?_
      refine Sx.o (fun _ _ _ k => ex_aload_n dX6_lookForCheat_58 rfl rfl k) ?_
      refine Sx.o (fun _ _ _ k => ex_iload_n dX6_lookForCheat_59 rfl k) ?_
      refine Sx.o (fun _ _ _ k => ex_iload dX6_lookForCheat_60 rfl k) ?_
      obtain ⟨h18, e_h18, hb19⟩ := ob2 hb16
      refine sx_callV (dc := 1) (as := [.int v3, .int v4]) (stq := []) (by omega) dX6_lookForCheat_62 MX4_exchange kX6_125 iX4_exchange sX4_exchange rfl rfl (Row_exchange_o e_h18) rfl rfl (Nat.le_of_ble_eq_true rfl) (Nat.le_of_ble_eq_true rfl) (Row_exchange_s e_h18) rfl ?_
      refine Sx.o (fun _ _ _ k => ex_aload_n dX6_lookForCheat_65 rfl rfl k) ?_
      refine Sx.o (fun _ _ _ k => ex_aload_n dX6_lookForCheat_66 rfl rfl k) ?_
      obtain ⟨r21, e_r21, hb22⟩ := ob2 hb19
      refine sx_callV (dc := 4) (as := [.ref v2]) (stq := [.int r21.1]) (by omega) dX6_lookForCheat_67 MX6_endsBehind kX6_128 iX6_endsBehind sX6_endsBehind rfl rfl (Steps_endsBehind_o e_r21) rfl rfl (Nat.le_of_ble_eq_true rfl) (Nat.le_of_ble_eq_true rfl) (Steps_endsBehind_s e_r21) rfl ?_
      refine Sx.o (L' := [.ref v0, .ref v1, .ref v2, .int v3, .int v4, .int r21.1]) (fun _ _ _ k => ex_istore dX6_lookForCheat_70 (by decide) k) ?_
      refine Sx.o (fun _ _ _ k => ex_iload dX6_lookForCheat_72 rfl k) ?_
      refine Sx.o (fun _ _ _ k => ex_aload_n dX6_lookForCheat_74 rfl rfl k) ?_
      obtain ⟨x24, e_x24, hb25⟩ := ob2 hb22
      refine Sx.o (fun _ _ _ k => op_getI fX6_113 dX6_lookForCheat_75 e_x24 k) ?_
      refine Sx.b (fun _ _ _ k1 k2 => ex_icmp_le 98 dX6_lookForCheat_78 (by decide) k1 k2) (fun q => ?_) (fun q => ?_)
      · have hb26 := ip q hb25
        refine Sx.fg [true, true, true, true, true, false] ?_
        exact (hg _ _ hb26).2.2.1 rfl
      · have hb27 := iq q hb25
        refine Sx.o (fun _ _ _ k => ex_aload_n dX6_lookForCheat_81 rfl rfl k) ?_
        refine Sx.o (fun _ _ _ k => ex_iload dX6_lookForCheat_82 rfl k) ?_
        obtain ⟨h28, e_h28, hb29⟩ := ob2 hb27
        refine Sx.p (pV_q e_h28) (fun _ _ _ k => op_put pX6_113 dX6_lookForCheat_84 e_h28 (fun _ => rfl) (fun _ => rfl) k) ?_
        refine Sx.o (fun _ _ _ k => ex_aload_n dX6_lookForCheat_87 rfl rfl k) ?_
        refine Sx.o (fun _ _ _ k => ex_iload_n dX6_lookForCheat_88 rfl k) ?_
        obtain ⟨h31, e_h31, hb32⟩ := ob2 hb29
        refine Sx.p (pV_q e_h31) (fun _ _ _ k => op_put pX6_116 dX6_lookForCheat_89 e_h31 (fun _ => rfl) (fun _ => rfl) k) ?_
        refine Sx.o (fun _ _ _ k => ex_aload_n dX6_lookForCheat_92 rfl rfl k) ?_
        refine Sx.o (fun _ _ _ k => ex_iload dX6_lookForCheat_93 rfl k) ?_
        obtain ⟨h34, e_h34, hb35⟩ := ob2 hb32
        refine Sx.p (pV_q e_h34) (fun _ _ _ k => op_put pX6_119 dX6_lookForCheat_95 e_h34 (fun _ => rfl) (fun _ => rfl) k) ?_
        refine Sx.fg [true, true, true, true, true, false] ?_
        exact (hg _ _ hb35).2.2.1 rfl
set_option maxHeartbeats 1000000 in
set_option maxRecDepth 100000 in
theorem Steps_lookForCheat_98_t {g : (Nat × Int32 × Int32 × Nat × Nat × Nat × am_H) → Option am_H} (hg : ∀ s r, g s = some r → Steps_lookForCheat_17_P s r) {v0 : Nat} {v1 : Nat} {v2 : Nat} {v3 : Int32} {v4 : Int32} {h : am_H} {r : am_H} (hb : Steps_lookForCheat_98_b g v0 v1 v2 v3 v4 h = some r) : Sx 5 mX6_lookForCheat 98 [.ref v0, .ref v1, .ref v2, .int v3, .int v4, .retAddr 0] [] h none r := by
  unfold Steps_lookForCheat_98_b at hb
  refine Sx.o (L' := [.ref v0, .ref v1, .ref v2, .int v3, .int (v4 + (1 : Int32)), .retAddr 0]) (fun _ _ _ k => op_iinc (1 : Int32) dX6_lookForCheat_98 (by decide) rfl (by decide) k) ?_
  refine Sx.o (fun _ _ _ k => ex_goto 30 dX6_lookForCheat_101 (by decide) k) ?_
  exact (hg _ _ hb).2.1 rfl
theorem Steps_lookForCheat_17_T : ∀ s r, fx Steps_lookForCheat_17_F Steps_lookForCheat_17_M s = some r → Steps_lookForCheat_17_P s r := fx_ind Steps_lookForCheat_17_M Steps_lookForCheat_17_P (fun g hg s r hb => by
  unfold Steps_lookForCheat_17_F at hb
  exact ⟨fun q => Steps_lookForCheat_17_t hg (ip q hb), fun q => Steps_lookForCheat_30_t hg (ip q (iq (by rw [q]; decide) hb)), fun q => Steps_lookForCheat_98_t hg (ip q (iq (by rw [q]; decide) (iq (by rw [q]; decide) hb))), trivial⟩)
set_option maxHeartbeats 1000000 in
set_option maxRecDepth 100000 in
theorem Steps_lookForCheat_17_r {g : (Nat × Int32 × Int32 × Nat × Nat × Nat × am_H) → Option am_H} (hg : ∀ s r, g s = some r → Eqs s.2.2.2.2.2.2 r) {v0 : Nat} {v1 : Nat} {v2 : Nat} {v3 : Int32} {h : am_H} {r : am_H} (hb : Steps_lookForCheat_17_b g v0 v1 v2 v3 h = some r) : Eqs h r := by
  unfold Steps_lookForCheat_17_b at hb
  have w0 := Eqs.rf h
  obtain ⟨x1, e_x1, hb2⟩ := ob2 hb
  by_cases q : x1 ≤ v3
  · have hb3 := ip q hb2
    obtain rfl := Option.some.inj hb3
    exact w0
  · have hb4 := iq q hb2
    exact w0.tr (hg _ _ hb4)
set_option maxHeartbeats 1000000 in
set_option maxRecDepth 100000 in
theorem Steps_lookForCheat_30_r {g : (Nat × Int32 × Int32 × Nat × Nat × Nat × am_H) → Option am_H} (hg : ∀ s r, g s = some r → Eqs s.2.2.2.2.2.2 r) {v0 : Nat} {v1 : Nat} {v2 : Nat} {v3 : Int32} {v4 : Int32} {h : am_H} {r : am_H} (hb : Steps_lookForCheat_30_b g v0 v1 v2 v3 v4 h = some r) : Eqs h r := by
  unfold Steps_lookForCheat_30_b at hb
  have w0 := Eqs.rf h
  obtain ⟨x5, e_x5, hb6⟩ := ob2 hb
  by_cases q : x5 ≤ v4
  · have hb7 := ip q hb6
    exact w0.tr (hg _ _ hb7)
  · have hb8 := iq q hb6
    obtain ⟨x9, e_x9, hb10⟩ := ob2 hb8
    obtain ⟨x11, e_x11, hb12⟩ := ob2 hb10
    by_cases q : x9 = x11
    · have hb13 := ip q hb12
      exact w0.tr (hg _ _ hb13)
    · have hb14 := iq q hb12
      obtain ⟨h15, e_h15, hb16⟩ := ob2 hb14
      have w17 := w0.tr (Row_copy_q e_h15)
      obtain ⟨h18, e_h18, hb19⟩ := ob2 hb16
      have w20 := w17.tr (Row_exchange_q e_h18)
      obtain ⟨r21, e_r21, hb22⟩ := ob2 hb19
      have w23 := w20.tr (Steps_endsBehind_q e_r21)
      obtain ⟨x24, e_x24, hb25⟩ := ob2 hb22
      by_cases q : r21.1 ≤ x24
      · have hb26 := ip q hb25
        exact w23.tr (hg _ _ hb26)
      · have hb27 := iq q hb25
        obtain ⟨h28, e_h28, hb29⟩ := ob2 hb27
        have w30 := w23.tr (pV_q e_h28)
        obtain ⟨h31, e_h31, hb32⟩ := ob2 hb29
        have w33 := w30.tr (pV_q e_h31)
        obtain ⟨h34, e_h34, hb35⟩ := ob2 hb32
        have w36 := w33.tr (pV_q e_h34)
        exact w36.tr (hg _ _ hb35)
set_option maxHeartbeats 1000000 in
set_option maxRecDepth 100000 in
theorem Steps_lookForCheat_98_r {g : (Nat × Int32 × Int32 × Nat × Nat × Nat × am_H) → Option am_H} (hg : ∀ s r, g s = some r → Eqs s.2.2.2.2.2.2 r) {v0 : Nat} {v1 : Nat} {v2 : Nat} {v3 : Int32} {v4 : Int32} {h : am_H} {r : am_H} (hb : Steps_lookForCheat_98_b g v0 v1 v2 v3 v4 h = some r) : Eqs h r := by
  unfold Steps_lookForCheat_98_b at hb
  have w0 := Eqs.rf h
  exact w0.tr (hg _ _ hb)
theorem Steps_lookForCheat_17_Q : ∀ s r, fx Steps_lookForCheat_17_F Steps_lookForCheat_17_M s = some r → Eqs s.2.2.2.2.2.2 r := fx_ind Steps_lookForCheat_17_M (fun s r => Eqs s.2.2.2.2.2.2 r) (fun g hg s r hb => by
  unfold Steps_lookForCheat_17_F at hb
  by_cases q0 : s.1 = 17
  · exact Steps_lookForCheat_17_r hg (ip q0 hb)
  · have hb0 := iq q0 hb
    by_cases q1 : s.1 = 30
    · exact Steps_lookForCheat_30_r hg (ip q1 hb0)
    · have hb1 := iq q1 hb0
      by_cases q2 : s.1 = 98
      · exact Steps_lookForCheat_98_r hg (ip q2 hb1)
      · have hb2 := iq q2 hb1
        exact nomatch hb2)
noncomputable def Steps_lookForCheat_17 (v0 : Nat) (v1 : Nat) (v2 : Nat) (v3 : Int32) (h : am_H) : Option am_H := fx Steps_lookForCheat_17_F Steps_lookForCheat_17_M (17, v3, 0, v0, v1, v2, h)
noncomputable def Steps_lookForCheat_30 (v0 : Nat) (v1 : Nat) (v2 : Nat) (v3 : Int32) (v4 : Int32) (h : am_H) : Option am_H := fx Steps_lookForCheat_17_F Steps_lookForCheat_17_M (30, v3, v4, v0, v1, v2, h)
noncomputable def Steps_lookForCheat_98 (v0 : Nat) (v1 : Nat) (v2 : Nat) (v3 : Int32) (v4 : Int32) (h : am_H) : Option am_H := fx Steps_lookForCheat_17_F Steps_lookForCheat_17_M (98, v3, v4, v0, v1, v2, h)
set_option maxHeartbeats 1000000 in
set_option maxRecDepth 100000 in
theorem Steps_lookForCheat_17_e (v0 : Nat) (v1 : Nat) (v2 : Nat) (v3 : Int32) (h : am_H) : Steps_lookForCheat_17 v0 v1 v2 v3 h = ((gI h 4 v1 1).bind fun x1 => if x1 ≤ v3 then some h else Steps_lookForCheat_30 v0 v1 v2 v3 (v3 + (1 : Int32)) h) := (fx_eq Steps_lookForCheat_17_M (17, v3, 0, v0, v1, v2, h)).trans (if_pos rfl)
theorem Steps_lookForCheat_17_q {v0 : Nat} {v1 : Nat} {v2 : Nat} {v3 : Int32} {h : am_H} {r : am_H} (hb : Steps_lookForCheat_17 v0 v1 v2 v3 h = some r) : Eqs h r := Steps_lookForCheat_17_Q _ _ hb
theorem Steps_lookForCheat_17_s {v0 : Nat} {v1 : Nat} {v2 : Nat} {v3 : Int32} {h : am_H} {r : am_H} (hb : Steps_lookForCheat_17 v0 v1 v2 v3 h = some r) : Sx 5 mX6_lookForCheat 17 [.ref v0, .ref v1, .ref v2, .int v3, .retAddr 0, .retAddr 0] [] h none r := (Steps_lookForCheat_17_T _ _ hb).1 rfl
set_option maxHeartbeats 1000000 in
set_option maxRecDepth 100000 in
theorem Steps_lookForCheat_30_e (v0 : Nat) (v1 : Nat) (v2 : Nat) (v3 : Int32) (v4 : Int32) (h : am_H) : Steps_lookForCheat_30 v0 v1 v2 v3 v4 h = ((gI h 4 v1 1).bind fun x5 => if x5 ≤ v4 then Steps_lookForCheat_17 v0 v1 v2 (v3 + (1 : Int32)) h else (Row_card v1 v3 h).bind fun x9 => (Row_card v1 v4 h).bind fun x11 => if x9 = x11 then Steps_lookForCheat_98 v0 v1 v2 v3 v4 h else (Row_copy v2 v1 h).bind fun h15 => (Row_exchange v2 v3 v4 h15).bind fun h18 => (Steps_endsBehind v0 v2 h18).bind fun r21 => (gI r21.2 6 v0 5).bind fun x24 => if r21.1 ≤ x24 then Steps_lookForCheat_98 v0 v1 v2 v3 v4 r21.2 else (pV r21.2 6 v0 5 (.int r21.1)).bind fun h28 => (pV h28 6 v0 6 (.int v3)).bind fun h31 => (pV h31 6 v0 7 (.int v4)).bind fun h34 => Steps_lookForCheat_98 v0 v1 v2 v3 v4 h34) := (fx_eq Steps_lookForCheat_17_M (30, v3, v4, v0, v1, v2, h)).trans ((if_neg (show ¬ (30 : Nat) = 17 by decide)).trans (if_pos rfl))
theorem Steps_lookForCheat_30_q {v0 : Nat} {v1 : Nat} {v2 : Nat} {v3 : Int32} {v4 : Int32} {h : am_H} {r : am_H} (hb : Steps_lookForCheat_30 v0 v1 v2 v3 v4 h = some r) : Eqs h r := Steps_lookForCheat_17_Q _ _ hb
theorem Steps_lookForCheat_30_s {v0 : Nat} {v1 : Nat} {v2 : Nat} {v3 : Int32} {v4 : Int32} {h : am_H} {r : am_H} (hb : Steps_lookForCheat_30 v0 v1 v2 v3 v4 h = some r) : Sx 5 mX6_lookForCheat 30 [.ref v0, .ref v1, .ref v2, .int v3, .int v4, .retAddr 0] [] h none r := (Steps_lookForCheat_17_T _ _ hb).2.1 rfl
set_option maxHeartbeats 1000000 in
set_option maxRecDepth 100000 in
theorem Steps_lookForCheat_98_e (v0 : Nat) (v1 : Nat) (v2 : Nat) (v3 : Int32) (v4 : Int32) (h : am_H) : Steps_lookForCheat_98 v0 v1 v2 v3 v4 h = (Steps_lookForCheat_30 v0 v1 v2 v3 (v4 + (1 : Int32)) h) := (fx_eq Steps_lookForCheat_17_M (98, v3, v4, v0, v1, v2, h)).trans ((if_neg (show ¬ (98 : Nat) = 17 by decide)).trans ((if_neg (show ¬ (98 : Nat) = 30 by decide)).trans (if_pos rfl)))
theorem Steps_lookForCheat_98_q {v0 : Nat} {v1 : Nat} {v2 : Nat} {v3 : Int32} {v4 : Int32} {h : am_H} {r : am_H} (hb : Steps_lookForCheat_98 v0 v1 v2 v3 v4 h = some r) : Eqs h r := Steps_lookForCheat_17_Q _ _ hb
theorem Steps_lookForCheat_98_s {v0 : Nat} {v1 : Nat} {v2 : Nat} {v3 : Int32} {v4 : Int32} {h : am_H} {r : am_H} (hb : Steps_lookForCheat_98 v0 v1 v2 v3 v4 h = some r) : Sx 5 mX6_lookForCheat 98 [.ref v0, .ref v1, .ref v2, .int v3, .int v4, .retAddr 0] [] h none r := (Steps_lookForCheat_17_T _ _ hb).2.2.1 rfl
set_option maxHeartbeats 1000000 in
set_option maxRecDepth 100000 in
noncomputable def Steps_lookForCheat (v0 : Nat) (v1 : Nat) (v2 : Nat) (h : am_H) : Option am_H := if isO h 6 v0 = true then (pV h 6 v0 5 (.int (-1 : Int32))).bind fun h37 => (pV h37 6 v0 6 (.int (-1 : Int32))).bind fun h40 => (pV h40 6 v0 7 (.int (-1 : Int32))).bind fun h43 => Steps_lookForCheat_17 v0 v1 v2 (0 : Int32) h43 else none
set_option maxHeartbeats 1000000 in
set_option maxRecDepth 100000 in
theorem Steps_lookForCheat_s {v0 : Nat} {v1 : Nat} {v2 : Nat} {h : am_H} {r : am_H} (hb : Steps_lookForCheat v0 v1 v2 h = some r) : Sx 5 mX6_lookForCheat 0 (am_en [.ref v0, .ref v1, .ref v2] 6) [] h none r := by
  unfold Steps_lookForCheat at hb
  have hb := (iz hb).2
  show Sx 5 mX6_lookForCheat 0 [.ref v0, .ref v1, .ref v2, .retAddr 0, .retAddr 0, .retAddr 0] [] h none r
  refine Sx.o (fun _ _ _ k => ex_aload_n dX6_lookForCheat_0 rfl rfl k) ?_
  refine Sx.o (fun _ _ _ k => op_iconst (-1 : Int32) dX6_lookForCheat_1 (by decide) k) ?_
  obtain ⟨h37, e_h37, hb38⟩ := ob2 hb
  refine Sx.p (pV_q e_h37) (fun _ _ _ k => op_put pX6_113 dX6_lookForCheat_2 e_h37 (fun _ => rfl) (fun _ => rfl) k) ?_
  refine Sx.o (fun _ _ _ k => ex_aload_n dX6_lookForCheat_5 rfl rfl k) ?_
  refine Sx.o (fun _ _ _ k => op_iconst (-1 : Int32) dX6_lookForCheat_6 (by decide) k) ?_
  obtain ⟨h40, e_h40, hb41⟩ := ob2 hb38
  refine Sx.p (pV_q e_h40) (fun _ _ _ k => op_put pX6_116 dX6_lookForCheat_7 e_h40 (fun _ => rfl) (fun _ => rfl) k) ?_
  refine Sx.o (fun _ _ _ k => ex_aload_n dX6_lookForCheat_10 rfl rfl k) ?_
  refine Sx.o (fun _ _ _ k => op_iconst (-1 : Int32) dX6_lookForCheat_11 (by decide) k) ?_
  obtain ⟨h43, e_h43, hb44⟩ := ob2 hb41
  refine Sx.p (pV_q e_h43) (fun _ _ _ k => op_put pX6_119 dX6_lookForCheat_12 e_h43 (fun _ => rfl) (fun _ => rfl) k) ?_
  refine Sx.o (fun _ _ _ k => op_iconst (0 : Int32) dX6_lookForCheat_15 (by decide) k) ?_
  refine Sx.o (L' := [.ref v0, .ref v1, .ref v2, .int (0 : Int32), .retAddr 0, .retAddr 0]) (fun _ _ _ k => ex_istore_n dX6_lookForCheat_16 (by decide) k) ?_
  exact Steps_lookForCheat_17_s hb44
set_option maxHeartbeats 1000000 in
set_option maxRecDepth 100000 in
theorem Steps_lookForCheat_q {v0 : Nat} {v1 : Nat} {v2 : Nat} {h : am_H} {r : am_H} (hb : Steps_lookForCheat v0 v1 v2 h = some r) : Eqs h r := by
  unfold Steps_lookForCheat at hb
  have hb := (iz hb).2
  have w0 := Eqs.rf h
  obtain ⟨h37, e_h37, hb38⟩ := ob2 hb
  have w39 := w0.tr (pV_q e_h37)
  obtain ⟨h40, e_h40, hb41⟩ := ob2 hb38
  have w42 := w39.tr (pV_q e_h40)
  obtain ⟨h43, e_h43, hb44⟩ := ob2 hb41
  have w45 := w42.tr (pV_q e_h43)
  exact w45.tr (Steps_lookForCheat_17_q hb44)
theorem Steps_lookForCheat_o {v0 : Nat} {v1 : Nat} {v2 : Nat} {h : am_H} {r : am_H} (hb : Steps_lookForCheat v0 v1 v2 h = some r) : isO h 6 v0 = true := by
  unfold Steps_lookForCheat at hb
  exact (iz hb).1
set_option maxHeartbeats 1000000 in
set_option maxRecDepth 100000 in
noncomputable def Steps_init (v0 : Nat) (v1 : Nat) (h : am_H) : Option am_H := if isO h 6 v0 = true then (nA h 0 (8 : Int32)).bind fun h1 => (pV h1 6 v0 9 (.ref (List.length h))).bind fun h3 => (nA h3 3 (301 : Int32)).bind fun h6 => (pV h6 6 v0 10 (.ref (List.length h3))).bind fun h8 => (pV h8 6 v0 8 (.ref v1)).bind fun h11 => some h11 else none
set_option maxHeartbeats 1000000 in
set_option maxRecDepth 100000 in
theorem Steps_init_s {v0 : Nat} {v1 : Nat} {h : am_H} {r : am_H} (hb : Steps_init v0 v1 h = some r) : Sx 1 mX6_init 0 (am_en [.ref v0, .ref v1] 2) [] h none r := by
  unfold Steps_init at hb
  have hb := (iz hb).2
  show Sx 1 mX6_init 0 [.ref v0, .ref v1] [] h none r
  refine Sx.o (fun _ _ _ k => ex_aload_n dX6_init_0 rfl rfl k) ?_
  refine Sx.o (fun _ _ _ k => op_obj (by omega) dX6_init_1 kX6_3 (Nat.le_of_ble_eq_true rfl) k) ?_
  refine Sx.o (fun _ _ _ k => ex_aload_n dX6_init_4 rfl rfl k) ?_
  refine Sx.o (fun _ _ _ k => op_bipush (8 : Int32) dX6_init_5 (by decide) k) ?_
  obtain ⟨h1, e_h1, hb2⟩ := ob2 hb
  refine sx_newa (t := 0) (fun _ _ _ N c1 c2 c3 kk => ex_newa0 a_int dX6_init_7 c1 c2 c3 kk) e_h1 ?_
  obtain ⟨h3, e_h3, hb4⟩ := ob2 hb2
  refine Sx.p (pV_q e_h3) (fun _ _ _ k => op_putF pX6_9 (fun r hr => by cases hr; rfl) rfl dX6_init_9 e_h3 (fun _ => rfl) (fun _ => rfl) k) ?_
  refine Sx.o (fun _ _ _ k => ex_aload_n dX6_init_12 rfl rfl k) ?_
  refine Sx.o (fun _ _ _ k => op_sipush (301 : Int32) dX6_init_13 (by decide) k) ?_
  obtain ⟨h6, e_h6, hb7⟩ := ob2 hb4
  refine sx_newa (t := 3) (fun _ _ _ N c1 c2 c3 kk => ex_newa3 a_long dX6_init_16 c1 c2 c3 kk) e_h6 ?_
  obtain ⟨h8, e_h8, hb9⟩ := ob2 hb7
  refine Sx.p (pV_q e_h8) (fun _ _ _ k => op_putF pX6_15 (fun r hr => by cases hr; rfl) rfl dX6_init_18 e_h8 (fun _ => rfl) (fun _ => rfl) k) ?_
  refine Sx.o (fun _ _ _ k => ex_aload_n dX6_init_21 rfl rfl k) ?_
  refine Sx.o (fun _ _ _ k => ex_aload_n dX6_init_22 rfl rfl k) ?_
  obtain ⟨h11, e_h11, hb12⟩ := ob2 hb9
  refine Sx.p (pV_q e_h11) (fun _ _ _ k => op_putF pX6_19 (fun r hr => by cases hr; rfl) rfl dX6_init_23 e_h11 (fun _ => rfl) (fun _ => rfl) k) ?_
  obtain rfl := Option.some.inj hb12
  exact Sx.r (fun _ _ _ k => ex_vret rfl dX6_init_26 k)
theorem Steps_init_o {v0 : Nat} {v1 : Nat} {h : am_H} {r : am_H} (hb : Steps_init v0 v1 h = some r) : isO h 6 v0 = true := by
  unfold Steps_init at hb
  exact (iz hb).1
