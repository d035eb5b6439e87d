/-! the reference: its methods as functions (by wip/whole/dec.py) -/
set_option maxHeartbeats 1000000 in
set_option maxRecDepth 100000 in
noncomputable def Ref_image_17_b (g : (Nat × Int32 × Int32 × Nat × am_H) → Option (Int32 × am_H)) (v0 : Nat) (v1 : Int32) (v2 : Int32) (h : am_H) : Option (Int32 × am_H) := if (5725 : Int32) ≤ v2 then (gR h 12 v0 4).bind fun x3 => (sZ h x3 v1 (1 : Int32)).bind fun h5 => (Ref_good v0 (0 : Int32) h5).bind fun r8 => some (r8.1, r8.2) else (gR h 12 v0 3).bind fun x11 => (gR h 12 v0 2).bind fun x13 => (aI h 0 x13 v2).bind fun x15 => (sI h x11 (((5725 : Int32) * v1) + v2) x15).bind fun h17 => g (17, v1, (v2 + (1 : Int32)), v0, h17)
set_option maxHeartbeats 1000000 in
set_option maxRecDepth 100000 in
theorem Ref_image_17_m {g g2 : (Nat × Int32 × Int32 × Nat × am_H) → Option (Int32 × am_H)} (hg : ∀ s, Le (g s) (g2 s)) (v0 : Nat) (v1 : Int32) (v2 : Int32) (h : am_H) : Le (Ref_image_17_b g v0 v1 v2 h) (Ref_image_17_b g2 v0 v1 v2 h) := by unfold Ref_image_17_b; exact le_i (le_r _) (le_b (le_r _) fun x11 => le_b (le_r _) fun x13 => le_b (le_r _) fun x15 => le_b (le_r _) fun h17 => hg _)
noncomputable def Ref_image_17_F (g : (Nat × Int32 × Int32 × Nat × am_H) → Option (Int32 × am_H)) (s : (Nat × Int32 × Int32 × Nat × am_H)) : Option (Int32 × am_H) := if s.1 = 17 then Ref_image_17_b g s.2.2.2.1 s.2.1 s.2.2.1 s.2.2.2.2 else none
theorem Ref_image_17_M : Mn Ref_image_17_F := fun g g2 hg s => by unfold Ref_image_17_F; exact le_i (Ref_image_17_m hg s.2.2.2.1 s.2.1 s.2.2.1 s.2.2.2.2) (le_r _)
def Ref_image_17_P (s : (Nat × Int32 × Int32 × Nat × am_H)) (r : (Int32 × am_H)) : Prop := (s.1 = 17 → Sx 1 mX12_image 17 [.ref s.2.2.2.1, .int s.2.1, .int s.2.2.1] [] s.2.2.2.2 (some (.int r.1)) r.2) ∧ True
set_option maxHeartbeats 1000000 in
set_option maxRecDepth 100000 in
theorem Ref_image_17_t {g : (Nat × Int32 × Int32 × Nat × am_H) → Option (Int32 × am_H)} (hg : ∀ s r, g s = some r → Ref_image_17_P s r) {v0 : Nat} {v1 : Int32} {v2 : Int32} {h : am_H} {r : (Int32 × am_H)} (hb : Ref_image_17_b g v0 v1 v2 h = some r) : Sx 1 mX12_image 17 [.ref v0, .int v1, .int v2] [] h (some (.int r.1)) r.2 := by
  unfold Ref_image_17_b at hb
  refine Sx.o (fun _ _ _ k => ex_iload_n dX12_image_17 rfl k) ?_
  refine Sx.o (fun _ _ _ k => op_sipush (5725 : Int32) dX12_image_18 (by decide) k) ?_
  refine Sx.b (fun _ _ _ k1 k2 => ex_icmp_ge 48 dX12_image_21 (by decide) k1 k2) (fun q => ?_) (fun q => ?_)
  · have hb1 := ip q hb
    refine Sx.o (fun _ _ _ k => ex_aload_n dX12_image_48 rfl rfl k) ?_
    obtain ⟨x3, e_x3, hb4⟩ := ob2 hb1
    refine Sx.o (fun _ _ _ k => op_getR fX12_30 dX12_image_49 e_x3 k) ?_
    refine Sx.o (fun _ _ _ k => ex_iload_n dX12_image_52 rfl k) ?_
    refine Sx.o (fun _ _ _ k => op_iconst (1 : Int32) dX12_image_53 (by decide) k) ?_
    obtain ⟨h5, e_h5, hb6⟩ := ob2 hb4
    refine Sx.p (sZ_q e_h5) (fun _ _ _ k => op_zast dX12_image_54 e_h5 k) ?_
    refine Sx.o (fun _ _ _ k => ex_aload_n dX12_image_55 rfl rfl k) ?_
    refine Sx.o (fun _ _ _ k => op_iconst (0 : Int32) dX12_image_56 (by decide) k) ?_
    obtain ⟨r8, e_r8, hb9⟩ := ob2 hb6
    refine sx_callV (dc := 0) (as := [.int (0 : Int32)]) (stq := [.int r8.1]) (by omega) dX12_image_57 MX12_good kX12_14 iX12_good sX12_good rfl rfl (Ref_good_o e_r8) rfl rfl (Nat.le_of_ble_eq_true rfl) (Nat.le_of_ble_eq_true rfl) (Ref_good_s e_r8) rfl ?_
    obtain rfl := Option.some.inj hb9
    exact Sx.r (fun _ _ _ k => ex_iret rfl dX12_image_60 k)
  · have hb2 := iq q hb
    refine Sx.o (fun _ _ _ k => ex_aload_n dX12_image_24 rfl rfl k) ?_
    obtain ⟨x11, e_x11, hb12⟩ := ob2 hb2
    refine Sx.o (fun _ _ _ k => op_getR fX12_27 dX12_image_25 e_x11 k) ?_
    refine Sx.o (fun _ _ _ k => op_sipush (5725 : Int32) dX12_image_28 (by decide) k) ?_
    refine Sx.o (fun _ _ _ k => ex_iload_n dX12_image_31 rfl k) ?_
    refine Sx.o (fun _ _ _ k => ex_imul dX12_image_32 k) ?_
    refine Sx.o (fun _ _ _ k => ex_iload_n dX12_image_33 rfl k) ?_
    refine Sx.o (fun _ _ _ k => ex_iadd dX12_image_34 k) ?_
    refine Sx.o (fun _ _ _ k => ex_aload_n dX12_image_35 rfl rfl k) ?_
    obtain ⟨x13, e_x13, hb14⟩ := ob2 hb12
    refine Sx.o (fun _ _ _ k => op_getR fX12_24 dX12_image_36 e_x13 k) ?_
    refine Sx.o (fun _ _ _ k => ex_iload_n dX12_image_39 rfl k) ?_
    obtain ⟨x15, e_x15, hb16⟩ := ob2 hb14
    refine Sx.o (fun _ _ _ k => op_iald dX12_image_40 e_x15 k) ?_
    obtain ⟨h17, e_h17, hb18⟩ := ob2 hb16
    refine Sx.p (sI_q e_h17) (fun _ _ _ k => op_iast dX12_image_41 e_h17 k) ?_
    refine Sx.o (L' := [.ref v0, .int v1, .int (v2 + (1 : Int32))]) (fun _ _ _ k => op_iinc (1 : Int32) dX12_image_42 (by decide) rfl (by decide) k) ?_
    refine Sx.o (fun _ _ _ k => ex_goto 17 dX12_image_45 (by decide) k) ?_
    exact (hg _ _ hb18).1 rfl
theorem Ref_image_17_T : ∀ s r, fx Ref_image_17_F Ref_image_17_M s = some r → Ref_image_17_P s r := fx_ind Ref_image_17_M Ref_image_17_P (fun g hg s r hb => by
  unfold Ref_image_17_F at hb
  exact ⟨fun q => Ref_image_17_t hg (ip q hb), trivial⟩)
set_option maxHeartbeats 1000000 in
set_option maxRecDepth 100000 in
theorem Ref_image_17_r {g : (Nat × Int32 × Int32 × Nat × am_H) → Option (Int32 × am_H)} (hg : ∀ s r, g s = some r → Eqs s.2.2.2.2 r.2) {v0 : Nat} {v1 : Int32} {v2 : Int32} {h : am_H} {r : (Int32 × am_H)} (hb : Ref_image_17_b g v0 v1 v2 h = some r) : Eqs h r.2 := by
  unfold Ref_image_17_b at hb
  have w0 := Eqs.rf h
  by_cases q : (5725 : Int32) ≤ v2
  · have hb1 := ip q hb
    obtain ⟨x3, e_x3, hb4⟩ := ob2 hb1
    obtain ⟨h5, e_h5, hb6⟩ := ob2 hb4
    have w7 := w0.tr (sZ_q e_h5)
    obtain ⟨r8, e_r8, hb9⟩ := ob2 hb6
    have w10 := w7.tr (Ref_good_q e_r8)
    obtain rfl := Option.some.inj hb9
    exact w10
  · have hb2 := iq q hb
    obtain ⟨x11, e_x11, hb12⟩ := ob2 hb2
    obtain ⟨x13, e_x13, hb14⟩ := ob2 hb12
    obtain ⟨x15, e_x15, hb16⟩ := ob2 hb14
    obtain ⟨h17, e_h17, hb18⟩ := ob2 hb16
    have w19 := w0.tr (sI_q e_h17)
    exact w19.tr (hg _ _ hb18)
theorem Ref_image_17_Q : ∀ s r, fx Ref_image_17_F Ref_image_17_M s = some r → Eqs s.2.2.2.2 r.2 := fx_ind Ref_image_17_M (fun s r => Eqs s.2.2.2.2 r.2) (fun g hg s r hb => by
  unfold Ref_image_17_F at hb
  by_cases q0 : s.1 = 17
  · exact Ref_image_17_r hg (ip q0 hb)
  · have hb0 := iq q0 hb
    exact nomatch hb0)
noncomputable def Ref_image_17 (v0 : Nat) (v1 : Int32) (v2 : Int32) (h : am_H) : Option (Int32 × am_H) := fx Ref_image_17_F Ref_image_17_M (17, v1, v2, v0, h)
set_option maxHeartbeats 1000000 in
set_option maxRecDepth 100000 in
theorem Ref_image_17_e (v0 : Nat) (v1 : Int32) (v2 : Int32) (h : am_H) : Ref_image_17 v0 v1 v2 h = (if (5725 : Int32) ≤ v2 then (gR h 12 v0 4).bind fun x3 => (sZ h x3 v1 (1 : Int32)).bind fun h5 => (Ref_good v0 (0 : Int32) h5).bind fun r8 => some (r8.1, r8.2) else (gR h 12 v0 3).bind fun x11 => (gR h 12 v0 2).bind fun x13 => (aI h 0 x13 v2).bind fun x15 => (sI h x11 (((5725 : Int32) * v1) + v2) x15).bind fun h17 => Ref_image_17 v0 v1 (v2 + (1 : Int32)) h17) := (fx_eq Ref_image_17_M (17, v1, v2, v0, h)).trans (if_pos rfl)
theorem Ref_image_17_q {v0 : Nat} {v1 : Int32} {v2 : Int32} {h : am_H} {r : (Int32 × am_H)} (hb : Ref_image_17 v0 v1 v2 h = some r) : Eqs h r.2 := Ref_image_17_Q _ _ hb
theorem Ref_image_17_s {v0 : Nat} {v1 : Int32} {v2 : Int32} {h : am_H} {r : (Int32 × am_H)} (hb : Ref_image_17 v0 v1 v2 h = some r) : Sx 1 mX12_image 17 [.ref v0, .int v1, .int v2] [] h (some (.int r.1)) r.2 := (Ref_image_17_T _ _ hb).1 rfl
set_option maxHeartbeats 1000000 in
set_option maxRecDepth 100000 in
noncomputable def Ref_image (v0 : Nat) (v1 : Int32) (h : am_H) : Option (Int32 × am_H) := if isO h 12 v0 = true then (Ref_lies v1 (0 : Int32) (1 : Int32) h).bind fun x20 => if x20 = (0 : Int32) then (Ref_refuses v0 (-1 : Int32) h).bind fun r24 => some (r24.1, r24.2) else Ref_image_17 v0 v1 (0 : Int32) h else none
set_option maxHeartbeats 1000000 in
set_option maxRecDepth 100000 in
theorem Ref_image_s {v0 : Nat} {v1 : Int32} {h : am_H} {r : (Int32 × am_H)} (hb : Ref_image v0 v1 h = some r) : Sx 1 mX12_image 0 (am_en [.ref v0, .int v1] 3) [] h (some (.int r.1)) r.2 := by
  unfold Ref_image at hb
  have hb := (iz hb).2
  show Sx 1 mX12_image 0 [.ref v0, .int v1, .retAddr 0] [] h (some (.int r.1)) r.2
  refine Sx.o (fun _ _ _ k => ex_iload_n dX12_image_0 rfl k) ?_
  refine Sx.o (fun _ _ _ k => op_iconst (0 : Int32) dX12_image_1 (by decide) k) ?_
  refine Sx.o (fun _ _ _ k => op_iconst (1 : Int32) dX12_image_2 (by decide) k) ?_
  obtain ⟨x20, e_x20, hb21⟩ := ob2 hb
  refine sx_callS (dc := 0) (as := [.int v1, .int (0 : Int32), .int (1 : Int32)]) (stq := [.int x20]) (by omega) dX12_image_3 MX12_lies kX12_102 tX12_lies rfl rfl (Nat.le_of_ble_eq_true rfl) (Nat.le_of_ble_eq_true rfl) (Ref_lies_s e_x20) rfl ?_
  refine Sx.bn (fun _ _ _ k1 k2 => ex_if_ne 15 dX12_image_6 (by decide) k1 k2) (fun q => ?_) (fun q => ?_)
  · have hb22 := iq q hb21
    refine Sx.o (fun _ _ _ k => op_iconst (0 : Int32) dX12_image_15 (by decide) k) ?_
    refine Sx.o (L' := [.ref v0, .int v1, .int (0 : Int32)]) (fun _ _ _ k => ex_istore_n dX12_image_16 (by decide) k) ?_
    exact Ref_image_17_s hb22
  · have hb23 := ip q hb21
    refine Sx.o (fun _ _ _ k => ex_aload_n dX12_image_9 rfl rfl k) ?_
    refine Sx.o (fun _ _ _ k => op_iconst (-1 : Int32) dX12_image_10 (by decide) k) ?_
    obtain ⟨r24, e_r24, hb25⟩ := ob2 hb23
    refine sx_callV (dc := 0) (as := [.int (-1 : Int32)]) (stq := [.int r24.1]) (by omega) dX12_image_11 MX12_refuses kX12_106 iX12_refuses sX12_refuses rfl rfl (Ref_refuses_o e_r24) rfl rfl (Nat.le_of_ble_eq_true rfl) (Nat.le_of_ble_eq_true rfl) (Ref_refuses_s e_r24) rfl ?_
    obtain rfl := Option.some.inj hb25
    exact Sx.r (fun _ _ _ k => ex_iret rfl dX12_image_14 k)
set_option maxHeartbeats 1000000 in
set_option maxRecDepth 100000 in
theorem Ref_image_q {v0 : Nat} {v1 : Int32} {h : am_H} {r : (Int32 × am_H)} (hb : Ref_image v0 v1 h = some r) : Eqs h r.2 := by
  unfold Ref_image at hb
  have hb := (iz hb).2
  have w0 := Eqs.rf h
  obtain ⟨x20, e_x20, hb21⟩ := ob2 hb
  by_cases q : x20 = (0 : Int32)
  · have hb23 := ip q hb21
    obtain ⟨r24, e_r24, hb25⟩ := ob2 hb23
    have w26 := w0.tr (Ref_refuses_q e_r24)
    obtain rfl := Option.some.inj hb25
    exact w26
  · have hb22 := iq q hb21
    exact w0.tr (Ref_image_17_q hb22)
theorem Ref_image_o {v0 : Nat} {v1 : Int32} {h : am_H} {r : (Int32 × am_H)} (hb : Ref_image v0 v1 h = some r) : isO h 12 v0 = true := by
  unfold Ref_image at hb
  exact (iz hb).1
theorem dX12_init_0 : decode cX12_init 0 = .ok (.aload_n 0, 1) := by decide +kernel
theorem dX12_init_1 : decode cX12_init 1 = .ok (.invokespecial 18, 3) := by decide +kernel
theorem dX12_init_4 : decode cX12_init 4 = .ok (.aload_n 0, 1) := by decide +kernel
theorem dX12_init_5 : decode cX12_init 5 = .ok (.bipush 7, 2) := by decide +kernel
theorem dX12_init_7 : decode cX12_init 7 = .ok (.newarray .int, 2) := by decide +kernel
theorem dX12_init_9 : decode cX12_init 9 = .ok (.putfield 7, 3) := by decide +kernel
theorem dX12_init_12 : decode cX12_init 12 = .ok (.aload_n 0, 1) := by decide +kernel
theorem dX12_init_13 : decode cX12_init 13 = .ok (.sipush 5725, 3) := by decide +kernel
theorem dX12_init_16 : decode cX12_init 16 = .ok (.newarray .int, 2) := by decide +kernel
theorem dX12_init_18 : decode cX12_init 18 = .ok (.putfield 24, 3) := by decide +kernel
theorem dX12_init_21 : decode cX12_init 21 = .ok (.aload_n 0, 1) := by decide +kernel
theorem dX12_init_22 : decode cX12_init 22 = .ok (.sipush 11450, 3) := by decide +kernel
theorem dX12_init_25 : decode cX12_init 25 = .ok (.newarray .int, 2) := by decide +kernel
theorem dX12_init_27 : decode cX12_init 27 = .ok (.putfield 27, 3) := by decide +kernel
theorem dX12_init_30 : decode cX12_init 30 = .ok (.aload_n 0, 1) := by decide +kernel
theorem dX12_init_31 : decode cX12_init 31 = .ok (.iconst 2, 1) := by decide +kernel
theorem dX12_init_32 : decode cX12_init 32 = .ok (.newarray .boolean, 2) := by decide +kernel
theorem dX12_init_34 : decode cX12_init 34 = .ok (.putfield 30, 3) := by decide +kernel
theorem dX12_init_37 : decode cX12_init 37 = .ok (.aload_n 0, 1) := by decide +kernel
theorem dX12_init_38 : decode cX12_init 38 = .ok (.bipush 97, 2) := by decide +kernel
theorem dX12_init_40 : decode cX12_init 40 = .ok (.newarray .int, 2) := by decide +kernel
theorem dX12_init_42 : decode cX12_init 42 = .ok (.putfield 34, 3) := by decide +kernel
theorem dX12_init_45 : decode cX12_init 45 = .ok (.aload_n 0, 1) := by decide +kernel
theorem dX12_init_46 : decode cX12_init 46 = .ok (.bipush 126, 2) := by decide +kernel
theorem dX12_init_48 : decode cX12_init 48 = .ok (.newarray .byte, 2) := by decide +kernel
theorem dX12_init_50 : decode cX12_init 50 = .ok (.dup, 1) := by decide +kernel
theorem dX12_init_51 : decode cX12_init 51 = .ok (.iconst 0, 1) := by decide +kernel
theorem dX12_init_52 : decode cX12_init 52 = .ok (.bipush 116, 2) := by decide +kernel
theorem dX12_init_54 : decode cX12_init 54 = .ok (.bastore, 1) := by decide +kernel
theorem dX12_init_55 : decode cX12_init 55 = .ok (.dup, 1) := by decide +kernel
theorem dX12_init_56 : decode cX12_init 56 = .ok (.iconst 1, 1) := by decide +kernel
theorem dX12_init_57 : decode cX12_init 57 = .ok (.bipush 117, 2) := by decide +kernel
theorem dX12_init_59 : decode cX12_init 59 = .ok (.bastore, 1) := by decide +kernel
theorem dX12_init_60 : decode cX12_init 60 = .ok (.dup, 1) := by decide +kernel
theorem dX12_init_61 : decode cX12_init 61 = .ok (.iconst 2, 1) := by decide +kernel
theorem dX12_init_62 : decode cX12_init 62 = .ok (.bipush 114, 2) := by decide +kernel
theorem dX12_init_64 : decode cX12_init 64 = .ok (.bastore, 1) := by decide +kernel
theorem dX12_init_65 : decode cX12_init 65 = .ok (.dup, 1) := by decide +kernel
theorem dX12_init_66 : decode cX12_init 66 = .ok (.iconst 3, 1) := by decide +kernel
theorem dX12_init_67 : decode cX12_init 67 = .ok (.bipush 110, 2) := by decide +kernel
theorem dX12_init_69 : decode cX12_init 69 = .ok (.bastore, 1) := by decide +kernel
theorem dX12_init_70 : decode cX12_init 70 = .ok (.dup, 1) := by decide +kernel
theorem dX12_init_71 : decode cX12_init 71 = .ok (.iconst 4, 1) := by decide +kernel
theorem dX12_init_72 : decode cX12_init 72 = .ok (.bipush 115, 2) := by decide +kernel
theorem dX12_init_74 : decode cX12_init 74 = .ok (.bastore, 1) := by decide +kernel
theorem dX12_init_75 : decode cX12_init 75 = .ok (.dup, 1) := by decide +kernel
theorem dX12_init_76 : decode cX12_init 76 = .ok (.iconst 5, 1) := by decide +kernel
theorem dX12_init_77 : decode cX12_init 77 = .ok (.bipush 32, 2) := by decide +kernel
theorem dX12_init_79 : decode cX12_init 79 = .ok (.bastore, 1) := by decide +kernel
theorem dX12_init_80 : decode cX12_init 80 = .ok (.dup, 1) := by decide +kernel
theorem dX12_init_81 : decode cX12_init 81 = .ok (.bipush 6, 2) := by decide +kernel
theorem dX12_init_83 : decode cX12_init 83 = .ok (.bipush 115, 2) := by decide +kernel
theorem dX12_init_85 : decode cX12_init 85 = .ok (.bastore, 1) := by decide +kernel
theorem dX12_init_86 : decode cX12_init 86 = .ok (.dup, 1) := by decide +kernel
theorem dX12_init_87 : decode cX12_init 87 = .ok (.bipush 7, 2) := by decide +kernel
theorem dX12_init_89 : decode cX12_init 89 = .ok (.bipush 105, 2) := by decide +kernel
theorem dX12_init_91 : decode cX12_init 91 = .ok (.bastore, 1) := by decide +kernel
theorem dX12_init_92 : decode cX12_init 92 = .ok (.dup, 1) := by decide +kernel
theorem dX12_init_93 : decode cX12_init 93 = .ok (.bipush 8, 2) := by decide +kernel
theorem dX12_init_95 : decode cX12_init 95 = .ok (.bipush 110, 2) := by decide +kernel
theorem dX12_init_97 : decode cX12_init 97 = .ok (.bastore, 1) := by decide +kernel
theorem dX12_init_98 : decode cX12_init 98 = .ok (.dup, 1) := by decide +kernel
theorem dX12_init_99 : decode cX12_init 99 = .ok (.bipush 9, 2) := by decide +kernel
theorem dX12_init_101 : decode cX12_init 101 = .ok (.bipush 107, 2) := by decide +kernel
theorem dX12_init_103 : decode cX12_init 103 = .ok (.bastore, 1) := by decide +kernel
theorem dX12_init_104 : decode cX12_init 104 = .ok (.dup, 1) := by decide +kernel
theorem dX12_init_105 : decode cX12_init 105 = .ok (.bipush 10, 2) := by decide +kernel
theorem dX12_init_107 : decode cX12_init 107 = .ok (.bipush 115, 2) := by decide +kernel
theorem dX12_init_109 : decode cX12_init 109 = .ok (.bastore, 1) := by decide +kernel
theorem dX12_init_110 : decode cX12_init 110 = .ok (.dup, 1) := by decide +kernel
theorem dX12_init_111 : decode cX12_init 111 = .ok (.bipush 11, 2) := by decide +kernel
theorem dX12_init_113 : decode cX12_init 113 = .ok (.bipush 32, 2) := by decide +kernel
theorem dX12_init_115 : decode cX12_init 115 = .ok (.bastore, 1) := by decide +kernel
theorem dX12_init_116 : decode cX12_init 116 = .ok (.dup, 1) := by decide +kernel
theorem dX12_init_117 : decode cX12_init 117 = .ok (.bipush 12, 2) := by decide +kernel
theorem dX12_init_119 : decode cX12_init 119 = .ok (.bipush 101, 2) := by decide +kernel
theorem dX12_init_121 : decode cX12_init 121 = .ok (.bastore, 1) := by decide +kernel
theorem dX12_init_122 : decode cX12_init 122 = .ok (.dup, 1) := by decide +kernel
theorem dX12_init_123 : decode cX12_init 123 = .ok (.bipush 13, 2) := by decide +kernel
theorem dX12_init_125 : decode cX12_init 125 = .ok (.bipush 110, 2) := by decide +kernel
theorem dX12_init_127 : decode cX12_init 127 = .ok (.bastore, 1) := by decide +kernel
theorem dX12_init_128 : decode cX12_init 128 = .ok (.dup, 1) := by decide +kernel
theorem dX12_init_129 : decode cX12_init 129 = .ok (.bipush 14, 2) := by decide +kernel
theorem dX12_init_131 : decode cX12_init 131 = .ok (.bipush 100, 2) := by decide +kernel
theorem dX12_init_133 : decode cX12_init 133 = .ok (.bastore, 1) := by decide +kernel
theorem dX12_init_134 : decode cX12_init 134 = .ok (.dup, 1) := by decide +kernel
theorem dX12_init_135 : decode cX12_init 135 = .ok (.bipush 15, 2) := by decide +kernel
theorem dX12_init_137 : decode cX12_init 137 = .ok (.bipush 115, 2) := by decide +kernel
theorem dX12_init_139 : decode cX12_init 139 = .ok (.bastore, 1) := by decide +kernel
theorem dX12_init_140 : decode cX12_init 140 = .ok (.dup, 1) := by decide +kernel
theorem dX12_init_141 : decode cX12_init 141 = .ok (.bipush 16, 2) := by decide +kernel
theorem dX12_init_143 : decode cX12_init 143 = .ok (.bipush 32, 2) := by decide +kernel
theorem dX12_init_145 : decode cX12_init 145 = .ok (.bastore, 1) := by decide +kernel
theorem dX12_init_146 : decode cX12_init 146 = .ok (.dup, 1) := by decide +kernel
theorem dX12_init_147 : decode cX12_init 147 = .ok (.bipush 17, 2) := by decide +kernel
theorem dX12_init_149 : decode cX12_init 149 = .ok (.bipush 105, 2) := by decide +kernel
theorem dX12_init_151 : decode cX12_init 151 = .ok (.bastore, 1) := by decide +kernel
theorem dX12_init_152 : decode cX12_init 152 = .ok (.dup, 1) := by decide +kernel
theorem dX12_init_153 : decode cX12_init 153 = .ok (.bipush 18, 2) := by decide +kernel
theorem dX12_init_155 : decode cX12_init 155 = .ok (.bipush 102, 2) := by decide +kernel
theorem dX12_init_157 : decode cX12_init 157 = .ok (.bastore, 1) := by decide +kernel
theorem dX12_init_158 : decode cX12_init 158 = .ok (.dup, 1) := by decide +kernel
theorem dX12_init_159 : decode cX12_init 159 = .ok (.bipush 19, 2) := by decide +kernel
theorem dX12_init_161 : decode cX12_init 161 = .ok (.bipush 32, 2) := by decide +kernel
theorem dX12_init_163 : decode cX12_init 163 = .ok (.bastore, 1) := by decide +kernel
theorem dX12_init_164 : decode cX12_init 164 = .ok (.dup, 1) := by decide +kernel
theorem dX12_init_165 : decode cX12_init 165 = .ok (.bipush 20, 2) := by decide +kernel
theorem dX12_init_167 : decode cX12_init 167 = .ok (.bipush 111, 2) := by decide +kernel
theorem dX12_init_169 : decode cX12_init 169 = .ok (.bastore, 1) := by decide +kernel
theorem dX12_init_170 : decode cX12_init 170 = .ok (.dup, 1) := by decide +kernel
theorem dX12_init_171 : decode cX12_init 171 = .ok (.bipush 21, 2) := by decide +kernel
theorem dX12_init_173 : decode cX12_init 173 = .ok (.bipush 114, 2) := by decide +kernel
theorem dX12_init_175 : decode cX12_init 175 = .ok (.bastore, 1) := by decide +kernel
theorem dX12_init_176 : decode cX12_init 176 = .ok (.dup, 1) := by decide +kernel
theorem dX12_init_177 : decode cX12_init 177 = .ok (.bipush 22, 2) := by decide +kernel
theorem dX12_init_179 : decode cX12_init 179 = .ok (.bipush 32, 2) := by decide +kernel
theorem dX12_init_181 : decode cX12_init 181 = .ok (.bastore, 1) := by decide +kernel
theorem dX12_init_182 : decode cX12_init 182 = .ok (.dup, 1) := by decide +kernel
theorem dX12_init_183 : decode cX12_init 183 = .ok (.bipush 23, 2) := by decide +kernel
theorem dX12_init_185 : decode cX12_init 185 = .ok (.bipush 97, 2) := by decide +kernel
theorem dX12_init_187 : decode cX12_init 187 = .ok (.bastore, 1) := by decide +kernel
theorem dX12_init_188 : decode cX12_init 188 = .ok (.dup, 1) := by decide +kernel
theorem dX12_init_189 : decode cX12_init 189 = .ok (.bipush 24, 2) := by decide +kernel
theorem dX12_init_191 : decode cX12_init 191 = .ok (.bipush 110, 2) := by decide +kernel
theorem dX12_init_193 : decode cX12_init 193 = .ok (.bastore, 1) := by decide +kernel
theorem dX12_init_194 : decode cX12_init 194 = .ok (.dup, 1) := by decide +kernel
theorem dX12_init_195 : decode cX12_init 195 = .ok (.bipush 25, 2) := by decide +kernel
theorem dX12_init_197 : decode cX12_init 197 = .ok (.bipush 100, 2) := by decide +kernel
theorem dX12_init_199 : decode cX12_init 199 = .ok (.bastore, 1) := by decide +kernel
theorem dX12_init_200 : decode cX12_init 200 = .ok (.dup, 1) := by decide +kernel
theorem dX12_init_201 : decode cX12_init 201 = .ok (.bipush 26, 2) := by decide +kernel
theorem dX12_init_203 : decode cX12_init 203 = .ok (.bipush 32, 2) := by decide +kernel
theorem dX12_init_205 : decode cX12_init 205 = .ok (.bastore, 1) := by decide +kernel
theorem dX12_init_206 : decode cX12_init 206 = .ok (.dup, 1) := by decide +kernel
theorem dX12_init_207 : decode cX12_init 207 = .ok (.bipush 27, 2) := by decide +kernel
theorem dX12_init_209 : decode cX12_init 209 = .ok (.bipush 110, 2) := by decide +kernel
theorem dX12_init_211 : decode cX12_init 211 = .ok (.bastore, 1) := by decide +kernel
theorem dX12_init_212 : decode cX12_init 212 = .ok (.dup, 1) := by decide +kernel
theorem dX12_init_213 : decode cX12_init 213 = .ok (.bipush 28, 2) := by decide +kernel
theorem dX12_init_215 : decode cX12_init 215 = .ok (.bipush 111, 2) := by decide +kernel
theorem dX12_init_217 : decode cX12_init 217 = .ok (.bastore, 1) := by decide +kernel
theorem dX12_init_218 : decode cX12_init 218 = .ok (.dup, 1) := by decide +kernel
theorem dX12_init_219 : decode cX12_init 219 = .ok (.bipush 29, 2) := by decide +kernel
theorem dX12_init_221 : decode cX12_init 221 = .ok (.bipush 116, 2) := by decide +kernel
theorem dX12_init_223 : decode cX12_init 223 = .ok (.bastore, 1) := by decide +kernel
theorem dX12_init_224 : decode cX12_init 224 = .ok (.dup, 1) := by decide +kernel
theorem dX12_init_225 : decode cX12_init 225 = .ok (.bipush 30, 2) := by decide +kernel
theorem dX12_init_227 : decode cX12_init 227 = .ok (.bipush 32, 2) := by decide +kernel
theorem dX12_init_229 : decode cX12_init 229 = .ok (.bastore, 1) := by decide +kernel
theorem dX12_init_230 : decode cX12_init 230 = .ok (.dup, 1) := by decide +kernel
theorem dX12_init_231 : decode cX12_init 231 = .ok (.bipush 31, 2) := by decide +kernel
theorem dX12_init_233 : decode cX12_init 233 = .ok (.bipush 115, 2) := by decide +kernel
theorem dX12_init_235 : decode cX12_init 235 = .ok (.bastore, 1) := by decide +kernel
theorem dX12_init_236 : decode cX12_init 236 = .ok (.dup, 1) := by decide +kernel
theorem dX12_init_237 : decode cX12_init 237 = .ok (.bipush 32, 2) := by decide +kernel
theorem dX12_init_239 : decode cX12_init 239 = .ok (.bipush 101, 2) := by decide +kernel
theorem dX12_init_241 : decode cX12_init 241 = .ok (.bastore, 1) := by decide +kernel
theorem dX12_init_242 : decode cX12_init 242 = .ok (.dup, 1) := by decide +kernel
theorem dX12_init_243 : decode cX12_init 243 = .ok (.bipush 33, 2) := by decide +kernel
theorem dX12_init_245 : decode cX12_init 245 = .ok (.bipush 99, 2) := by decide +kernel
theorem dX12_init_247 : decode cX12_init 247 = .ok (.bastore, 1) := by decide +kernel
theorem dX12_init_248 : decode cX12_init 248 = .ok (.dup, 1) := by decide +kernel
theorem dX12_init_249 : decode cX12_init 249 = .ok (.bipush 34, 2) := by decide +kernel
theorem dX12_init_251 : decode cX12_init 251 = .ok (.bipush 111, 2) := by decide +kernel
theorem dX12_init_253 : decode cX12_init 253 = .ok (.bastore, 1) := by decide +kernel
theorem dX12_init_254 : decode cX12_init 254 = .ok (.dup, 1) := by decide +kernel
theorem dX12_init_255 : decode cX12_init 255 = .ok (.bipush 35, 2) := by decide +kernel
theorem dX12_init_257 : decode cX12_init 257 = .ok (.bipush 110, 2) := by decide +kernel
theorem dX12_init_259 : decode cX12_init 259 = .ok (.bastore, 1) := by decide +kernel
theorem dX12_init_260 : decode cX12_init 260 = .ok (.dup, 1) := by decide +kernel
theorem dX12_init_261 : decode cX12_init 261 = .ok (.bipush 36, 2) := by decide +kernel
theorem dX12_init_263 : decode cX12_init 263 = .ok (.bipush 100, 2) := by decide +kernel
theorem dX12_init_265 : decode cX12_init 265 = .ok (.bastore, 1) := by decide +kernel
theorem dX12_init_266 : decode cX12_init 266 = .ok (.dup, 1) := by decide +kernel
theorem dX12_init_267 : decode cX12_init 267 = .ok (.bipush 37, 2) := by decide +kernel
theorem dX12_init_269 : decode cX12_init 269 = .ok (.bipush 32, 2) := by decide +kernel
theorem dX12_init_271 : decode cX12_init 271 = .ok (.bastore, 1) := by decide +kernel
theorem dX12_init_272 : decode cX12_init 272 = .ok (.dup, 1) := by decide +kernel
theorem dX12_init_273 : decode cX12_init 273 = .ok (.bipush 38, 2) := by decide +kernel
theorem dX12_init_275 : decode cX12_init 275 = .ok (.bipush 116, 2) := by decide +kernel
theorem dX12_init_277 : decode cX12_init 277 = .ok (.bastore, 1) := by decide +kernel
theorem dX12_init_278 : decode cX12_init 278 = .ok (.dup, 1) := by decide +kernel
theorem dX12_init_279 : decode cX12_init 279 = .ok (.bipush 39, 2) := by decide +kernel
theorem dX12_init_281 : decode cX12_init 281 = .ok (.bipush 104, 2) := by decide +kernel
theorem dX12_init_283 : decode cX12_init 283 = .ok (.bastore, 1) := by decide +kernel
theorem dX12_init_284 : decode cX12_init 284 = .ok (.dup, 1) := by decide +kernel
theorem dX12_init_285 : decode cX12_init 285 = .ok (.bipush 40, 2) := by decide +kernel
theorem dX12_init_287 : decode cX12_init 287 = .ok (.bipush 105, 2) := by decide +kernel
theorem dX12_init_289 : decode cX12_init 289 = .ok (.bastore, 1) := by decide +kernel
theorem dX12_init_290 : decode cX12_init 290 = .ok (.dup, 1) := by decide +kernel
theorem dX12_init_291 : decode cX12_init 291 = .ok (.bipush 41, 2) := by decide +kernel
theorem dX12_init_293 : decode cX12_init 293 = .ok (.bipush 114, 2) := by decide +kernel
theorem dX12_init_295 : decode cX12_init 295 = .ok (.bastore, 1) := by decide +kernel
theorem dX12_init_296 : decode cX12_init 296 = .ok (.dup, 1) := by decide +kernel
theorem dX12_init_297 : decode cX12_init 297 = .ok (.bipush 42, 2) := by decide +kernel
theorem dX12_init_299 : decode cX12_init 299 = .ok (.bipush 100, 2) := by decide +kernel
theorem dX12_init_301 : decode cX12_init 301 = .ok (.bastore, 1) := by decide +kernel
theorem dX12_init_302 : decode cX12_init 302 = .ok (.dup, 1) := by decide +kernel
theorem dX12_init_303 : decode cX12_init 303 = .ok (.bipush 43, 2) := by decide +kernel
theorem dX12_init_305 : decode cX12_init 305 = .ok (.bipush 32, 2) := by decide +kernel
theorem dX12_init_307 : decode cX12_init 307 = .ok (.bastore, 1) := by decide +kernel
theorem dX12_init_308 : decode cX12_init 308 = .ok (.dup, 1) := by decide +kernel
theorem dX12_init_309 : decode cX12_init 309 = .ok (.bipush 44, 2) := by decide +kernel
theorem dX12_init_311 : decode cX12_init 311 = .ok (.bipush 117, 2) := by decide +kernel
theorem dX12_init_313 : decode cX12_init 313 = .ok (.bastore, 1) := by decide +kernel
theorem dX12_init_314 : decode cX12_init 314 = .ok (.dup, 1) := by decide +kernel
theorem dX12_init_315 : decode cX12_init 315 = .ok (.bipush 45, 2) := by decide +kernel
theorem dX12_init_317 : decode cX12_init 317 = .ok (.bipush 110, 2) := by decide +kernel
theorem dX12_init_319 : decode cX12_init 319 = .ok (.bastore, 1) := by decide +kernel
theorem dX12_init_320 : decode cX12_init 320 = .ok (.dup, 1) := by decide +kernel
theorem dX12_init_321 : decode cX12_init 321 = .ok (.bipush 46, 2) := by decide +kernel
theorem dX12_init_323 : decode cX12_init 323 = .ok (.bipush 100, 2) := by decide +kernel
theorem dX12_init_325 : decode cX12_init 325 = .ok (.bastore, 1) := by decide +kernel
theorem dX12_init_326 : decode cX12_init 326 = .ok (.dup, 1) := by decide +kernel
theorem dX12_init_327 : decode cX12_init 327 = .ok (.bipush 47, 2) := by decide +kernel
theorem dX12_init_329 : decode cX12_init 329 = .ok (.bipush 101, 2) := by decide +kernel
theorem dX12_init_331 : decode cX12_init 331 = .ok (.bastore, 1) := by decide +kernel
theorem dX12_init_332 : decode cX12_init 332 = .ok (.dup, 1) := by decide +kernel
theorem dX12_init_333 : decode cX12_init 333 = .ok (.bipush 48, 2) := by decide +kernel
theorem dX12_init_335 : decode cX12_init 335 = .ok (.bipush 114, 2) := by decide +kernel
theorem dX12_init_337 : decode cX12_init 337 = .ok (.bastore, 1) := by decide +kernel
theorem dX12_init_338 : decode cX12_init 338 = .ok (.dup, 1) := by decide +kernel
theorem dX12_init_339 : decode cX12_init 339 = .ok (.bipush 49, 2) := by decide +kernel
theorem dX12_init_341 : decode cX12_init 341 = .ok (.bipush 32, 2) := by decide +kernel
theorem dX12_init_343 : decode cX12_init 343 = .ok (.bastore, 1) := by decide +kernel
theorem dX12_init_344 : decode cX12_init 344 = .ok (.dup, 1) := by decide +kernel
theorem dX12_init_345 : decode cX12_init 345 = .ok (.bipush 50, 2) := by decide +kernel
theorem dX12_init_347 : decode cX12_init 347 = .ok (.bipush 108, 2) := by decide +kernel
theorem dX12_init_349 : decode cX12_init 349 = .ok (.bastore, 1) := by decide +kernel
theorem dX12_init_350 : decode cX12_init 350 = .ok (.dup, 1) := by decide +kernel
theorem dX12_init_351 : decode cX12_init 351 = .ok (.bipush 51, 2) := by decide +kernel
theorem dX12_init_353 : decode cX12_init 353 = .ok (.bipush 97, 2) := by decide +kernel
theorem dX12_init_355 : decode cX12_init 355 = .ok (.bastore, 1) := by decide +kernel
theorem dX12_init_356 : decode cX12_init 356 = .ok (.dup, 1) := by decide +kernel
theorem dX12_init_357 : decode cX12_init 357 = .ok (.bipush 52, 2) := by decide +kernel
theorem dX12_init_359 : decode cX12_init 359 = .ok (.bipush 115, 2) := by decide +kernel
theorem dX12_init_361 : decode cX12_init 361 = .ok (.bastore, 1) := by decide +kernel
theorem dX12_init_362 : decode cX12_init 362 = .ok (.dup, 1) := by decide +kernel
theorem dX12_init_363 : decode cX12_init 363 = .ok (.bipush 53, 2) := by decide +kernel
theorem dX12_init_365 : decode cX12_init 365 = .ok (.bipush 116, 2) := by decide +kernel
theorem dX12_init_367 : decode cX12_init 367 = .ok (.bastore, 1) := by decide +kernel
theorem dX12_init_368 : decode cX12_init 368 = .ok (.dup, 1) := by decide +kernel
theorem dX12_init_369 : decode cX12_init 369 = .ok (.bipush 54, 2) := by decide +kernel
theorem dX12_init_371 : decode cX12_init 371 = .ok (.bipush 32, 2) := by decide +kernel
theorem dX12_init_373 : decode cX12_init 373 = .ok (.bastore, 1) := by decide +kernel
theorem dX12_init_374 : decode cX12_init 374 = .ok (.dup, 1) := by decide +kernel
theorem dX12_init_375 : decode cX12_init 375 = .ok (.bipush 55, 2) := by decide +kernel
theorem dX12_init_377 : decode cX12_init 377 = .ok (.bipush 104, 2) := by decide +kernel
theorem dX12_init_379 : decode cX12_init 379 = .ok (.bastore, 1) := by decide +kernel
theorem dX12_init_380 : decode cX12_init 380 = .ok (.dup, 1) := by decide +kernel
theorem dX12_init_381 : decode cX12_init 381 = .ok (.bipush 56, 2) := by decide +kernel
theorem dX12_init_383 : decode cX12_init 383 = .ok (.bipush 101, 2) := by decide +kernel
theorem dX12_init_385 : decode cX12_init 385 = .ok (.bastore, 1) := by decide +kernel
theorem dX12_init_386 : decode cX12_init 386 = .ok (.dup, 1) := by decide +kernel
theorem dX12_init_387 : decode cX12_init 387 = .ok (.bipush 57, 2) := by decide +kernel
theorem dX12_init_389 : decode cX12_init 389 = .ok (.bipush 97, 2) := by decide +kernel
theorem dX12_init_391 : decode cX12_init 391 = .ok (.bastore, 1) := by decide +kernel
theorem dX12_init_392 : decode cX12_init 392 = .ok (.dup, 1) := by decide +kernel
theorem dX12_init_393 : decode cX12_init 393 = .ok (.bipush 58, 2) := by decide +kernel
theorem dX12_init_395 : decode cX12_init 395 = .ok (.bipush 112, 2) := by decide +kernel
theorem dX12_init_397 : decode cX12_init 397 = .ok (.bastore, 1) := by decide +kernel
theorem dX12_init_398 : decode cX12_init 398 = .ok (.dup, 1) := by decide +kernel
theorem dX12_init_399 : decode cX12_init 399 = .ok (.bipush 59, 2) := by decide +kernel
theorem dX12_init_401 : decode cX12_init 401 = .ok (.bipush 32, 2) := by decide +kernel
theorem dX12_init_403 : decode cX12_init 403 = .ok (.bastore, 1) := by decide +kernel
theorem dX12_init_404 : decode cX12_init 404 = .ok (.dup, 1) := by decide +kernel
theorem dX12_init_405 : decode cX12_init 405 = .ok (.bipush 60, 2) := by decide +kernel
theorem dX12_init_407 : decode cX12_init 407 = .ok (.bipush 109, 2) := by decide +kernel
theorem dX12_init_409 : decode cX12_init 409 = .ok (.bastore, 1) := by decide +kernel
theorem dX12_init_410 : decode cX12_init 410 = .ok (.dup, 1) := by decide +kernel
theorem dX12_init_411 : decode cX12_init 411 = .ok (.bipush 61, 2) := by decide +kernel
theorem dX12_init_413 : decode cX12_init 413 = .ok (.bipush 111, 2) := by decide +kernel
theorem dX12_init_415 : decode cX12_init 415 = .ok (.bastore, 1) := by decide +kernel
theorem dX12_init_416 : decode cX12_init 416 = .ok (.dup, 1) := by decide +kernel
theorem dX12_init_417 : decode cX12_init 417 = .ok (.bipush 62, 2) := by decide +kernel
theorem dX12_init_419 : decode cX12_init 419 = .ok (.bipush 111, 2) := by decide +kernel
theorem dX12_init_421 : decode cX12_init 421 = .ok (.bastore, 1) := by decide +kernel
theorem dX12_init_422 : decode cX12_init 422 = .ok (.dup, 1) := by decide +kernel
theorem dX12_init_423 : decode cX12_init 423 = .ok (.bipush 63, 2) := by decide +kernel
theorem dX12_init_425 : decode cX12_init 425 = .ok (.bipush 100, 2) := by decide +kernel
theorem dX12_init_427 : decode cX12_init 427 = .ok (.bastore, 1) := by decide +kernel
theorem dX12_init_428 : decode cX12_init 428 = .ok (.dup, 1) := by decide +kernel
theorem dX12_init_429 : decode cX12_init 429 = .ok (.bipush 64, 2) := by decide +kernel
theorem dX12_init_431 : decode cX12_init 431 = .ok (.bipush 32, 2) := by decide +kernel
theorem dX12_init_433 : decode cX12_init 433 = .ok (.bastore, 1) := by decide +kernel
theorem dX12_init_434 : decode cX12_init 434 = .ok (.dup, 1) := by decide +kernel
theorem dX12_init_435 : decode cX12_init 435 = .ok (.bipush 65, 2) := by decide +kernel
theorem dX12_init_437 : decode cX12_init 437 = .ok (.bipush 116, 2) := by decide +kernel
theorem dX12_init_439 : decode cX12_init 439 = .ok (.bastore, 1) := by decide +kernel
theorem dX12_init_440 : decode cX12_init 440 = .ok (.dup, 1) := by decide +kernel
theorem dX12_init_441 : decode cX12_init 441 = .ok (.bipush 66, 2) := by decide +kernel
theorem dX12_init_443 : decode cX12_init 443 = .ok (.bipush 111, 2) := by decide +kernel
theorem dX12_init_445 : decode cX12_init 445 = .ok (.bastore, 1) := by decide +kernel
theorem dX12_init_446 : decode cX12_init 446 = .ok (.dup, 1) := by decide +kernel
theorem dX12_init_447 : decode cX12_init 447 = .ok (.bipush 67, 2) := by decide +kernel
theorem dX12_init_449 : decode cX12_init 449 = .ok (.bipush 112, 2) := by decide +kernel
theorem dX12_init_451 : decode cX12_init 451 = .ok (.bastore, 1) := by decide +kernel
theorem dX12_init_452 : decode cX12_init 452 = .ok (.dup, 1) := by decide +kernel
theorem dX12_init_453 : decode cX12_init 453 = .ok (.bipush 68, 2) := by decide +kernel
theorem dX12_init_455 : decode cX12_init 455 = .ok (.bipush 32, 2) := by decide +kernel
theorem dX12_init_457 : decode cX12_init 457 = .ok (.bastore, 1) := by decide +kernel
theorem dX12_init_458 : decode cX12_init 458 = .ok (.dup, 1) := by decide +kernel
theorem dX12_init_459 : decode cX12_init 459 = .ok (.bipush 69, 2) := by decide +kernel
theorem dX12_init_461 : decode cX12_init 461 = .ok (.bipush 109, 2) := by decide +kernel
theorem dX12_init_463 : decode cX12_init 463 = .ok (.bastore, 1) := by decide +kernel
theorem dX12_init_464 : decode cX12_init 464 = .ok (.dup, 1) := by decide +kernel
theorem dX12_init_465 : decode cX12_init 465 = .ok (.bipush 70, 2) := by decide +kernel
theorem dX12_init_467 : decode cX12_init 467 = .ok (.bipush 97, 2) := by decide +kernel
theorem dX12_init_469 : decode cX12_init 469 = .ok (.bastore, 1) := by decide +kernel
theorem dX12_init_470 : decode cX12_init 470 = .ok (.dup, 1) := by decide +kernel
theorem dX12_init_471 : decode cX12_init 471 = .ok (.bipush 71, 2) := by decide +kernel
theorem dX12_init_473 : decode cX12_init 473 = .ok (.bipush 110, 2) := by decide +kernel
theorem dX12_init_475 : decode cX12_init 475 = .ok (.bastore, 1) := by decide +kernel
theorem dX12_init_476 : decode cX12_init 476 = .ok (.dup, 1) := by decide +kernel
theorem dX12_init_477 : decode cX12_init 477 = .ok (.bipush 72, 2) := by decide +kernel
theorem dX12_init_479 : decode cX12_init 479 = .ok (.bipush 121, 2) := by decide +kernel
theorem dX12_init_481 : decode cX12_init 481 = .ok (.bastore, 1) := by decide +kernel
theorem dX12_init_482 : decode cX12_init 482 = .ok (.dup, 1) := by decide +kernel
theorem dX12_init_483 : decode cX12_init 483 = .ok (.bipush 73, 2) := by decide +kernel
theorem dX12_init_485 : decode cX12_init 485 = .ok (.bipush 32, 2) := by decide +kernel
theorem dX12_init_487 : decode cX12_init 487 = .ok (.bastore, 1) := by decide +kernel
theorem dX12_init_488 : decode cX12_init 488 = .ok (.dup, 1) := by decide +kernel
theorem dX12_init_489 : decode cX12_init 489 = .ok (.bipush 74, 2) := by decide +kernel
theorem dX12_init_491 : decode cX12_init 491 = .ok (.bipush 104, 2) := by decide +kernel
theorem dX12_init_493 : decode cX12_init 493 = .ok (.bastore, 1) := by decide +kernel
theorem dX12_init_494 : decode cX12_init 494 = .ok (.dup, 1) := by decide +kernel
theorem dX12_init_495 : decode cX12_init 495 = .ok (.bipush 75, 2) := by decide +kernel
theorem dX12_init_497 : decode cX12_init 497 = .ok (.bipush 101, 2) := by decide +kernel
theorem dX12_init_499 : decode cX12_init 499 = .ok (.bastore, 1) := by decide +kernel
theorem dX12_init_500 : decode cX12_init 500 = .ok (.dup, 1) := by decide +kernel
theorem dX12_init_501 : decode cX12_init 501 = .ok (.bipush 76, 2) := by decide +kernel
theorem dX12_init_503 : decode cX12_init 503 = .ok (.bipush 97, 2) := by decide +kernel
theorem dX12_init_505 : decode cX12_init 505 = .ok (.bastore, 1) := by decide +kernel
theorem dX12_init_506 : decode cX12_init 506 = .ok (.dup, 1) := by decide +kernel
theorem dX12_init_507 : decode cX12_init 507 = .ok (.bipush 77, 2) := by decide +kernel
theorem dX12_init_509 : decode cX12_init 509 = .ok (.bipush 112, 2) := by decide +kernel
theorem dX12_init_511 : decode cX12_init 511 = .ok (.bastore, 1) := by decide +kernel
theorem dX12_init_512 : decode cX12_init 512 = .ok (.dup, 1) := by decide +kernel
theorem dX12_init_513 : decode cX12_init 513 = .ok (.bipush 78, 2) := by decide +kernel
theorem dX12_init_515 : decode cX12_init 515 = .ok (.bipush 115, 2) := by decide +kernel
theorem dX12_init_517 : decode cX12_init 517 = .ok (.bastore, 1) := by decide +kernel
theorem dX12_init_518 : decode cX12_init 518 = .ok (.dup, 1) := by decide +kernel
theorem dX12_init_519 : decode cX12_init 519 = .ok (.bipush 79, 2) := by decide +kernel
theorem dX12_init_521 : decode cX12_init 521 = .ok (.bipush 32, 2) := by decide +kernel
theorem dX12_init_523 : decode cX12_init 523 = .ok (.bastore, 1) := by decide +kernel
theorem dX12_init_524 : decode cX12_init 524 = .ok (.dup, 1) := by decide +kernel
theorem dX12_init_525 : decode cX12_init 525 = .ok (.bipush 80, 2) := by decide +kernel
theorem dX12_init_527 : decode cX12_init 527 = .ok (.bipush 100, 2) := by decide +kernel
theorem dX12_init_529 : decode cX12_init 529 = .ok (.bastore, 1) := by decide +kernel
theorem dX12_init_530 : decode cX12_init 530 = .ok (.dup, 1) := by decide +kernel
theorem dX12_init_531 : decode cX12_init 531 = .ok (.bipush 81, 2) := by decide +kernel
theorem dX12_init_533 : decode cX12_init 533 = .ok (.bipush 111, 2) := by decide +kernel
theorem dX12_init_535 : decode cX12_init 535 = .ok (.bastore, 1) := by decide +kernel
theorem dX12_init_536 : decode cX12_init 536 = .ok (.dup, 1) := by decide +kernel
theorem dX12_init_537 : decode cX12_init 537 = .ok (.bipush 82, 2) := by decide +kernel
theorem dX12_init_539 : decode cX12_init 539 = .ok (.bipush 110, 2) := by decide +kernel
theorem dX12_init_541 : decode cX12_init 541 = .ok (.bastore, 1) := by decide +kernel
theorem dX12_init_542 : decode cX12_init 542 = .ok (.dup, 1) := by decide +kernel
theorem dX12_init_543 : decode cX12_init 543 = .ok (.bipush 83, 2) := by decide +kernel
theorem dX12_init_545 : decode cX12_init 545 = .ok (.bipush 101, 2) := by decide +kernel
theorem dX12_init_547 : decode cX12_init 547 = .ok (.bastore, 1) := by decide +kernel
theorem dX12_init_548 : decode cX12_init 548 = .ok (.dup, 1) := by decide +kernel
theorem dX12_init_549 : decode cX12_init 549 = .ok (.bipush 84, 2) := by decide +kernel
theorem dX12_init_551 : decode cX12_init 551 = .ok (.bipush 32, 2) := by decide +kernel
theorem dX12_init_553 : decode cX12_init 553 = .ok (.bastore, 1) := by decide +kernel
theorem dX12_init_554 : decode cX12_init 554 = .ok (.dup, 1) := by decide +kernel
theorem dX12_init_555 : decode cX12_init 555 = .ok (.bipush 85, 2) := by decide +kernel
theorem dX12_init_557 : decode cX12_init 557 = .ok (.bipush 108, 2) := by decide +kernel
theorem dX12_init_559 : decode cX12_init 559 = .ok (.bastore, 1) := by decide +kernel
theorem dX12_init_560 : decode cX12_init 560 = .ok (.dup, 1) := by decide +kernel
theorem dX12_init_561 : decode cX12_init 561 = .ok (.bipush 86, 2) := by decide +kernel
theorem dX12_init_563 : decode cX12_init 563 = .ok (.bipush 97, 2) := by decide +kernel
theorem dX12_init_565 : decode cX12_init 565 = .ok (.bastore, 1) := by decide +kernel
theorem dX12_init_566 : decode cX12_init 566 = .ok (.dup, 1) := by decide +kernel
theorem dX12_init_567 : decode cX12_init 567 = .ok (.bipush 87, 2) := by decide +kernel
theorem dX12_init_569 : decode cX12_init 569 = .ok (.bipush 116, 2) := by decide +kernel
theorem dX12_init_571 : decode cX12_init 571 = .ok (.bastore, 1) := by decide +kernel
theorem dX12_init_572 : decode cX12_init 572 = .ok (.dup, 1) := by decide +kernel
theorem dX12_init_573 : decode cX12_init 573 = .ok (.bipush 88, 2) := by decide +kernel
theorem dX12_init_575 : decode cX12_init 575 = .ok (.bipush 101, 2) := by decide +kernel
theorem dX12_init_577 : decode cX12_init 577 = .ok (.bastore, 1) := by decide +kernel
theorem dX12_init_578 : decode cX12_init 578 = .ok (.dup, 1) := by decide +kernel
theorem dX12_init_579 : decode cX12_init 579 = .ok (.bipush 89, 2) := by decide +kernel
theorem dX12_init_581 : decode cX12_init 581 = .ok (.bipush 115, 2) := by decide +kernel
theorem dX12_init_583 : decode cX12_init 583 = .ok (.bastore, 1) := by decide +kernel
theorem dX12_init_584 : decode cX12_init 584 = .ok (.dup, 1) := by decide +kernel
theorem dX12_init_585 : decode cX12_init 585 = .ok (.bipush 90, 2) := by decide +kernel
theorem dX12_init_587 : decode cX12_init 587 = .ok (.bipush 116, 2) := by decide +kernel
theorem dX12_init_589 : decode cX12_init 589 = .ok (.bastore, 1) := by decide +kernel
theorem dX12_init_590 : decode cX12_init 590 = .ok (.dup, 1) := by decide +kernel
theorem dX12_init_591 : decode cX12_init 591 = .ok (.bipush 91, 2) := by decide +kernel
theorem dX12_init_593 : decode cX12_init 593 = .ok (.bipush 32, 2) := by decide +kernel
theorem dX12_init_595 : decode cX12_init 595 = .ok (.bastore, 1) := by decide +kernel
theorem dX12_init_596 : decode cX12_init 596 = .ok (.dup, 1) := by decide +kernel
theorem dX12_init_597 : decode cX12_init 597 = .ok (.bipush 92, 2) := by decide +kernel
theorem dX12_init_599 : decode cX12_init 599 = .ok (.bipush 99, 2) := by decide +kernel
theorem dX12_init_601 : decode cX12_init 601 = .ok (.bastore, 1) := by decide +kernel
theorem dX12_init_602 : decode cX12_init 602 = .ok (.dup, 1) := by decide +kernel
theorem dX12_init_603 : decode cX12_init 603 = .ok (.bipush 93, 2) := by decide +kernel
theorem dX12_init_605 : decode cX12_init 605 = .ok (.bipush 108, 2) := by decide +kernel
theorem dX12_init_607 : decode cX12_init 607 = .ok (.bastore, 1) := by decide +kernel
theorem dX12_init_608 : decode cX12_init 608 = .ok (.dup, 1) := by decide +kernel
theorem dX12_init_609 : decode cX12_init 609 = .ok (.bipush 94, 2) := by decide +kernel
theorem dX12_init_611 : decode cX12_init 611 = .ok (.bipush 97, 2) := by decide +kernel
theorem dX12_init_613 : decode cX12_init 613 = .ok (.bastore, 1) := by decide +kernel
theorem dX12_init_614 : decode cX12_init 614 = .ok (.dup, 1) := by decide +kernel
theorem dX12_init_615 : decode cX12_init 615 = .ok (.bipush 95, 2) := by decide +kernel
theorem dX12_init_617 : decode cX12_init 617 = .ok (.bipush 112, 2) := by decide +kernel
theorem dX12_init_619 : decode cX12_init 619 = .ok (.bastore, 1) := by decide +kernel
theorem dX12_init_620 : decode cX12_init 620 = .ok (.dup, 1) := by decide +kernel
theorem dX12_init_621 : decode cX12_init 621 = .ok (.bipush 96, 2) := by decide +kernel
theorem dX12_init_623 : decode cX12_init 623 = .ok (.bipush 115, 2) := by decide +kernel
theorem dX12_init_625 : decode cX12_init 625 = .ok (.bastore, 1) := by decide +kernel
theorem dX12_init_626 : decode cX12_init 626 = .ok (.dup, 1) := by decide +kernel
theorem dX12_init_627 : decode cX12_init 627 = .ok (.bipush 97, 2) := by decide +kernel
theorem dX12_init_629 : decode cX12_init 629 = .ok (.bipush 32, 2) := by decide +kernel
theorem dX12_init_631 : decode cX12_init 631 = .ok (.bastore, 1) := by decide +kernel
theorem dX12_init_632 : decode cX12_init 632 = .ok (.dup, 1) := by decide +kernel
theorem dX12_init_633 : decode cX12_init 633 = .ok (.bipush 98, 2) := by decide +kernel
theorem dX12_init_635 : decode cX12_init 635 = .ok (.bipush 115, 2) := by decide +kernel
theorem dX12_init_637 : decode cX12_init 637 = .ok (.bastore, 1) := by decide +kernel
theorem dX12_init_638 : decode cX12_init 638 = .ok (.dup, 1) := by decide +kernel
theorem dX12_init_639 : decode cX12_init 639 = .ok (.bipush 99, 2) := by decide +kernel
theorem dX12_init_641 : decode cX12_init 641 = .ok (.bipush 116, 2) := by decide +kernel
theorem dX12_init_643 : decode cX12_init 643 = .ok (.bastore, 1) := by decide +kernel
theorem dX12_init_644 : decode cX12_init 644 = .ok (.dup, 1) := by decide +kernel
theorem dX12_init_645 : decode cX12_init 645 = .ok (.bipush 100, 2) := by decide +kernel
theorem dX12_init_647 : decode cX12_init 647 = .ok (.bipush 101, 2) := by decide +kernel
theorem dX12_init_649 : decode cX12_init 649 = .ok (.bastore, 1) := by decide +kernel
theorem dX12_init_650 : decode cX12_init 650 = .ok (.dup, 1) := by decide +kernel
theorem dX12_init_651 : decode cX12_init 651 = .ok (.bipush 101, 2) := by decide +kernel
theorem dX12_init_653 : decode cX12_init 653 = .ok (.bipush 112, 2) := by decide +kernel
theorem dX12_init_655 : decode cX12_init 655 = .ok (.bastore, 1) := by decide +kernel
theorem dX12_init_656 : decode cX12_init 656 = .ok (.dup, 1) := by decide +kernel
theorem dX12_init_657 : decode cX12_init 657 = .ok (.bipush 102, 2) := by decide +kernel
theorem dX12_init_659 : decode cX12_init 659 = .ok (.bipush 32, 2) := by decide +kernel
theorem dX12_init_661 : decode cX12_init 661 = .ok (.bastore, 1) := by decide +kernel
theorem dX12_init_662 : decode cX12_init 662 = .ok (.dup, 1) := by decide +kernel
theorem dX12_init_663 : decode cX12_init 663 = .ok (.bipush 103, 2) := by decide +kernel
theorem dX12_init_665 : decode cX12_init 665 = .ok (.bipush 115, 2) := by decide +kernel
theorem dX12_init_667 : decode cX12_init 667 = .ok (.bastore, 1) := by decide +kernel
theorem dX12_init_668 : decode cX12_init 668 = .ok (.dup, 1) := by decide +kernel
theorem dX12_init_669 : decode cX12_init 669 = .ok (.bipush 104, 2) := by decide +kernel
theorem dX12_init_671 : decode cX12_init 671 = .ok (.bipush 119, 2) := by decide +kernel
theorem dX12_init_673 : decode cX12_init 673 = .ok (.bastore, 1) := by decide +kernel
theorem dX12_init_674 : decode cX12_init 674 = .ok (.dup, 1) := by decide +kernel
theorem dX12_init_675 : decode cX12_init 675 = .ok (.bipush 105, 2) := by decide +kernel
theorem dX12_init_677 : decode cX12_init 677 = .ok (.bipush 97, 2) := by decide +kernel
theorem dX12_init_679 : decode cX12_init 679 = .ok (.bastore, 1) := by decide +kernel
theorem dX12_init_680 : decode cX12_init 680 = .ok (.dup, 1) := by decide +kernel
theorem dX12_init_681 : decode cX12_init 681 = .ok (.bipush 106, 2) := by decide +kernel
theorem dX12_init_683 : decode cX12_init 683 = .ok (.bipush 112, 2) := by decide +kernel
theorem dX12_init_685 : decode cX12_init 685 = .ok (.bastore, 1) := by decide +kernel
theorem dX12_init_686 : decode cX12_init 686 = .ok (.dup, 1) := by decide +kernel
theorem dX12_init_687 : decode cX12_init 687 = .ok (.bipush 107, 2) := by decide +kernel
theorem dX12_init_689 : decode cX12_init 689 = .ok (.bipush 32, 2) := by decide +kernel
theorem dX12_init_691 : decode cX12_init 691 = .ok (.bastore, 1) := by decide +kernel
theorem dX12_init_692 : decode cX12_init 692 = .ok (.dup, 1) := by decide +kernel
theorem dX12_init_693 : decode cX12_init 693 = .ok (.bipush 108, 2) := by decide +kernel
theorem dX12_init_695 : decode cX12_init 695 = .ok (.bipush 119, 2) := by decide +kernel
theorem dX12_init_697 : decode cX12_init 697 = .ok (.bastore, 1) := by decide +kernel
theorem dX12_init_698 : decode cX12_init 698 = .ok (.dup, 1) := by decide +kernel
theorem dX12_init_699 : decode cX12_init 699 = .ok (.bipush 109, 2) := by decide +kernel
theorem dX12_init_701 : decode cX12_init 701 = .ok (.bipush 105, 2) := by decide +kernel
theorem dX12_init_703 : decode cX12_init 703 = .ok (.bastore, 1) := by decide +kernel
theorem dX12_init_704 : decode cX12_init 704 = .ok (.dup, 1) := by decide +kernel
theorem dX12_init_705 : decode cX12_init 705 = .ok (.bipush 110, 2) := by decide +kernel
theorem dX12_init_707 : decode cX12_init 707 = .ok (.bipush 116, 2) := by decide +kernel
theorem dX12_init_709 : decode cX12_init 709 = .ok (.bastore, 1) := by decide +kernel
theorem dX12_init_710 : decode cX12_init 710 = .ok (.dup, 1) := by decide +kernel
theorem dX12_init_711 : decode cX12_init 711 = .ok (.bipush 111, 2) := by decide +kernel
theorem dX12_init_713 : decode cX12_init 713 = .ok (.bipush 104, 2) := by decide +kernel
theorem dX12_init_715 : decode cX12_init 715 = .ok (.bastore, 1) := by decide +kernel
theorem dX12_init_716 : decode cX12_init 716 = .ok (.dup, 1) := by decide +kernel
theorem dX12_init_717 : decode cX12_init 717 = .ok (.bipush 112, 2) := by decide +kernel
theorem dX12_init_719 : decode cX12_init 719 = .ok (.bipush 32, 2) := by decide +kernel
theorem dX12_init_721 : decode cX12_init 721 = .ok (.bastore, 1) := by decide +kernel
theorem dX12_init_722 : decode cX12_init 722 = .ok (.dup, 1) := by decide +kernel
theorem dX12_init_723 : decode cX12_init 723 = .ok (.bipush 113, 2) := by decide +kernel
theorem dX12_init_725 : decode cX12_init 725 = .ok (.bipush 111, 2) := by decide +kernel
theorem dX12_init_727 : decode cX12_init 727 = .ok (.bastore, 1) := by decide +kernel
theorem dX12_init_728 : decode cX12_init 728 = .ok (.dup, 1) := by decide +kernel
theorem dX12_init_729 : decode cX12_init 729 = .ok (.bipush 114, 2) := by decide +kernel
theorem dX12_init_731 : decode cX12_init 731 = .ok (.bipush 102, 2) := by decide +kernel
theorem dX12_init_733 : decode cX12_init 733 = .ok (.bastore, 1) := by decide +kernel
theorem dX12_init_734 : decode cX12_init 734 = .ok (.dup, 1) := by decide +kernel
theorem dX12_init_735 : decode cX12_init 735 = .ok (.bipush 115, 2) := by decide +kernel
theorem dX12_init_737 : decode cX12_init 737 = .ok (.bipush 32, 2) := by decide +kernel
theorem dX12_init_739 : decode cX12_init 739 = .ok (.bastore, 1) := by decide +kernel
theorem dX12_init_740 : decode cX12_init 740 = .ok (.dup, 1) := by decide +kernel
theorem dX12_init_741 : decode cX12_init 741 = .ok (.bipush 116, 2) := by decide +kernel
theorem dX12_init_743 : decode cX12_init 743 = .ok (.bipush 99, 2) := by decide +kernel
theorem dX12_init_745 : decode cX12_init 745 = .ok (.bastore, 1) := by decide +kernel
theorem dX12_init_746 : decode cX12_init 746 = .ok (.dup, 1) := by decide +kernel
theorem dX12_init_747 : decode cX12_init 747 = .ok (.bipush 117, 2) := by decide +kernel
theorem dX12_init_749 : decode cX12_init 749 = .ok (.bipush 117, 2) := by decide +kernel
theorem dX12_init_751 : decode cX12_init 751 = .ok (.bastore, 1) := by decide +kernel
theorem dX12_init_752 : decode cX12_init 752 = .ok (.dup, 1) := by decide +kernel
theorem dX12_init_753 : decode cX12_init 753 = .ok (.bipush 118, 2) := by decide +kernel
theorem dX12_init_755 : decode cX12_init 755 = .ok (.bipush 116, 2) := by decide +kernel
theorem dX12_init_757 : decode cX12_init 757 = .ok (.bastore, 1) := by decide +kernel
theorem dX12_init_758 : decode cX12_init 758 = .ok (.dup, 1) := by decide +kernel
theorem dX12_init_759 : decode cX12_init 759 = .ok (.bipush 119, 2) := by decide +kernel
theorem dX12_init_761 : decode cX12_init 761 = .ok (.bipush 32, 2) := by decide +kernel
theorem dX12_init_763 : decode cX12_init 763 = .ok (.bastore, 1) := by decide +kernel
theorem dX12_init_764 : decode cX12_init 764 = .ok (.dup, 1) := by decide +kernel
theorem dX12_init_765 : decode cX12_init 765 = .ok (.bipush 120, 2) := by decide +kernel
theorem dX12_init_767 : decode cX12_init 767 = .ok (.bipush 116, 2) := by decide +kernel
theorem dX12_init_769 : decode cX12_init 769 = .ok (.bastore, 1) := by decide +kernel
theorem dX12_init_770 : decode cX12_init 770 = .ok (.dup, 1) := by decide +kernel
theorem dX12_init_771 : decode cX12_init 771 = .ok (.bipush 121, 2) := by decide +kernel
theorem dX12_init_773 : decode cX12_init 773 = .ok (.bipush 105, 2) := by decide +kernel
theorem dX12_init_775 : decode cX12_init 775 = .ok (.bastore, 1) := by decide +kernel
theorem dX12_init_776 : decode cX12_init 776 = .ok (.dup, 1) := by decide +kernel
theorem dX12_init_777 : decode cX12_init 777 = .ok (.bipush 122, 2) := by decide +kernel
theorem dX12_init_779 : decode cX12_init 779 = .ok (.bipush 109, 2) := by decide +kernel
theorem dX12_init_781 : decode cX12_init 781 = .ok (.bastore, 1) := by decide +kernel
theorem dX12_init_782 : decode cX12_init 782 = .ok (.dup, 1) := by decide +kernel
theorem dX12_init_783 : decode cX12_init 783 = .ok (.bipush 123, 2) := by decide +kernel
theorem dX12_init_785 : decode cX12_init 785 = .ok (.bipush 101, 2) := by decide +kernel
theorem dX12_init_787 : decode cX12_init 787 = .ok (.bastore, 1) := by decide +kernel
theorem dX12_init_788 : decode cX12_init 788 = .ok (.dup, 1) := by decide +kernel
theorem dX12_init_789 : decode cX12_init 789 = .ok (.bipush 124, 2) := by decide +kernel
theorem dX12_init_791 : decode cX12_init 791 = .ok (.bipush 115, 2) := by decide +kernel
theorem dX12_init_793 : decode cX12_init 793 = .ok (.bastore, 1) := by decide +kernel
theorem dX12_init_794 : decode cX12_init 794 = .ok (.dup, 1) := by decide +kernel
theorem dX12_init_795 : decode cX12_init 795 = .ok (.bipush 125, 2) := by decide +kernel
theorem dX12_init_797 : decode cX12_init 797 = .ok (.bipush 32, 2) := by decide +kernel
theorem dX12_init_799 : decode cX12_init 799 = .ok (.bastore, 1) := by decide +kernel
theorem dX12_init_800 : decode cX12_init 800 = .ok (.putfield 37, 3) := by decide +kernel
theorem dX12_init_803 : decode cX12_init 803 = .ok (.aload_n 0, 1) := by decide +kernel
theorem dX12_init_804 : decode cX12_init 804 = .ok (.sipush 400, 3) := by decide +kernel
theorem dX12_init_807 : decode cX12_init 807 = .ok (.newarray .byte, 2) := by decide +kernel
theorem dX12_init_809 : decode cX12_init 809 = .ok (.putfield 41, 3) := by decide +kernel
theorem dX12_init_812 : decode cX12_init 812 = .ok (.aload_n 0, 1) := by decide +kernel
theorem dX12_init_813 : decode cX12_init 813 = .ok (.iconst 5, 1) := by decide +kernel
theorem dX12_init_814 : decode cX12_init 814 = .ok (.newarray .int, 2) := by decide +kernel
theorem dX12_init_816 : decode cX12_init 816 = .ok (.putfield 44, 3) := by decide +kernel
theorem dX12_init_819 : decode cX12_init 819 = .ok (.aload_n 0, 1) := by decide +kernel
theorem dX12_init_820 : decode cX12_init 820 = .ok (.iconst (-1), 1) := by decide +kernel
theorem dX12_init_821 : decode cX12_init 821 = .ok (.putfield 47, 3) := by decide +kernel
theorem dX12_init_824 : decode cX12_init 824 = .ok (.aload_n 0, 1) := by decide +kernel
theorem dX12_init_825 : decode cX12_init 825 = .ok (.sipush 401, 3) := by decide +kernel
theorem dX12_init_828 : decode cX12_init 828 = .ok (.newarray .int, 2) := by decide +kernel
theorem dX12_init_830 : decode cX12_init 830 = .ok (.putfield 50, 3) := by decide +kernel
theorem dX12_init_833 : decode cX12_init 833 = .ok (.aload_n 0, 1) := by decide +kernel
theorem dX12_init_834 : decode cX12_init 834 = .ok (.sipush 401, 3) := by decide +kernel
theorem dX12_init_837 : decode cX12_init 837 = .ok (.newarray .int, 2) := by decide +kernel
theorem dX12_init_839 : decode cX12_init 839 = .ok (.putfield 53, 3) := by decide +kernel
theorem dX12_init_842 : decode cX12_init 842 = .ok (.aload_n 0, 1) := by decide +kernel
theorem dX12_init_843 : decode cX12_init 843 = .ok (.sipush 401, 3) := by decide +kernel
theorem dX12_init_846 : decode cX12_init 846 = .ok (.newarray .int, 2) := by decide +kernel
theorem dX12_init_848 : decode cX12_init 848 = .ok (.putfield 56, 3) := by decide +kernel
theorem dX12_init_851 : decode cX12_init 851 = .ok (.aload_n 0, 1) := by decide +kernel
theorem dX12_init_852 : decode cX12_init 852 = .ok (.bipush 8, 2) := by decide +kernel
theorem dX12_init_854 : decode cX12_init 854 = .ok (.newarray .int, 2) := by decide +kernel
theorem dX12_init_856 : decode cX12_init 856 = .ok (.putfield 59, 3) := by decide +kernel
theorem dX12_init_859 : decode cX12_init 859 = .ok (.aload_n 0, 1) := by decide +kernel
theorem dX12_init_860 : decode cX12_init 860 = .ok (.iconst 3, 1) := by decide +kernel
theorem dX12_init_861 : decode cX12_init 861 = .ok (.newarray .int, 2) := by decide +kernel
theorem dX12_init_863 : decode cX12_init 863 = .ok (.putfield 62, 3) := by decide +kernel
theorem dX12_init_866 : decode cX12_init 866 = .ok (.aload_n 0, 1) := by decide +kernel
theorem dX12_init_867 : decode cX12_init 867 = .ok (.bipush 13, 2) := by decide +kernel
theorem dX12_init_869 : decode cX12_init 869 = .ok (.newarray .int, 2) := by decide +kernel
theorem dX12_init_871 : decode cX12_init 871 = .ok (.putfield 65, 3) := by decide +kernel
theorem dX12_init_874 : decode cX12_init 874 = .ok (.aload_n 0, 1) := by decide +kernel
theorem dX12_init_875 : decode cX12_init 875 = .ok (.bipush 13, 2) := by decide +kernel
theorem dX12_init_877 : decode cX12_init 877 = .ok (.newarray .int, 2) := by decide +kernel
theorem dX12_init_879 : decode cX12_init 879 = .ok (.putfield 68, 3) := by decide +kernel
theorem dX12_init_882 : decode cX12_init 882 = .ok (.aload_n 0, 1) := by decide +kernel
theorem dX12_init_883 : decode cX12_init 883 = .ok (.sipush 4214, 3) := by decide +kernel
theorem dX12_init_886 : decode cX12_init 886 = .ok (.newarray .int, 2) := by decide +kernel
theorem dX12_init_888 : decode cX12_init 888 = .ok (.putfield 71, 3) := by decide +kernel
theorem dX12_init_891 : decode cX12_init 891 = .ok (.aload_n 0, 1) := by decide +kernel
theorem dX12_init_892 : decode cX12_init 892 = .ok (.sipush 1568, 3) := by decide +kernel
theorem dX12_init_895 : decode cX12_init 895 = .ok (.newarray .int, 2) := by decide +kernel
theorem dX12_init_897 : decode cX12_init 897 = .ok (.putfield 74, 3) := by decide +kernel
theorem dX12_init_900 : decode cX12_init 900 = .ok (.aload_n 0, 1) := by decide +kernel
theorem dX12_init_901 : decode cX12_init 901 = .ok (.sipush 1568, 3) := by decide +kernel
theorem dX12_init_904 : decode cX12_init 904 = .ok (.newarray .int, 2) := by decide +kernel
theorem dX12_init_906 : decode cX12_init 906 = .ok (.putfield 77, 3) := by decide +kernel
theorem dX12_init_909 : decode cX12_init 909 = .ok (.aload_n 0, 1) := by decide +kernel
theorem dX12_init_910 : decode cX12_init 910 = .ok (.bipush 7, 2) := by decide +kernel
theorem dX12_init_912 : decode cX12_init 912 = .ok (.newarray .int, 2) := by decide +kernel
theorem dX12_init_914 : decode cX12_init 914 = .ok (.putfield 80, 3) := by decide +kernel
theorem dX12_init_917 : decode cX12_init 917 = .ok (.aload_n 0, 1) := by decide +kernel
theorem dX12_init_918 : decode cX12_init 918 = .ok (.bipush 7, 2) := by decide +kernel
theorem dX12_init_920 : decode cX12_init 920 = .ok (.newarray .int, 2) := by decide +kernel
theorem dX12_init_922 : decode cX12_init 922 = .ok (.putfield 83, 3) := by decide +kernel
theorem dX12_init_925 : decode cX12_init 925 = .ok (.aload_n 0, 1) := by decide +kernel
theorem dX12_init_926 : decode cX12_init 926 = .ok (.bipush 12, 2) := by decide +kernel
theorem dX12_init_928 : decode cX12_init 928 = .ok (.newarray .int, 2) := by decide +kernel
theorem dX12_init_930 : decode cX12_init 930 = .ok (.putfield 86, 3) := by decide +kernel
theorem dX12_init_933 : decode cX12_init 933 = .ok (.aload_n 0, 1) := by decide +kernel
theorem dX12_init_934 : decode cX12_init 934 = .ok (.iconst (-1), 1) := by decide +kernel
theorem dX12_init_935 : decode cX12_init 935 = .ok (.putfield 89, 3) := by decide +kernel
theorem dX12_init_938 : decode cX12_init 938 = .ok (.aload_n 0, 1) := by decide +kernel
theorem dX12_init_939 : decode cX12_init 939 = .ok (.iconst 3, 1) := by decide +kernel
theorem dX12_init_940 : decode cX12_init 940 = .ok (.newarray .long, 2) := by decide +kernel
theorem dX12_init_942 : decode cX12_init 942 = .ok (.putfield 92, 3) := by decide +kernel
theorem dX12_init_945 : decode cX12_init 945 = .ok (.aload_n 0, 1) := by decide +kernel
theorem dX12_init_946 : decode cX12_init 946 = .ok (.bipush 13, 2) := by decide +kernel
theorem dX12_init_948 : decode cX12_init 948 = .ok (.newarray .int, 2) := by decide +kernel
theorem dX12_init_950 : decode cX12_init 950 = .ok (.putfield 96, 3) := by decide +kernel
theorem dX12_init_953 : decode cX12_init 953 = .ok (.aload_n 0, 1) := by decide +kernel
theorem dX12_init_954 : decode cX12_init 954 = .ok (.iconst (-1), 1) := by decide +kernel
theorem dX12_init_955 : decode cX12_init 955 = .ok (.putfield 99, 3) := by decide +kernel
theorem dX12_init_958 : decode cX12_init 958 = .ok (.aload_n 0, 1) := by decide +kernel
theorem dX12_init_959 : decode cX12_init 959 = .ok (.getfield 24, 3) := by decide +kernel
theorem dX12_init_962 : decode cX12_init 962 = .ok (.bipush 114, 2) := by decide +kernel
theorem dX12_init_964 : decode cX12_init 964 = .ok (.sipush 200, 3) := by decide +kernel
theorem dX12_init_967 : decode cX12_init 967 = .ok (.iastore, 1) := by decide +kernel
theorem dX12_init_968 : decode cX12_init 968 = .ok (.aload_n 0, 1) := by decide +kernel
theorem dX12_init_969 : decode cX12_init 969 = .ok (.getfield 24, 3) := by decide +kernel
theorem dX12_init_972 : decode cX12_init 972 = .ok (.bipush 117, 2) := by decide +kernel
theorem dX12_init_974 : decode cX12_init 974 = .ok (.iconst (-1), 1) := by decide +kernel
theorem dX12_init_975 : decode cX12_init 975 = .ok (.iastore, 1) := by decide +kernel
theorem dX12_init_976 : decode cX12_init 976 = .ok (.return_, 1) := by decide +kernel
set_option maxHeartbeats 1000000 in
set_option maxRecDepth 100000 in
noncomputable def Ref_init (v0 : Nat) (h : am_H) : Option am_H := if isO h 12 v0 = true then (nA h 0 (7 : Int32)).bind fun h1 => (pV h1 12 v0 1 (.ref (List.length h))).bind fun h3 => (nA h3 0 (5725 : Int32)).bind fun h6 => (pV h6 12 v0 2 (.ref (List.length h3))).bind fun h8 => (nA h8 0 (11450 : Int32)).bind fun h11 => (pV h11 12 v0 3 (.ref (List.length h8))).bind fun h13 => (nA h13 2 (2 : Int32)).bind fun h16 => (pV h16 12 v0 4 (.ref (List.length h13))).bind fun h18 => (nA h18 0 (97 : Int32)).bind fun h21 => (pV h21 12 v0 5 (.ref (List.length h18))).bind fun h23 => (nA h23 1 (126 : Int32)).bind fun h26 => (sB h26 (List.length h23) (0 : Int32) (116 : Int32)).bind fun h28 => (sB h28 (List.length h23) (1 : Int32) (117 : Int32)).bind fun h31 => (sB h31 (List.length h23) (2 : Int32) (114 : Int32)).bind fun h34 => (sB h34 (List.length h23) (3 : Int32) (110 : Int32)).bind fun h37 => (sB h37 (List.length h23) (4 : Int32) (115 : Int32)).bind fun h40 => (sB h40 (List.length h23) (5 : Int32) (32 : Int32)).bind fun h43 => (sB h43 (List.length h23) (6 : Int32) (115 : Int32)).bind fun h46 => (sB h46 (List.length h23) (7 : Int32) (105 : Int32)).bind fun h49 => (sB h49 (List.length h23) (8 : Int32) (110 : Int32)).bind fun h52 => (sB h52 (List.length h23) (9 : Int32) (107 : Int32)).bind fun h55 => (sB h55 (List.length h23) (10 : Int32) (115 : Int32)).bind fun h58 => (sB h58 (List.length h23) (11 : Int32) (32 : Int32)).bind fun h61 => (sB h61 (List.length h23) (12 : Int32) (101 : Int32)).bind fun h64 => (sB h64 (List.length h23) (13 : Int32) (110 : Int32)).bind fun h67 => (sB h67 (List.length h23) (14 : Int32) (100 : Int32)).bind fun h70 => (sB h70 (List.length h23) (15 : Int32) (115 : Int32)).bind fun h73 => (sB h73 (List.length h23) (16 : Int32) (32 : Int32)).bind fun h76 => (sB h76 (List.length h23) (17 : Int32) (105 : Int32)).bind fun h79 => (sB h79 (List.length h23) (18 : Int32) (102 : Int32)).bind fun h82 => (sB h82 (List.length h23) (19 : Int32) (32 : Int32)).bind fun h85 => (sB h85 (List.length h23) (20 : Int32) (111 : Int32)).bind fun h88 => (sB h88 (List.length h23) (21 : Int32) (114 : Int32)).bind fun h91 => (sB h91 (List.length h23) (22 : Int32) (32 : Int32)).bind fun h94 => (sB h94 (List.length h23) (23 : Int32) (97 : Int32)).bind fun h97 => (sB h97 (List.length h23) (24 : Int32) (110 : Int32)).bind fun h100 => (sB h100 (List.length h23) (25 : Int32) (100 : Int32)).bind fun h103 => (sB h103 (List.length h23) (26 : Int32) (32 : Int32)).bind fun h106 => (sB h106 (List.length h23) (27 : Int32) (110 : Int32)).bind fun h109 => (sB h109 (List.length h23) (28 : Int32) (111 : Int32)).bind fun h112 => (sB h112 (List.length h23) (29 : Int32) (116 : Int32)).bind fun h115 => (sB h115 (List.length h23) (30 : Int32) (32 : Int32)).bind fun h118 => (sB h118 (List.length h23) (31 : Int32) (115 : Int32)).bind fun h121 => (sB h121 (List.length h23) (32 : Int32) (101 : Int32)).bind fun h124 => (sB h124 (List.length h23) (33 : Int32) (99 : Int32)).bind fun h127 => (sB h127 (List.length h23) (34 : Int32) (111 : Int32)).bind fun h130 => (sB h130 (List.length h23) (35 : Int32) (110 : Int32)).bind fun h133 => (sB h133 (List.length h23) (36 : Int32) (100 : Int32)).bind fun h136 => (sB h136 (List.length h23) (37 : Int32) (32 : Int32)).bind fun h139 => (sB h139 (List.length h23) (38 : Int32) (116 : Int32)).bind fun h142 => (sB h142 (List.length h23) (39 : Int32) (104 : Int32)).bind fun h145 => (sB h145 (List.length h23) (40 : Int32) (105 : Int32)).bind fun h148 => (sB h148 (List.length h23) (41 : Int32) (114 : Int32)).bind fun h151 => (sB h151 (List.length h23) (42 : Int32) (100 : Int32)).bind fun h154 => (sB h154 (List.length h23) (43 : Int32) (32 : Int32)).bind fun h157 => (sB h157 (List.length h23) (44 : Int32) (117 : Int32)).bind fun h160 => (sB h160 (List.length h23) (45 : Int32) (110 : Int32)).bind fun h163 => (sB h163 (List.length h23) (46 : Int32) (100 : Int32)).bind fun h166 => (sB h166 (List.length h23) (47 : Int32) (101 : Int32)).bind fun h169 => (sB h169 (List.length h23) (48 : Int32) (114 : Int32)).bind fun h172 => (sB h172 (List.length h23) (49 : Int32) (32 : Int32)).bind fun h175 => (sB h175 (List.length h23) (50 : Int32) (108 : Int32)).bind fun h178 => (sB h178 (List.length h23) (51 : Int32) (97 : Int32)).bind fun h181 => (sB h181 (List.length h23) (52 : Int32) (115 : Int32)).bind fun h184 => (sB h184 (List.length h23) (53 : Int32) (116 : Int32)).bind fun h187 => (sB h187 (List.length h23) (54 : Int32) (32 : Int32)).bind fun h190 => (sB h190 (List.length h23) (55 : Int32) (104 : Int32)).bind fun h193 => (sB h193 (List.length h23) (56 : Int32) (101 : Int32)).bind fun h196 => (sB h196 (List.length h23) (57 : Int32) (97 : Int32)).bind fun h199 => (sB h199 (List.length h23) (58 : Int32) (112 : Int32)).bind fun h202 => (sB h202 (List.length h23) (59 : Int32) (32 : Int32)).bind fun h205 => (sB h205 (List.length h23) (60 : Int32) (109 : Int32)).bind fun h208 => (sB h208 (List.length h23) (61 : Int32) (111 : Int32)).bind fun h211 => (sB h211 (List.length h23) (62 : Int32) (111 : Int32)).bind fun h214 => (sB h214 (List.length h23) (63 : Int32) (100 : Int32)).bind fun h217 => (sB h217 (List.length h23) (64 : Int32) (32 : Int32)).bind fun h220 => (sB h220 (List.length h23) (65 : Int32) (116 : Int32)).bind fun h223 => (sB h223 (List.length h23) (66 : Int32) (111 : Int32)).bind fun h226 => (sB h226 (List.length h23) (67 : Int32) (112 : Int32)).bind fun h229 => (sB h229 (List.length h23) (68 : Int32) (32 : Int32)).bind fun h232 => (sB h232 (List.length h23) (69 : Int32) (109 : Int32)).bind fun h235 => (sB h235 (List.length h23) (70 : Int32) (97 : Int32)).bind fun h238 => (sB h238 (List.length h23) (71 : Int32) (110 : Int32)).bind fun h241 => (sB h241 (List.length h23) (72 : Int32) (121 : Int32)).bind fun h244 => (sB h244 (List.length h23) (73 : Int32) (32 : Int32)).bind fun h247 => (sB h247 (List.length h23) (74 : Int32) (104 : Int32)).bind fun h250 => (sB h250 (List.length h23) (75 : Int32) (101 : Int32)).bind fun h253 => (sB h253 (List.length h23) (76 : Int32) (97 : Int32)).bind fun h256 => (sB h256 (List.length h23) (77 : Int32) (112 : Int32)).bind fun h259 => (sB h259 (List.length h23) (78 : Int32) (115 : Int32)).bind fun h262 => (sB h262 (List.length h23) (79 : Int32) (32 : Int32)).bind fun h265 => (sB h265 (List.length h23) (80 : Int32) (100 : Int32)).bind fun h268 => (sB h268 (List.length h23) (81 : Int32) (111 : Int32)).bind fun h271 => (sB h271 (List.length h23) (82 : Int32) (110 : Int32)).bind fun h274 => (sB h274 (List.length h23) (83 : Int32) (101 : Int32)).bind fun h277 => (sB h277 (List.length h23) (84 : Int32) (32 : Int32)).bind fun h280 => (sB h280 (List.length h23) (85 : Int32) (108 : Int32)).bind fun h283 => (sB h283 (List.length h23) (86 : Int32) (97 : Int32)).bind fun h286 => (sB h286 (List.length h23) (87 : Int32) (116 : Int32)).bind fun h289 => (sB h289 (List.length h23) (88 : Int32) (101 : Int32)).bind fun h292 => (sB h292 (List.length h23) (89 : Int32) (115 : Int32)).bind fun h295 => (sB h295 (List.length h23) (90 : Int32) (116 : Int32)).bind fun h298 => (sB h298 (List.length h23) (91 : Int32) (32 : Int32)).bind fun h301 => (sB h301 (List.length h23) (92 : Int32) (99 : Int32)).bind fun h304 => (sB h304 (List.length h23) (93 : Int32) (108 : Int32)).bind fun h307 => (sB h307 (List.length h23) (94 : Int32) (97 : Int32)).bind fun h310 => (sB h310 (List.length h23) (95 : Int32) (112 : Int32)).bind fun h313 => (sB h313 (List.length h23) (96 : Int32) (115 : Int32)).bind fun h316 => (sB h316 (List.length h23) (97 : Int32) (32 : Int32)).bind fun h319 => (sB h319 (List.length h23) (98 : Int32) (115 : Int32)).bind fun h322 => (sB h322 (List.length h23) (99 : Int32) (116 : Int32)).bind fun h325 => (sB h325 (List.length h23) (100 : Int32) (101 : Int32)).bind fun h328 => (sB h328 (List.length h23) (101 : Int32) (112 : Int32)).bind fun h331 => (sB h331 (List.length h23) (102 : Int32) (32 : Int32)).bind fun h334 => (sB h334 (List.length h23) (103 : Int32) (115 : Int32)).bind fun h337 => (sB h337 (List.length h23) (104 : Int32) (119 : Int32)).bind fun h340 => (sB h340 (List.length h23) (105 : Int32) (97 : Int32)).bind fun h343 => (sB h343 (List.length h23) (106 : Int32) (112 : Int32)).bind fun h346 => (sB h346 (List.length h23) (107 : Int32) (32 : Int32)).bind fun h349 => (sB h349 (List.length h23) (108 : Int32) (119 : Int32)).bind fun h352 => (sB h352 (List.length h23) (109 : Int32) (105 : Int32)).bind fun h355 => (sB h355 (List.length h23) (110 : Int32) (116 : Int32)).bind fun h358 => (sB h358 (List.length h23) (111 : Int32) (104 : Int32)).bind fun h361 => (sB h361 (List.length h23) (112 : Int32) (32 : Int32)).bind fun h364 => (sB h364 (List.length h23) (113 : Int32) (111 : Int32)).bind fun h367 => (sB h367 (List.length h23) (114 : Int32) (102 : Int32)).bind fun h370 => (sB h370 (List.length h23) (115 : Int32) (32 : Int32)).bind fun h373 => (sB h373 (List.length h23) (116 : Int32) (99 : Int32)).bind fun h376 => (sB h376 (List.length h23) (117 : Int32) (117 : Int32)).bind fun h379 => (sB h379 (List.length h23) (118 : Int32) (116 : Int32)).bind fun h382 => (sB h382 (List.length h23) (119 : Int32) (32 : Int32)).bind fun h385 => (sB h385 (List.length h23) (120 : Int32) (116 : Int32)).bind fun h388 => (sB h388 (List.length h23) (121 : Int32) (105 : Int32)).bind fun h391 => (sB h391 (List.length h23) (122 : Int32) (109 : Int32)).bind fun h394 => (sB h394 (List.length h23) (123 : Int32) (101 : Int32)).bind fun h397 => (sB h397 (List.length h23) (124 : Int32) (115 : Int32)).bind fun h400 => (sB h400 (List.length h23) (125 : Int32) (32 : Int32)).bind fun h403 => (pV h403 12 v0 6 (.ref (List.length h23))).bind fun h406 => (nA h406 1 (400 : Int32)).bind fun h409 => (pV h409 12 v0 10 (.ref (List.length h406))).bind fun h411 => (nA h411 0 (5 : Int32)).bind fun h414 => (pV h414 12 v0 11 (.ref (List.length h411))).bind fun h416 => (pV h416 12 v0 13 (.int (-1 : Int32))).bind fun h419 => (nA h419 0 (401 : Int32)).bind fun h422 => (pV h422 12 v0 14 (.ref (List.length h419))).bind fun h424 => (nA h424 0 (401 : Int32)).bind fun h427 => (pV h427 12 v0 15 (.ref (List.length h424))).bind fun h429 => (nA h429 0 (401 : Int32)).bind fun h432 => (pV h432 12 v0 16 (.ref (List.length h429))).bind fun h434 => (nA h434 0 (8 : Int32)).bind fun h437 => (pV h437 12 v0 27 (.ref (List.length h434))).bind fun h439 => (nA h439 0 (3 : Int32)).bind fun h442 => (pV h442 12 v0 28 (.ref (List.length h439))).bind fun h444 => (nA h444 0 (13 : Int32)).bind fun h447 => (pV h447 12 v0 29 (.ref (List.length h444))).bind fun h449 => (nA h449 0 (13 : Int32)).bind fun h452 => (pV h452 12 v0 30 (.ref (List.length h449))).bind fun h454 => (nA h454 0 (4214 : Int32)).bind fun h457 => (pV h457 12 v0 34 (.ref (List.length h454))).bind fun h459 => (nA h459 0 (1568 : Int32)).bind fun h462 => (pV h462 12 v0 37 (.ref (List.length h459))).bind fun h464 => (nA h464 0 (1568 : Int32)).bind fun h467 => (pV h467 12 v0 38 (.ref (List.length h464))).bind fun h469 => (nA h469 0 (7 : Int32)).bind fun h472 => (pV h472 12 v0 40 (.ref (List.length h469))).bind fun h474 => (nA h474 0 (7 : Int32)).bind fun h477 => (pV h477 12 v0 42 (.ref (List.length h474))).bind fun h479 => (nA h479 0 (12 : Int32)).bind fun h482 => (pV h482 12 v0 45 (.ref (List.length h479))).bind fun h484 => (pV h484 12 v0 46 (.int (-1 : Int32))).bind fun h487 => (nA h487 3 (3 : Int32)).bind fun h490 => (pV h490 12 v0 52 (.ref (List.length h487))).bind fun h492 => (nA h492 0 (13 : Int32)).bind fun h495 => (pV h495 12 v0 53 (.ref (List.length h492))).bind fun h497 => (pV h497 12 v0 54 (.int (-1 : Int32))).bind fun h500 => (gR h500 12 v0 2).bind fun x503 => (sI h500 x503 (114 : Int32) (200 : Int32)).bind fun h505 => (gR h505 12 v0 2).bind fun x508 => (sI h505 x508 (117 : Int32) (-1 : Int32)).bind fun h510 => some h510 else none
set_option maxHeartbeats 1000000 in
set_option maxRecDepth 100000 in
theorem Ref_init_s {v0 : Nat} {h : am_H} {r : am_H} (hb : Ref_init v0 h = some r) : Sx 1 mX12_init 0 (am_en [.ref v0] 1) [] h none r := by
  unfold Ref_init at hb
  have hb := (iz hb).2
  show Sx 1 mX12_init 0 [.ref v0] [] h none r
  refine Sx.o (fun _ _ _ k => ex_aload_n dX12_init_0 rfl rfl k) ?_
  refine Sx.o (fun _ _ _ k => op_obj (by omega) dX12_init_1 kX12_18 (Nat.le_of_ble_eq_true rfl) k) ?_
  refine Sx.o (fun _ _ _ k => ex_aload_n dX12_init_4 rfl rfl k) ?_
  refine Sx.o (fun _ _ _ k => op_bipush (7 : Int32) dX12_init_5 (by decide) k) ?_
  obtain ⟨h1, e_h1, hb2⟩ := ob2 hb
  refine sx_newa (t := 0) (fun _ _ _ N c1 c2 c3 kk => ex_newa0 a_int dX12_init_7 c1 c2 c3 kk) e_h1 ?_
  obtain ⟨h3, e_h3, hb4⟩ := ob2 hb2
  refine Sx.p (pV_q e_h3) (fun _ _ _ k => op_putF pX12_7 (fun r hr => by cases hr; rfl) rfl dX12_init_9 e_h3 (fun _ => rfl) (fun _ => rfl) k) ?_
  refine Sx.o (fun _ _ _ k => ex_aload_n dX12_init_12 rfl rfl k) ?_
  refine Sx.o (fun _ _ _ k => op_sipush (5725 : Int32) dX12_init_13 (by decide) k) ?_
  obtain ⟨h6, e_h6, hb7⟩ := ob2 hb4
  refine sx_newa (t := 0) (fun _ _ _ N c1 c2 c3 kk => ex_newa0 a_int dX12_init_16 c1 c2 c3 kk) e_h6 ?_
  obtain ⟨h8, e_h8, hb9⟩ := ob2 hb7
  refine Sx.p (pV_q e_h8) (fun _ _ _ k => op_putF pX12_24 (fun r hr => by cases hr; rfl) rfl dX12_init_18 e_h8 (fun _ => rfl) (fun _ => rfl) k) ?_
  refine Sx.o (fun _ _ _ k => ex_aload_n dX12_init_21 rfl rfl k) ?_
  refine Sx.o (fun _ _ _ k => op_sipush (11450 : Int32) dX12_init_22 (by decide) k) ?_
  obtain ⟨h11, e_h11, hb12⟩ := ob2 hb9
  refine sx_newa (t := 0) (fun _ _ _ N c1 c2 c3 kk => ex_newa0 a_int dX12_init_25 c1 c2 c3 kk) e_h11 ?_
  obtain ⟨h13, e_h13, hb14⟩ := ob2 hb12
  refine Sx.p (pV_q e_h13) (fun _ _ _ k => op_putF pX12_27 (fun r hr => by cases hr; rfl) rfl dX12_init_27 e_h13 (fun _ => rfl) (fun _ => rfl) k) ?_
  refine Sx.o (fun _ _ _ k => ex_aload_n dX12_init_30 rfl rfl k) ?_
  refine Sx.o (fun _ _ _ k => op_iconst (2 : Int32) dX12_init_31 (by decide) k) ?_
  obtain ⟨h16, e_h16, hb17⟩ := ob2 hb14
  refine sx_newa (t := 2) (fun _ _ _ N c1 c2 c3 kk => ex_newa2 a_boolean dX12_init_32 c1 c2 c3 kk) e_h16 ?_
  obtain ⟨h18, e_h18, hb19⟩ := ob2 hb17
  refine Sx.p (pV_q e_h18) (fun _ _ _ k => op_putF pX12_30 (fun r hr => by cases hr; rfl) rfl dX12_init_34 e_h18 (fun _ => rfl) (fun _ => rfl) k) ?_
  refine Sx.o (fun _ _ _ k => ex_aload_n dX12_init_37 rfl rfl k) ?_
  refine Sx.o (fun _ _ _ k => op_bipush (97 : Int32) dX12_init_38 (by decide) k) ?_
  obtain ⟨h21, e_h21, hb22⟩ := ob2 hb19
  refine sx_newa (t := 0) (fun _ _ _ N c1 c2 c3 kk => ex_newa0 a_int dX12_init_40 c1 c2 c3 kk) e_h21 ?_
  obtain ⟨h23, e_h23, hb24⟩ := ob2 hb22
  refine Sx.p (pV_q e_h23) (fun _ _ _ k => op_putF pX12_34 (fun r hr => by cases hr; rfl) rfl dX12_init_42 e_h23 (fun _ => rfl) (fun _ => rfl) k) ?_
  refine Sx.o (fun _ _ _ k => ex_aload_n dX12_init_45 rfl rfl k) ?_
  refine Sx.o (fun _ _ _ k => op_bipush (126 : Int32) dX12_init_46 (by decide) k) ?_
  obtain ⟨h26, e_h26, hb27⟩ := ob2 hb24
  refine sx_newa (t := 1) (fun _ _ _ N c1 c2 c3 kk => ex_newa1 a_byte dX12_init_48 c1 c2 c3 kk) e_h26 ?_
  refine Sx.o (fun _ _ _ k => ex_dup dX12_init_50 rfl k) ?_
  refine Sx.o (fun _ _ _ k => op_iconst (0 : Int32) dX12_init_51 (by decide) k) ?_
  refine Sx.o (fun _ _ _ k => op_bipush (116 : Int32) dX12_init_52 (by decide) k) ?_
  obtain ⟨h28, e_h28, hb29⟩ := ob2 hb27
  refine Sx.p (sB_q e_h28) (fun _ _ _ k => op_bast dX12_init_54 e_h28 k) ?_
  refine Sx.o (fun _ _ _ k => ex_dup dX12_init_55 rfl k) ?_
  refine Sx.o (fun _ _ _ k => op_iconst (1 : Int32) dX12_init_56 (by decide) k) ?_
  refine Sx.o (fun _ _ _ k => op_bipush (117 : Int32) dX12_init_57 (by decide) k) ?_
  obtain ⟨h31, e_h31, hb32⟩ := ob2 hb29
  refine Sx.p (sB_q e_h31) (fun _ _ _ k => op_bast dX12_init_59 e_h31 k) ?_
  refine Sx.o (fun _ _ _ k => ex_dup dX12_init_60 rfl k) ?_
  refine Sx.o (fun _ _ _ k => op_iconst (2 : Int32) dX12_init_61 (by decide) k) ?_
  refine Sx.o (fun _ _ _ k => op_bipush (114 : Int32) dX12_init_62 (by decide) k) ?_
  obtain ⟨h34, e_h34, hb35⟩ := ob2 hb32
  refine Sx.p (sB_q e_h34) (fun _ _ _ k => op_bast dX12_init_64 e_h34 k) ?_
  refine Sx.o (fun _ _ _ k => ex_dup dX12_init_65 rfl k) ?_
  refine Sx.o (fun _ _ _ k => op_iconst (3 : Int32) dX12_init_66 (by decide) k) ?_
  refine Sx.o (fun _ _ _ k => op_bipush (110 : Int32) dX12_init_67 (by decide) k) ?_
  obtain ⟨h37, e_h37, hb38⟩ := ob2 hb35
  refine Sx.p (sB_q e_h37) (fun _ _ _ k => op_bast dX12_init_69 e_h37 k) ?_
  refine Sx.o (fun _ _ _ k => ex_dup dX12_init_70 rfl k) ?_
  refine Sx.o (fun _ _ _ k => op_iconst (4 : Int32) dX12_init_71 (by decide) k) ?_
  refine Sx.o (fun _ _ _ k => op_bipush (115 : Int32) dX12_init_72 (by decide) k) ?_
  obtain ⟨h40, e_h40, hb41⟩ := ob2 hb38
  refine Sx.p (sB_q e_h40) (fun _ _ _ k => op_bast dX12_init_74 e_h40 k) ?_
  refine Sx.o (fun _ _ _ k => ex_dup dX12_init_75 rfl k) ?_
  refine Sx.o (fun _ _ _ k => op_iconst (5 : Int32) dX12_init_76 (by decide) k) ?_
  refine Sx.o (fun _ _ _ k => op_bipush (32 : Int32) dX12_init_77 (by decide) k) ?_
  obtain ⟨h43, e_h43, hb44⟩ := ob2 hb41
  refine Sx.p (sB_q e_h43) (fun _ _ _ k => op_bast dX12_init_79 e_h43 k) ?_
  refine Sx.o (fun _ _ _ k => ex_dup dX12_init_80 rfl k) ?_
  refine Sx.o (fun _ _ _ k => op_bipush (6 : Int32) dX12_init_81 (by decide) k) ?_
  refine Sx.o (fun _ _ _ k => op_bipush (115 : Int32) dX12_init_83 (by decide) k) ?_
  obtain ⟨h46, e_h46, hb47⟩ := ob2 hb44
  refine Sx.p (sB_q e_h46) (fun _ _ _ k => op_bast dX12_init_85 e_h46 k) ?_
  refine Sx.o (fun _ _ _ k => ex_dup dX12_init_86 rfl k) ?_
  refine Sx.o (fun _ _ _ k => op_bipush (7 : Int32) dX12_init_87 (by decide) k) ?_
  refine Sx.o (fun _ _ _ k => op_bipush (105 : Int32) dX12_init_89 (by decide) k) ?_
  obtain ⟨h49, e_h49, hb50⟩ := ob2 hb47
  refine Sx.p (sB_q e_h49) (fun _ _ _ k => op_bast dX12_init_91 e_h49 k) ?_
  refine Sx.o (fun _ _ _ k => ex_dup dX12_init_92 rfl k) ?_
  refine Sx.o (fun _ _ _ k => op_bipush (8 : Int32) dX12_init_93 (by decide) k) ?_
  refine Sx.o (fun _ _ _ k => op_bipush (110 : Int32) dX12_init_95 (by decide) k) ?_
  obtain ⟨h52, e_h52, hb53⟩ := ob2 hb50
  refine Sx.p (sB_q e_h52) (fun _ _ _ k => op_bast dX12_init_97 e_h52 k) ?_
  refine Sx.o (fun _ _ _ k => ex_dup dX12_init_98 rfl k) ?_
  refine Sx.o (fun _ _ _ k => op_bipush (9 : Int32) dX12_init_99 (by decide) k) ?_
  refine Sx.o (fun _ _ _ k => op_bipush (107 : Int32) dX12_init_101 (by decide) k) ?_
  obtain ⟨h55, e_h55, hb56⟩ := ob2 hb53
  refine Sx.p (sB_q e_h55) (fun _ _ _ k => op_bast dX12_init_103 e_h55 k) ?_
  refine Sx.o (fun _ _ _ k => ex_dup dX12_init_104 rfl k) ?_
  refine Sx.o (fun _ _ _ k => op_bipush (10 : Int32) dX12_init_105 (by decide) k) ?_
  refine Sx.o (fun _ _ _ k => op_bipush (115 : Int32) dX12_init_107 (by decide) k) ?_
  obtain ⟨h58, e_h58, hb59⟩ := ob2 hb56
  refine Sx.p (sB_q e_h58) (fun _ _ _ k => op_bast dX12_init_109 e_h58 k) ?_
  refine Sx.o (fun _ _ _ k => ex_dup dX12_init_110 rfl k) ?_
  refine Sx.o (fun _ _ _ k => op_bipush (11 : Int32) dX12_init_111 (by decide) k) ?_
  refine Sx.o (fun _ _ _ k => op_bipush (32 : Int32) dX12_init_113 (by decide) k) ?_
  obtain ⟨h61, e_h61, hb62⟩ := ob2 hb59
  refine Sx.p (sB_q e_h61) (fun _ _ _ k => op_bast dX12_init_115 e_h61 k) ?_
  refine Sx.o (fun _ _ _ k => ex_dup dX12_init_116 rfl k) ?_
  refine Sx.o (fun _ _ _ k => op_bipush (12 : Int32) dX12_init_117 (by decide) k) ?_
  refine Sx.o (fun _ _ _ k => op_bipush (101 : Int32) dX12_init_119 (by decide) k) ?_
  obtain ⟨h64, e_h64, hb65⟩ := ob2 hb62
  refine Sx.p (sB_q e_h64) (fun _ _ _ k => op_bast dX12_init_121 e_h64 k) ?_
  refine Sx.o (fun _ _ _ k => ex_dup dX12_init_122 rfl k) ?_
  refine Sx.o (fun _ _ _ k => op_bipush (13 : Int32) dX12_init_123 (by decide) k) ?_
  refine Sx.o (fun _ _ _ k => op_bipush (110 : Int32) dX12_init_125 (by decide) k) ?_
  obtain ⟨h67, e_h67, hb68⟩ := ob2 hb65
  refine Sx.p (sB_q e_h67) (fun _ _ _ k => op_bast dX12_init_127 e_h67 k) ?_
  refine Sx.o (fun _ _ _ k => ex_dup dX12_init_128 rfl k) ?_
  refine Sx.o (fun _ _ _ k => op_bipush (14 : Int32) dX12_init_129 (by decide) k) ?_
  refine Sx.o (fun _ _ _ k => op_bipush (100 : Int32) dX12_init_131 (by decide) k) ?_
  obtain ⟨h70, e_h70, hb71⟩ := ob2 hb68
  refine Sx.p (sB_q e_h70) (fun _ _ _ k => op_bast dX12_init_133 e_h70 k) ?_
  refine Sx.o (fun _ _ _ k => ex_dup dX12_init_134 rfl k) ?_
  refine Sx.o (fun _ _ _ k => op_bipush (15 : Int32) dX12_init_135 (by decide) k) ?_
  refine Sx.o (fun _ _ _ k => op_bipush (115 : Int32) dX12_init_137 (by decide) k) ?_
  obtain ⟨h73, e_h73, hb74⟩ := ob2 hb71
  refine Sx.p (sB_q e_h73) (fun _ _ _ k => op_bast dX12_init_139 e_h73 k) ?_
  refine Sx.o (fun _ _ _ k => ex_dup dX12_init_140 rfl k) ?_
  refine Sx.o (fun _ _ _ k => op_bipush (16 : Int32) dX12_init_141 (by decide) k) ?_
  refine Sx.o (fun _ _ _ k => op_bipush (32 : Int32) dX12_init_143 (by decide) k) ?_
  obtain ⟨h76, e_h76, hb77⟩ := ob2 hb74
  refine Sx.p (sB_q e_h76) (fun _ _ _ k => op_bast dX12_init_145 e_h76 k) ?_
  refine Sx.o (fun _ _ _ k => ex_dup dX12_init_146 rfl k) ?_
  refine Sx.o (fun _ _ _ k => op_bipush (17 : Int32) dX12_init_147 (by decide) k) ?_
  refine Sx.o (fun _ _ _ k => op_bipush (105 : Int32) dX12_init_149 (by decide) k) ?_
  obtain ⟨h79, e_h79, hb80⟩ := ob2 hb77
  refine Sx.p (sB_q e_h79) (fun _ _ _ k => op_bast dX12_init_151 e_h79 k) ?_
  refine Sx.o (fun _ _ _ k => ex_dup dX12_init_152 rfl k) ?_
  refine Sx.o (fun _ _ _ k => op_bipush (18 : Int32) dX12_init_153 (by decide) k) ?_
  refine Sx.o (fun _ _ _ k => op_bipush (102 : Int32) dX12_init_155 (by decide) k) ?_
  obtain ⟨h82, e_h82, hb83⟩ := ob2 hb80
  refine Sx.p (sB_q e_h82) (fun _ _ _ k => op_bast dX12_init_157 e_h82 k) ?_
  refine Sx.o (fun _ _ _ k => ex_dup dX12_init_158 rfl k) ?_
  refine Sx.o (fun _ _ _ k => op_bipush (19 : Int32) dX12_init_159 (by decide) k) ?_
  refine Sx.o (fun _ _ _ k => op_bipush (32 : Int32) dX12_init_161 (by decide) k) ?_
  obtain ⟨h85, e_h85, hb86⟩ := ob2 hb83
  refine Sx.p (sB_q e_h85) (fun _ _ _ k => op_bast dX12_init_163 e_h85 k) ?_
  refine Sx.o (fun _ _ _ k => ex_dup dX12_init_164 rfl k) ?_
  refine Sx.o (fun _ _ _ k => op_bipush (20 : Int32) dX12_init_165 (by decide) k) ?_
  refine Sx.o (fun _ _ _ k => op_bipush (111 : Int32) dX12_init_167 (by decide) k) ?_
  obtain ⟨h88, e_h88, hb89⟩ := ob2 hb86
  refine Sx.p (sB_q e_h88) (fun _ _ _ k => op_bast dX12_init_169 e_h88 k) ?_
  refine Sx.o (fun _ _ _ k => ex_dup dX12_init_170 rfl k) ?_
  refine Sx.o (fun _ _ _ k => op_bipush (21 : Int32) dX12_init_171 (by decide) k) ?_
  refine Sx.o (fun _ _ _ k => op_bipush (114 : Int32) dX12_init_173 (by decide) k) ?_
  obtain ⟨h91, e_h91, hb92⟩ := ob2 hb89
  refine Sx.p (sB_q e_h91) (fun _ _ _ k => op_bast dX12_init_175 e_h91 k) ?_
  refine Sx.o (fun _ _ _ k => ex_dup dX12_init_176 rfl k) ?_
  refine Sx.o (fun _ _ _ k => op_bipush (22 : Int32) dX12_init_177 (by decide) k) ?_
  refine Sx.o (fun _ _ _ k => op_bipush (32 : Int32) dX12_init_179 (by decide) k) ?_
  obtain ⟨h94, e_h94, hb95⟩ := ob2 hb92
  refine Sx.p (sB_q e_h94) (fun _ _ _ k => op_bast dX12_init_181 e_h94 k) ?_
  refine Sx.o (fun _ _ _ k => ex_dup dX12_init_182 rfl k) ?_
  refine Sx.o (fun _ _ _ k => op_bipush (23 : Int32) dX12_init_183 (by decide) k) ?_
  refine Sx.o (fun _ _ _ k => op_bipush (97 : Int32) dX12_init_185 (by decide) k) ?_
  obtain ⟨h97, e_h97, hb98⟩ := ob2 hb95
  refine Sx.p (sB_q e_h97) (fun _ _ _ k => op_bast dX12_init_187 e_h97 k) ?_
  refine Sx.o (fun _ _ _ k => ex_dup dX12_init_188 rfl k) ?_
  refine Sx.o (fun _ _ _ k => op_bipush (24 : Int32) dX12_init_189 (by decide) k) ?_
  refine Sx.o (fun _ _ _ k => op_bipush (110 : Int32) dX12_init_191 (by decide) k) ?_
  obtain ⟨h100, e_h100, hb101⟩ := ob2 hb98
  refine Sx.p (sB_q e_h100) (fun _ _ _ k => op_bast dX12_init_193 e_h100 k) ?_
  refine Sx.o (fun _ _ _ k => ex_dup dX12_init_194 rfl k) ?_
  refine Sx.o (fun _ _ _ k => op_bipush (25 : Int32) dX12_init_195 (by decide) k) ?_
  refine Sx.o (fun _ _ _ k => op_bipush (100 : Int32) dX12_init_197 (by decide) k) ?_
  obtain ⟨h103, e_h103, hb104⟩ := ob2 hb101
  refine Sx.p (sB_q e_h103) (fun _ _ _ k => op_bast dX12_init_199 e_h103 k) ?_
  refine Sx.o (fun _ _ _ k => ex_dup dX12_init_200 rfl k) ?_
  refine Sx.o (fun _ _ _ k => op_bipush (26 : Int32) dX12_init_201 (by decide) k) ?_
  refine Sx.o (fun _ _ _ k => op_bipush (32 : Int32) dX12_init_203 (by decide) k) ?_
  obtain ⟨h106, e_h106, hb107⟩ := ob2 hb104
  refine Sx.p (sB_q e_h106) (fun _ _ _ k => op_bast dX12_init_205 e_h106 k) ?_
  refine Sx.o (fun _ _ _ k => ex_dup dX12_init_206 rfl k) ?_
  refine Sx.o (fun _ _ _ k => op_bipush (27 : Int32) dX12_init_207 (by decide) k) ?_
  refine Sx.o (fun _ _ _ k => op_bipush (110 : Int32) dX12_init_209 (by decide) k) ?_
  obtain ⟨h109, e_h109, hb110⟩ := ob2 hb107
  refine Sx.p (sB_q e_h109) (fun _ _ _ k => op_bast dX12_init_211 e_h109 k) ?_
  refine Sx.o (fun _ _ _ k => ex_dup dX12_init_212 rfl k) ?_
  refine Sx.o (fun _ _ _ k => op_bipush (28 : Int32) dX12_init_213 (by decide) k) ?_
  refine Sx.o (fun _ _ _ k => op_bipush (111 : Int32) dX12_init_215 (by decide) k) ?_
  obtain ⟨h112, e_h112, hb113⟩ := ob2 hb110
  refine Sx.p (sB_q e_h112) (fun _ _ _ k => op_bast dX12_init_217 e_h112 k) ?_
  refine Sx.o (fun _ _ _ k => ex_dup dX12_init_218 rfl k) ?_
  refine Sx.o (fun _ _ _ k => op_bipush (29 : Int32) dX12_init_219 (by decide) k) ?_
  refine Sx.o (fun _ _ _ k => op_bipush (116 : Int32) dX12_init_221 (by decide) k) ?_
  obtain ⟨h115, e_h115, hb116⟩ := ob2 hb113
  refine Sx.p (sB_q e_h115) (fun _ _ _ k => op_bast dX12_init_223 e_h115 k) ?_
  refine Sx.o (fun _ _ _ k => ex_dup dX12_init_224 rfl k) ?_
  refine Sx.o (fun _ _ _ k => op_bipush (30 : Int32) dX12_init_225 (by decide) k) ?_
  refine Sx.o (fun _ _ _ k => op_bipush (32 : Int32) dX12_init_227 (by decide) k) ?_
  obtain ⟨h118, e_h118, hb119⟩ := ob2 hb116
  refine Sx.p (sB_q e_h118) (fun _ _ _ k => op_bast dX12_init_229 e_h118 k) ?_
  refine Sx.o (fun _ _ _ k => ex_dup dX12_init_230 rfl k) ?_
  refine Sx.o (fun _ _ _ k => op_bipush (31 : Int32) dX12_init_231 (by decide) k) ?_
  refine Sx.o (fun _ _ _ k => op_bipush (115 : Int32) dX12_init_233 (by decide) k) ?_
  obtain ⟨h121, e_h121, hb122⟩ := ob2 hb119
  refine Sx.p (sB_q e_h121) (fun _ _ _ k => op_bast dX12_init_235 e_h121 k) ?_
  refine Sx.o (fun _ _ _ k => ex_dup dX12_init_236 rfl k) ?_
  refine Sx.o (fun _ _ _ k => op_bipush (32 : Int32) dX12_init_237 (by decide) k) ?_
  refine Sx.o (fun _ _ _ k => op_bipush (101 : Int32) dX12_init_239 (by decide) k) ?_
  obtain ⟨h124, e_h124, hb125⟩ := ob2 hb122
  refine Sx.p (sB_q e_h124) (fun _ _ _ k => op_bast dX12_init_241 e_h124 k) ?_
  refine Sx.o (fun _ _ _ k => ex_dup dX12_init_242 rfl k) ?_
  refine Sx.o (fun _ _ _ k => op_bipush (33 : Int32) dX12_init_243 (by decide) k) ?_
  refine Sx.o (fun _ _ _ k => op_bipush (99 : Int32) dX12_init_245 (by decide) k) ?_
  obtain ⟨h127, e_h127, hb128⟩ := ob2 hb125
  refine Sx.p (sB_q e_h127) (fun _ _ _ k => op_bast dX12_init_247 e_h127 k) ?_
  refine Sx.o (fun _ _ _ k => ex_dup dX12_init_248 rfl k) ?_
  refine Sx.o (fun _ _ _ k => op_bipush (34 : Int32) dX12_init_249 (by decide) k) ?_
  refine Sx.o (fun _ _ _ k => op_bipush (111 : Int32) dX12_init_251 (by decide) k) ?_
  obtain ⟨h130, e_h130, hb131⟩ := ob2 hb128
  refine Sx.p (sB_q e_h130) (fun _ _ _ k => op_bast dX12_init_253 e_h130 k) ?_
  refine Sx.o (fun _ _ _ k => ex_dup dX12_init_254 rfl k) ?_
  refine Sx.o (fun _ _ _ k => op_bipush (35 : Int32) dX12_init_255 (by decide) k) ?_
  refine Sx.o (fun _ _ _ k => op_bipush (110 : Int32) dX12_init_257 (by decide) k) ?_
  obtain ⟨h133, e_h133, hb134⟩ := ob2 hb131
  refine Sx.p (sB_q e_h133) (fun _ _ _ k => op_bast dX12_init_259 e_h133 k) ?_
  refine Sx.o (fun _ _ _ k => ex_dup dX12_init_260 rfl k) ?_
  refine Sx.o (fun _ _ _ k => op_bipush (36 : Int32) dX12_init_261 (by decide) k) ?_
  refine Sx.o (fun _ _ _ k => op_bipush (100 : Int32) dX12_init_263 (by decide) k) ?_
  obtain ⟨h136, e_h136, hb137⟩ := ob2 hb134
  refine Sx.p (sB_q e_h136) (fun _ _ _ k => op_bast dX12_init_265 e_h136 k) ?_
  refine Sx.o (fun _ _ _ k => ex_dup dX12_init_266 rfl k) ?_
  refine Sx.o (fun _ _ _ k => op_bipush (37 : Int32) dX12_init_267 (by decide) k) ?_
  refine Sx.o (fun _ _ _ k => op_bipush (32 : Int32) dX12_init_269 (by decide) k) ?_
  obtain ⟨h139, e_h139, hb140⟩ := ob2 hb137
  refine Sx.p (sB_q e_h139) (fun _ _ _ k => op_bast dX12_init_271 e_h139 k) ?_
  refine Sx.o (fun _ _ _ k => ex_dup dX12_init_272 rfl k) ?_
  refine Sx.o (fun _ _ _ k => op_bipush (38 : Int32) dX12_init_273 (by decide) k) ?_
  refine Sx.o (fun _ _ _ k => op_bipush (116 : Int32) dX12_init_275 (by decide) k) ?_
  obtain ⟨h142, e_h142, hb143⟩ := ob2 hb140
  refine Sx.p (sB_q e_h142) (fun _ _ _ k => op_bast dX12_init_277 e_h142 k) ?_
  refine Sx.o (fun _ _ _ k => ex_dup dX12_init_278 rfl k) ?_
  refine Sx.o (fun _ _ _ k => op_bipush (39 : Int32) dX12_init_279 (by decide) k) ?_
  refine Sx.o (fun _ _ _ k => op_bipush (104 : Int32) dX12_init_281 (by decide) k) ?_
  obtain ⟨h145, e_h145, hb146⟩ := ob2 hb143
  refine Sx.p (sB_q e_h145) (fun _ _ _ k => op_bast dX12_init_283 e_h145 k) ?_
  refine Sx.o (fun _ _ _ k => ex_dup dX12_init_284 rfl k) ?_
  refine Sx.o (fun _ _ _ k => op_bipush (40 : Int32) dX12_init_285 (by decide) k) ?_
  refine Sx.o (fun _ _ _ k => op_bipush (105 : Int32) dX12_init_287 (by decide) k) ?_
  obtain ⟨h148, e_h148, hb149⟩ := ob2 hb146
  refine Sx.p (sB_q e_h148) (fun _ _ _ k => op_bast dX12_init_289 e_h148 k) ?_
  refine Sx.o (fun _ _ _ k => ex_dup dX12_init_290 rfl k) ?_
  refine Sx.o (fun _ _ _ k => op_bipush (41 : Int32) dX12_init_291 (by decide) k) ?_
  refine Sx.o (fun _ _ _ k => op_bipush (114 : Int32) dX12_init_293 (by decide) k) ?_
  obtain ⟨h151, e_h151, hb152⟩ := ob2 hb149
  refine Sx.p (sB_q e_h151) (fun _ _ _ k => op_bast dX12_init_295 e_h151 k) ?_
  refine Sx.o (fun _ _ _ k => ex_dup dX12_init_296 rfl k) ?_
  refine Sx.o (fun _ _ _ k => op_bipush (42 : Int32) dX12_init_297 (by decide) k) ?_
  refine Sx.o (fun _ _ _ k => op_bipush (100 : Int32) dX12_init_299 (by decide) k) ?_
  obtain ⟨h154, e_h154, hb155⟩ := ob2 hb152
  refine Sx.p (sB_q e_h154) (fun _ _ _ k => op_bast dX12_init_301 e_h154 k) ?_
  refine Sx.o (fun _ _ _ k => ex_dup dX12_init_302 rfl k) ?_
  refine Sx.o (fun _ _ _ k => op_bipush (43 : Int32) dX12_init_303 (by decide) k) ?_
  refine Sx.o (fun _ _ _ k => op_bipush (32 : Int32) dX12_init_305 (by decide) k) ?_
  obtain ⟨h157, e_h157, hb158⟩ := ob2 hb155
  refine Sx.p (sB_q e_h157) (fun _ _ _ k => op_bast dX12_init_307 e_h157 k) ?_
  refine Sx.o (fun _ _ _ k => ex_dup dX12_init_308 rfl k) ?_
  refine Sx.o (fun _ _ _ k => op_bipush (44 : Int32) dX12_init_309 (by decide) k) ?_
  refine Sx.o (fun _ _ _ k => op_bipush (117 : Int32) dX12_init_311 (by decide) k) ?_
  obtain ⟨h160, e_h160, hb161⟩ := ob2 hb158
  refine Sx.p (sB_q e_h160) (fun _ _ _ k => op_bast dX12_init_313 e_h160 k) ?_
  refine Sx.o (fun _ _ _ k => ex_dup dX12_init_314 rfl k) ?_
  refine Sx.o (fun _ _ _ k => op_bipush (45 : Int32) dX12_init_315 (by decide) k) ?_
  refine Sx.o (fun _ _ _ k => op_bipush (110 : Int32) dX12_init_317 (by decide) k) ?_
  obtain ⟨h163, e_h163, hb164⟩ := ob2 hb161
  refine Sx.p (sB_q e_h163) (fun _ _ _ k => op_bast dX12_init_319 e_h163 k) ?_
  refine Sx.o (fun _ _ _ k => ex_dup dX12_init_320 rfl k) ?_
  refine Sx.o (fun _ _ _ k => op_bipush (46 : Int32) dX12_init_321 (by decide) k) ?_
  refine Sx.o (fun _ _ _ k => op_bipush (100 : Int32) dX12_init_323 (by decide) k) ?_
  obtain ⟨h166, e_h166, hb167⟩ := ob2 hb164
  refine Sx.p (sB_q e_h166) (fun _ _ _ k => op_bast dX12_init_325 e_h166 k) ?_
  refine Sx.o (fun _ _ _ k => ex_dup dX12_init_326 rfl k) ?_
  refine Sx.o (fun _ _ _ k => op_bipush (47 : Int32) dX12_init_327 (by decide) k) ?_
  refine Sx.o (fun _ _ _ k => op_bipush (101 : Int32) dX12_init_329 (by decide) k) ?_
  obtain ⟨h169, e_h169, hb170⟩ := ob2 hb167
  refine Sx.p (sB_q e_h169) (fun _ _ _ k => op_bast dX12_init_331 e_h169 k) ?_
  refine Sx.o (fun _ _ _ k => ex_dup dX12_init_332 rfl k) ?_
  refine Sx.o (fun _ _ _ k => op_bipush (48 : Int32) dX12_init_333 (by decide) k) ?_
  refine Sx.o (fun _ _ _ k => op_bipush (114 : Int32) dX12_init_335 (by decide) k) ?_
  obtain ⟨h172, e_h172, hb173⟩ := ob2 hb170
  refine Sx.p (sB_q e_h172) (fun _ _ _ k => op_bast dX12_init_337 e_h172 k) ?_
  refine Sx.o (fun _ _ _ k => ex_dup dX12_init_338 rfl k) ?_
  refine Sx.o (fun _ _ _ k => op_bipush (49 : Int32) dX12_init_339 (by decide) k) ?_
  refine Sx.o (fun _ _ _ k => op_bipush (32 : Int32) dX12_init_341 (by decide) k) ?_
  obtain ⟨h175, e_h175, hb176⟩ := ob2 hb173
  refine Sx.p (sB_q e_h175) (fun _ _ _ k => op_bast dX12_init_343 e_h175 k) ?_
  refine Sx.o (fun _ _ _ k => ex_dup dX12_init_344 rfl k) ?_
  refine Sx.o (fun _ _ _ k => op_bipush (50 : Int32) dX12_init_345 (by decide) k) ?_
  refine Sx.o (fun _ _ _ k => op_bipush (108 : Int32) dX12_init_347 (by decide) k) ?_
  obtain ⟨h178, e_h178, hb179⟩ := ob2 hb176
  refine Sx.p (sB_q e_h178) (fun _ _ _ k => op_bast dX12_init_349 e_h178 k) ?_
  refine Sx.o (fun _ _ _ k => ex_dup dX12_init_350 rfl k) ?_
  refine Sx.o (fun _ _ _ k => op_bipush (51 : Int32) dX12_init_351 (by decide) k) ?_
  refine Sx.o (fun _ _ _ k => op_bipush (97 : Int32) dX12_init_353 (by decide) k) ?_
  obtain ⟨h181, e_h181, hb182⟩ := ob2 hb179
  refine Sx.p (sB_q e_h181) (fun _ _ _ k => op_bast dX12_init_355 e_h181 k) ?_
  refine Sx.o (fun _ _ _ k => ex_dup dX12_init_356 rfl k) ?_
  refine Sx.o (fun _ _ _ k => op_bipush (52 : Int32) dX12_init_357 (by decide) k) ?_
  refine Sx.o (fun _ _ _ k => op_bipush (115 : Int32) dX12_init_359 (by decide) k) ?_
  obtain ⟨h184, e_h184, hb185⟩ := ob2 hb182
  refine Sx.p (sB_q e_h184) (fun _ _ _ k => op_bast dX12_init_361 e_h184 k) ?_
  refine Sx.o (fun _ _ _ k => ex_dup dX12_init_362 rfl k) ?_
  refine Sx.o (fun _ _ _ k => op_bipush (53 : Int32) dX12_init_363 (by decide) k) ?_
  refine Sx.o (fun _ _ _ k => op_bipush (116 : Int32) dX12_init_365 (by decide) k) ?_
  obtain ⟨h187, e_h187, hb188⟩ := ob2 hb185
  refine Sx.p (sB_q e_h187) (fun _ _ _ k => op_bast dX12_init_367 e_h187 k) ?_
  refine Sx.o (fun _ _ _ k => ex_dup dX12_init_368 rfl k) ?_
  refine Sx.o (fun _ _ _ k => op_bipush (54 : Int32) dX12_init_369 (by decide) k) ?_
  refine Sx.o (fun _ _ _ k => op_bipush (32 : Int32) dX12_init_371 (by decide) k) ?_
  obtain ⟨h190, e_h190, hb191⟩ := ob2 hb188
  refine Sx.p (sB_q e_h190) (fun _ _ _ k => op_bast dX12_init_373 e_h190 k) ?_
  refine Sx.o (fun _ _ _ k => ex_dup dX12_init_374 rfl k) ?_
  refine Sx.o (fun _ _ _ k => op_bipush (55 : Int32) dX12_init_375 (by decide) k) ?_
  refine Sx.o (fun _ _ _ k => op_bipush (104 : Int32) dX12_init_377 (by decide) k) ?_
  obtain ⟨h193, e_h193, hb194⟩ := ob2 hb191
  refine Sx.p (sB_q e_h193) (fun _ _ _ k => op_bast dX12_init_379 e_h193 k) ?_
  refine Sx.o (fun _ _ _ k => ex_dup dX12_init_380 rfl k) ?_
  refine Sx.o (fun _ _ _ k => op_bipush (56 : Int32) dX12_init_381 (by decide) k) ?_
  refine Sx.o (fun _ _ _ k => op_bipush (101 : Int32) dX12_init_383 (by decide) k) ?_
  obtain ⟨h196, e_h196, hb197⟩ := ob2 hb194
  refine Sx.p (sB_q e_h196) (fun _ _ _ k => op_bast dX12_init_385 e_h196 k) ?_
  refine Sx.o (fun _ _ _ k => ex_dup dX12_init_386 rfl k) ?_
  refine Sx.o (fun _ _ _ k => op_bipush (57 : Int32) dX12_init_387 (by decide) k) ?_
  refine Sx.o (fun _ _ _ k => op_bipush (97 : Int32) dX12_init_389 (by decide) k) ?_
  obtain ⟨h199, e_h199, hb200⟩ := ob2 hb197
  refine Sx.p (sB_q e_h199) (fun _ _ _ k => op_bast dX12_init_391 e_h199 k) ?_
  refine Sx.o (fun _ _ _ k => ex_dup dX12_init_392 rfl k) ?_
  refine Sx.o (fun _ _ _ k => op_bipush (58 : Int32) dX12_init_393 (by decide) k) ?_
  refine Sx.o (fun _ _ _ k => op_bipush (112 : Int32) dX12_init_395 (by decide) k) ?_
  obtain ⟨h202, e_h202, hb203⟩ := ob2 hb200
  refine Sx.p (sB_q e_h202) (fun _ _ _ k => op_bast dX12_init_397 e_h202 k) ?_
  refine Sx.o (fun _ _ _ k => ex_dup dX12_init_398 rfl k) ?_
  refine Sx.o (fun _ _ _ k => op_bipush (59 : Int32) dX12_init_399 (by decide) k) ?_
  refine Sx.o (fun _ _ _ k => op_bipush (32 : Int32) dX12_init_401 (by decide) k) ?_
  obtain ⟨h205, e_h205, hb206⟩ := ob2 hb203
  refine Sx.p (sB_q e_h205) (fun _ _ _ k => op_bast dX12_init_403 e_h205 k) ?_
  refine Sx.o (fun _ _ _ k => ex_dup dX12_init_404 rfl k) ?_
  refine Sx.o (fun _ _ _ k => op_bipush (60 : Int32) dX12_init_405 (by decide) k) ?_
  refine Sx.o (fun _ _ _ k => op_bipush (109 : Int32) dX12_init_407 (by decide) k) ?_
  obtain ⟨h208, e_h208, hb209⟩ := ob2 hb206
  refine Sx.p (sB_q e_h208) (fun _ _ _ k => op_bast dX12_init_409 e_h208 k) ?_
  refine Sx.o (fun _ _ _ k => ex_dup dX12_init_410 rfl k) ?_
  refine Sx.o (fun _ _ _ k => op_bipush (61 : Int32) dX12_init_411 (by decide) k) ?_
  refine Sx.o (fun _ _ _ k => op_bipush (111 : Int32) dX12_init_413 (by decide) k) ?_
  obtain ⟨h211, e_h211, hb212⟩ := ob2 hb209
  refine Sx.p (sB_q e_h211) (fun _ _ _ k => op_bast dX12_init_415 e_h211 k) ?_
  refine Sx.o (fun _ _ _ k => ex_dup dX12_init_416 rfl k) ?_
  refine Sx.o (fun _ _ _ k => op_bipush (62 : Int32) dX12_init_417 (by decide) k) ?_
  refine Sx.o (fun _ _ _ k => op_bipush (111 : Int32) dX12_init_419 (by decide) k) ?_
  obtain ⟨h214, e_h214, hb215⟩ := ob2 hb212
  refine Sx.p (sB_q e_h214) (fun _ _ _ k => op_bast dX12_init_421 e_h214 k) ?_
  refine Sx.o (fun _ _ _ k => ex_dup dX12_init_422 rfl k) ?_
  refine Sx.o (fun _ _ _ k => op_bipush (63 : Int32) dX12_init_423 (by decide) k) ?_
  refine Sx.o (fun _ _ _ k => op_bipush (100 : Int32) dX12_init_425 (by decide) k) ?_
  obtain ⟨h217, e_h217, hb218⟩ := ob2 hb215
  refine Sx.p (sB_q e_h217) (fun _ _ _ k => op_bast dX12_init_427 e_h217 k) ?_
  refine Sx.o (fun _ _ _ k => ex_dup dX12_init_428 rfl k) ?_
  refine Sx.o (fun _ _ _ k => op_bipush (64 : Int32) dX12_init_429 (by decide) k) ?_
  refine Sx.o (fun _ _ _ k => op_bipush (32 : Int32) dX12_init_431 (by decide) k) ?_
  obtain ⟨h220, e_h220, hb221⟩ := ob2 hb218
  refine Sx.p (sB_q e_h220) (fun _ _ _ k => op_bast dX12_init_433 e_h220 k) ?_
  refine Sx.o (fun _ _ _ k => ex_dup dX12_init_434 rfl k) ?_
  refine Sx.o (fun _ _ _ k => op_bipush (65 : Int32) dX12_init_435 (by decide) k) ?_
  refine Sx.o (fun _ _ _ k => op_bipush (116 : Int32) dX12_init_437 (by decide) k) ?_
  obtain ⟨h223, e_h223, hb224⟩ := ob2 hb221
  refine Sx.p (sB_q e_h223) (fun _ _ _ k => op_bast dX12_init_439 e_h223 k) ?_
  refine Sx.o (fun _ _ _ k => ex_dup dX12_init_440 rfl k) ?_
  refine Sx.o (fun _ _ _ k => op_bipush (66 : Int32) dX12_init_441 (by decide) k) ?_
  refine Sx.o (fun _ _ _ k => op_bipush (111 : Int32) dX12_init_443 (by decide) k) ?_
  obtain ⟨h226, e_h226, hb227⟩ := ob2 hb224
  refine Sx.p (sB_q e_h226) (fun _ _ _ k => op_bast dX12_init_445 e_h226 k) ?_
  refine Sx.o (fun _ _ _ k => ex_dup dX12_init_446 rfl k) ?_
  refine Sx.o (fun _ _ _ k => op_bipush (67 : Int32) dX12_init_447 (by decide) k) ?_
  refine Sx.o (fun _ _ _ k => op_bipush (112 : Int32) dX12_init_449 (by decide) k) ?_
  obtain ⟨h229, e_h229, hb230⟩ := ob2 hb227
  refine Sx.p (sB_q e_h229) (fun _ _ _ k => op_bast dX12_init_451 e_h229 k) ?_
  refine Sx.o (fun _ _ _ k => ex_dup dX12_init_452 rfl k) ?_
  refine Sx.o (fun _ _ _ k => op_bipush (68 : Int32) dX12_init_453 (by decide) k) ?_
  refine Sx.o (fun _ _ _ k => op_bipush (32 : Int32) dX12_init_455 (by decide) k) ?_
  obtain ⟨h232, e_h232, hb233⟩ := ob2 hb230
  refine Sx.p (sB_q e_h232) (fun _ _ _ k => op_bast dX12_init_457 e_h232 k) ?_
  refine Sx.o (fun _ _ _ k => ex_dup dX12_init_458 rfl k) ?_
  refine Sx.o (fun _ _ _ k => op_bipush (69 : Int32) dX12_init_459 (by decide) k) ?_
  refine Sx.o (fun _ _ _ k => op_bipush (109 : Int32) dX12_init_461 (by decide) k) ?_
  obtain ⟨h235, e_h235, hb236⟩ := ob2 hb233
  refine Sx.p (sB_q e_h235) (fun _ _ _ k => op_bast dX12_init_463 e_h235 k) ?_
  refine Sx.o (fun _ _ _ k => ex_dup dX12_init_464 rfl k) ?_
  refine Sx.o (fun _ _ _ k => op_bipush (70 : Int32) dX12_init_465 (by decide) k) ?_
  refine Sx.o (fun _ _ _ k => op_bipush (97 : Int32) dX12_init_467 (by decide) k) ?_
  obtain ⟨h238, e_h238, hb239⟩ := ob2 hb236
  refine Sx.p (sB_q e_h238) (fun _ _ _ k => op_bast dX12_init_469 e_h238 k) ?_
  refine Sx.o (fun _ _ _ k => ex_dup dX12_init_470 rfl k) ?_
  refine Sx.o (fun _ _ _ k => op_bipush (71 : Int32) dX12_init_471 (by decide) k) ?_
  refine Sx.o (fun _ _ _ k => op_bipush (110 : Int32) dX12_init_473 (by decide) k) ?_
  obtain ⟨h241, e_h241, hb242⟩ := ob2 hb239
  refine Sx.p (sB_q e_h241) (fun _ _ _ k => op_bast dX12_init_475 e_h241 k) ?_
  refine Sx.o (fun _ _ _ k => ex_dup dX12_init_476 rfl k) ?_
  refine Sx.o (fun _ _ _ k => op_bipush (72 : Int32) dX12_init_477 (by decide) k) ?_
  refine Sx.o (fun _ _ _ k => op_bipush (121 : Int32) dX12_init_479 (by decide) k) ?_
  obtain ⟨h244, e_h244, hb245⟩ := ob2 hb242
  refine Sx.p (sB_q e_h244) (fun _ _ _ k => op_bast dX12_init_481 e_h244 k) ?_
  refine Sx.o (fun _ _ _ k => ex_dup dX12_init_482 rfl k) ?_
  refine Sx.o (fun _ _ _ k => op_bipush (73 : Int32) dX12_init_483 (by decide) k) ?_
  refine Sx.o (fun _ _ _ k => op_bipush (32 : Int32) dX12_init_485 (by decide) k) ?_
  obtain ⟨h247, e_h247, hb248⟩ := ob2 hb245
  refine Sx.p (sB_q e_h247) (fun _ _ _ k => op_bast dX12_init_487 e_h247 k) ?_
  refine Sx.o (fun _ _ _ k => ex_dup dX12_init_488 rfl k) ?_
  refine Sx.o (fun _ _ _ k => op_bipush (74 : Int32) dX12_init_489 (by decide) k) ?_
  refine Sx.o (fun _ _ _ k => op_bipush (104 : Int32) dX12_init_491 (by decide) k) ?_
  obtain ⟨h250, e_h250, hb251⟩ := ob2 hb248
  refine Sx.p (sB_q e_h250) (fun _ _ _ k => op_bast dX12_init_493 e_h250 k) ?_
  refine Sx.o (fun _ _ _ k => ex_dup dX12_init_494 rfl k) ?_
  refine Sx.o (fun _ _ _ k => op_bipush (75 : Int32) dX12_init_495 (by decide) k) ?_
  refine Sx.o (fun _ _ _ k => op_bipush (101 : Int32) dX12_init_497 (by decide) k) ?_
  obtain ⟨h253, e_h253, hb254⟩ := ob2 hb251
  refine Sx.p (sB_q e_h253) (fun _ _ _ k => op_bast dX12_init_499 e_h253 k) ?_
  refine Sx.o (fun _ _ _ k => ex_dup dX12_init_500 rfl k) ?_
  refine Sx.o (fun _ _ _ k => op_bipush (76 : Int32) dX12_init_501 (by decide) k) ?_
  refine Sx.o (fun _ _ _ k => op_bipush (97 : Int32) dX12_init_503 (by decide) k) ?_
  obtain ⟨h256, e_h256, hb257⟩ := ob2 hb254
  refine Sx.p (sB_q e_h256) (fun _ _ _ k => op_bast dX12_init_505 e_h256 k) ?_
  refine Sx.o (fun _ _ _ k => ex_dup dX12_init_506 rfl k) ?_
  refine Sx.o (fun _ _ _ k => op_bipush (77 : Int32) dX12_init_507 (by decide) k) ?_
  refine Sx.o (fun _ _ _ k => op_bipush (112 : Int32) dX12_init_509 (by decide) k) ?_
  obtain ⟨h259, e_h259, hb260⟩ := ob2 hb257
  refine Sx.p (sB_q e_h259) (fun _ _ _ k => op_bast dX12_init_511 e_h259 k) ?_
  refine Sx.o (fun _ _ _ k => ex_dup dX12_init_512 rfl k) ?_
  refine Sx.o (fun _ _ _ k => op_bipush (78 : Int32) dX12_init_513 (by decide) k) ?_
  refine Sx.o (fun _ _ _ k => op_bipush (115 : Int32) dX12_init_515 (by decide) k) ?_
  obtain ⟨h262, e_h262, hb263⟩ := ob2 hb260
  refine Sx.p (sB_q e_h262) (fun _ _ _ k => op_bast dX12_init_517 e_h262 k) ?_
  refine Sx.o (fun _ _ _ k => ex_dup dX12_init_518 rfl k) ?_
  refine Sx.o (fun _ _ _ k => op_bipush (79 : Int32) dX12_init_519 (by decide) k) ?_
  refine Sx.o (fun _ _ _ k => op_bipush (32 : Int32) dX12_init_521 (by decide) k) ?_
  obtain ⟨h265, e_h265, hb266⟩ := ob2 hb263
  refine Sx.p (sB_q e_h265) (fun _ _ _ k => op_bast dX12_init_523 e_h265 k) ?_
  refine Sx.o (fun _ _ _ k => ex_dup dX12_init_524 rfl k) ?_
  refine Sx.o (fun _ _ _ k => op_bipush (80 : Int32) dX12_init_525 (by decide) k) ?_
  refine Sx.o (fun _ _ _ k => op_bipush (100 : Int32) dX12_init_527 (by decide) k) ?_
  obtain ⟨h268, e_h268, hb269⟩ := ob2 hb266
  refine Sx.p (sB_q e_h268) (fun _ _ _ k => op_bast dX12_init_529 e_h268 k) ?_
  refine Sx.o (fun _ _ _ k => ex_dup dX12_init_530 rfl k) ?_
  refine Sx.o (fun _ _ _ k => op_bipush (81 : Int32) dX12_init_531 (by decide) k) ?_
  refine Sx.o (fun _ _ _ k => op_bipush (111 : Int32) dX12_init_533 (by decide) k) ?_
  obtain ⟨h271, e_h271, hb272⟩ := ob2 hb269
  refine Sx.p (sB_q e_h271) (fun _ _ _ k => op_bast dX12_init_535 e_h271 k) ?_
  refine Sx.o (fun _ _ _ k => ex_dup dX12_init_536 rfl k) ?_
  refine Sx.o (fun _ _ _ k => op_bipush (82 : Int32) dX12_init_537 (by decide) k) ?_
  refine Sx.o (fun _ _ _ k => op_bipush (110 : Int32) dX12_init_539 (by decide) k) ?_
  obtain ⟨h274, e_h274, hb275⟩ := ob2 hb272
  refine Sx.p (sB_q e_h274) (fun _ _ _ k => op_bast dX12_init_541 e_h274 k) ?_
  refine Sx.o (fun _ _ _ k => ex_dup dX12_init_542 rfl k) ?_
  refine Sx.o (fun _ _ _ k => op_bipush (83 : Int32) dX12_init_543 (by decide) k) ?_
  refine Sx.o (fun _ _ _ k => op_bipush (101 : Int32) dX12_init_545 (by decide) k) ?_
  obtain ⟨h277, e_h277, hb278⟩ := ob2 hb275
  refine Sx.p (sB_q e_h277) (fun _ _ _ k => op_bast dX12_init_547 e_h277 k) ?_
  refine Sx.o (fun _ _ _ k => ex_dup dX12_init_548 rfl k) ?_
  refine Sx.o (fun _ _ _ k => op_bipush (84 : Int32) dX12_init_549 (by decide) k) ?_
  refine Sx.o (fun _ _ _ k => op_bipush (32 : Int32) dX12_init_551 (by decide) k) ?_
  obtain ⟨h280, e_h280, hb281⟩ := ob2 hb278
  refine Sx.p (sB_q e_h280) (fun _ _ _ k => op_bast dX12_init_553 e_h280 k) ?_
  refine Sx.o (fun _ _ _ k => ex_dup dX12_init_554 rfl k) ?_
  refine Sx.o (fun _ _ _ k => op_bipush (85 : Int32) dX12_init_555 (by decide) k) ?_
  refine Sx.o (fun _ _ _ k => op_bipush (108 : Int32) dX12_init_557 (by decide) k) ?_
  obtain ⟨h283, e_h283, hb284⟩ := ob2 hb281
  refine Sx.p (sB_q e_h283) (fun _ _ _ k => op_bast dX12_init_559 e_h283 k) ?_
  refine Sx.o (fun _ _ _ k => ex_dup dX12_init_560 rfl k) ?_
  refine Sx.o (fun _ _ _ k => op_bipush (86 : Int32) dX12_init_561 (by decide) k) ?_
  refine Sx.o (fun _ _ _ k => op_bipush (97 : Int32) dX12_init_563 (by decide) k) ?_
  obtain ⟨h286, e_h286, hb287⟩ := ob2 hb284
  refine Sx.p (sB_q e_h286) (fun _ _ _ k => op_bast dX12_init_565 e_h286 k) ?_
  refine Sx.o (fun _ _ _ k => ex_dup dX12_init_566 rfl k) ?_
  refine Sx.o (fun _ _ _ k => op_bipush (87 : Int32) dX12_init_567 (by decide) k) ?_
  refine Sx.o (fun _ _ _ k => op_bipush (116 : Int32) dX12_init_569 (by decide) k) ?_
  obtain ⟨h289, e_h289, hb290⟩ := ob2 hb287
  refine Sx.p (sB_q e_h289) (fun _ _ _ k => op_bast dX12_init_571 e_h289 k) ?_
  refine Sx.o (fun _ _ _ k => ex_dup dX12_init_572 rfl k) ?_
  refine Sx.o (fun _ _ _ k => op_bipush (88 : Int32) dX12_init_573 (by decide) k) ?_
  refine Sx.o (fun _ _ _ k => op_bipush (101 : Int32) dX12_init_575 (by decide) k) ?_
  obtain ⟨h292, e_h292, hb293⟩ := ob2 hb290
  refine Sx.p (sB_q e_h292) (fun _ _ _ k => op_bast dX12_init_577 e_h292 k) ?_
  refine Sx.o (fun _ _ _ k => ex_dup dX12_init_578 rfl k) ?_
  refine Sx.o (fun _ _ _ k => op_bipush (89 : Int32) dX12_init_579 (by decide) k) ?_
  refine Sx.o (fun _ _ _ k => op_bipush (115 : Int32) dX12_init_581 (by decide) k) ?_
  obtain ⟨h295, e_h295, hb296⟩ := ob2 hb293
  refine Sx.p (sB_q e_h295) (fun _ _ _ k => op_bast dX12_init_583 e_h295 k) ?_
  refine Sx.o (fun _ _ _ k => ex_dup dX12_init_584 rfl k) ?_
  refine Sx.o (fun _ _ _ k => op_bipush (90 : Int32) dX12_init_585 (by decide) k) ?_
  refine Sx.o (fun _ _ _ k => op_bipush (116 : Int32) dX12_init_587 (by decide) k) ?_
  obtain ⟨h298, e_h298, hb299⟩ := ob2 hb296
  refine Sx.p (sB_q e_h298) (fun _ _ _ k => op_bast dX12_init_589 e_h298 k) ?_
  refine Sx.o (fun _ _ _ k => ex_dup dX12_init_590 rfl k) ?_
  refine Sx.o (fun _ _ _ k => op_bipush (91 : Int32) dX12_init_591 (by decide) k) ?_
  refine Sx.o (fun _ _ _ k => op_bipush (32 : Int32) dX12_init_593 (by decide) k) ?_
  obtain ⟨h301, e_h301, hb302⟩ := ob2 hb299
  refine Sx.p (sB_q e_h301) (fun _ _ _ k => op_bast dX12_init_595 e_h301 k) ?_
  refine Sx.o (fun _ _ _ k => ex_dup dX12_init_596 rfl k) ?_
  refine Sx.o (fun _ _ _ k => op_bipush (92 : Int32) dX12_init_597 (by decide) k) ?_
  refine Sx.o (fun _ _ _ k => op_bipush (99 : Int32) dX12_init_599 (by decide) k) ?_
  obtain ⟨h304, e_h304, hb305⟩ := ob2 hb302
  refine Sx.p (sB_q e_h304) (fun _ _ _ k => op_bast dX12_init_601 e_h304 k) ?_
  refine Sx.o (fun _ _ _ k => ex_dup dX12_init_602 rfl k) ?_
  refine Sx.o (fun _ _ _ k => op_bipush (93 : Int32) dX12_init_603 (by decide) k) ?_
  refine Sx.o (fun _ _ _ k => op_bipush (108 : Int32) dX12_init_605 (by decide) k) ?_
  obtain ⟨h307, e_h307, hb308⟩ := ob2 hb305
  refine Sx.p (sB_q e_h307) (fun _ _ _ k => op_bast dX12_init_607 e_h307 k) ?_
  refine Sx.o (fun _ _ _ k => ex_dup dX12_init_608 rfl k) ?_
  refine Sx.o (fun _ _ _ k => op_bipush (94 : Int32) dX12_init_609 (by decide) k) ?_
  refine Sx.o (fun _ _ _ k => op_bipush (97 : Int32) dX12_init_611 (by decide) k) ?_
  obtain ⟨h310, e_h310, hb311⟩ := ob2 hb308
  refine Sx.p (sB_q e_h310) (fun _ _ _ k => op_bast dX12_init_613 e_h310 k) ?_
  refine Sx.o (fun _ _ _ k => ex_dup dX12_init_614 rfl k) ?_
  refine Sx.o (fun _ _ _ k => op_bipush (95 : Int32) dX12_init_615 (by decide) k) ?_
  refine Sx.o (fun _ _ _ k => op_bipush (112 : Int32) dX12_init_617 (by decide) k) ?_
  obtain ⟨h313, e_h313, hb314⟩ := ob2 hb311
  refine Sx.p (sB_q e_h313) (fun _ _ _ k => op_bast dX12_init_619 e_h313 k) ?_
  refine Sx.o (fun _ _ _ k => ex_dup dX12_init_620 rfl k) ?_
  refine Sx.o (fun _ _ _ k => op_bipush (96 : Int32) dX12_init_621 (by decide) k) ?_
  refine Sx.o (fun _ _ _ k => op_bipush (115 : Int32) dX12_init_623 (by decide) k) ?_
  obtain ⟨h316, e_h316, hb317⟩ := ob2 hb314
  refine Sx.p (sB_q e_h316) (fun _ _ _ k => op_bast dX12_init_625 e_h316 k) ?_
  refine Sx.o (fun _ _ _ k => ex_dup dX12_init_626 rfl k) ?_
  refine Sx.o (fun _ _ _ k => op_bipush (97 : Int32) dX12_init_627 (by decide) k) ?_
  refine Sx.o (fun _ _ _ k => op_bipush (32 : Int32) dX12_init_629 (by decide) k) ?_
  obtain ⟨h319, e_h319, hb320⟩ := ob2 hb317
  refine Sx.p (sB_q e_h319) (fun _ _ _ k => op_bast dX12_init_631 e_h319 k) ?_
  refine Sx.o (fun _ _ _ k => ex_dup dX12_init_632 rfl k) ?_
  refine Sx.o (fun _ _ _ k => op_bipush (98 : Int32) dX12_init_633 (by decide) k) ?_
  refine Sx.o (fun _ _ _ k => op_bipush (115 : Int32) dX12_init_635 (by decide) k) ?_
  obtain ⟨h322, e_h322, hb323⟩ := ob2 hb320
  refine Sx.p (sB_q e_h322) (fun _ _ _ k => op_bast dX12_init_637 e_h322 k) ?_
  refine Sx.o (fun _ _ _ k => ex_dup dX12_init_638 rfl k) ?_
  refine Sx.o (fun _ _ _ k => op_bipush (99 : Int32) dX12_init_639 (by decide) k) ?_
  refine Sx.o (fun _ _ _ k => op_bipush (116 : Int32) dX12_init_641 (by decide) k) ?_
  obtain ⟨h325, e_h325, hb326⟩ := ob2 hb323
  refine Sx.p (sB_q e_h325) (fun _ _ _ k => op_bast dX12_init_643 e_h325 k) ?_
  refine Sx.o (fun _ _ _ k => ex_dup dX12_init_644 rfl k) ?_
  refine Sx.o (fun _ _ _ k => op_bipush (100 : Int32) dX12_init_645 (by decide) k) ?_
  refine Sx.o (fun _ _ _ k => op_bipush (101 : Int32) dX12_init_647 (by decide) k) ?_
  obtain ⟨h328, e_h328, hb329⟩ := ob2 hb326
  refine Sx.p (sB_q e_h328) (fun _ _ _ k => op_bast dX12_init_649 e_h328 k) ?_
  refine Sx.o (fun _ _ _ k => ex_dup dX12_init_650 rfl k) ?_
  refine Sx.o (fun _ _ _ k => op_bipush (101 : Int32) dX12_init_651 (by decide) k) ?_
  refine Sx.o (fun _ _ _ k => op_bipush (112 : Int32) dX12_init_653 (by decide) k) ?_
  obtain ⟨h331, e_h331, hb332⟩ := ob2 hb329
  refine Sx.p (sB_q e_h331) (fun _ _ _ k => op_bast dX12_init_655 e_h331 k) ?_
  refine Sx.o (fun _ _ _ k => ex_dup dX12_init_656 rfl k) ?_
  refine Sx.o (fun _ _ _ k => op_bipush (102 : Int32) dX12_init_657 (by decide) k) ?_
  refine Sx.o (fun _ _ _ k => op_bipush (32 : Int32) dX12_init_659 (by decide) k) ?_
  obtain ⟨h334, e_h334, hb335⟩ := ob2 hb332
  refine Sx.p (sB_q e_h334) (fun _ _ _ k => op_bast dX12_init_661 e_h334 k) ?_
  refine Sx.o (fun _ _ _ k => ex_dup dX12_init_662 rfl k) ?_
  refine Sx.o (fun _ _ _ k => op_bipush (103 : Int32) dX12_init_663 (by decide) k) ?_
  refine Sx.o (fun _ _ _ k => op_bipush (115 : Int32) dX12_init_665 (by decide) k) ?_
  obtain ⟨h337, e_h337, hb338⟩ := ob2 hb335
  refine Sx.p (sB_q e_h337) (fun _ _ _ k => op_bast dX12_init_667 e_h337 k) ?_
  refine Sx.o (fun _ _ _ k => ex_dup dX12_init_668 rfl k) ?_
  refine Sx.o (fun _ _ _ k => op_bipush (104 : Int32) dX12_init_669 (by decide) k) ?_
  refine Sx.o (fun _ _ _ k => op_bipush (119 : Int32) dX12_init_671 (by decide) k) ?_
  obtain ⟨h340, e_h340, hb341⟩ := ob2 hb338
  refine Sx.p (sB_q e_h340) (fun _ _ _ k => op_bast dX12_init_673 e_h340 k) ?_
  refine Sx.o (fun _ _ _ k => ex_dup dX12_init_674 rfl k) ?_
  refine Sx.o (fun _ _ _ k => op_bipush (105 : Int32) dX12_init_675 (by decide) k) ?_
  refine Sx.o (fun _ _ _ k => op_bipush (97 : Int32) dX12_init_677 (by decide) k) ?_
  obtain ⟨h343, e_h343, hb344⟩ := ob2 hb341
  refine Sx.p (sB_q e_h343) (fun _ _ _ k => op_bast dX12_init_679 e_h343 k) ?_
  refine Sx.o (fun _ _ _ k => ex_dup dX12_init_680 rfl k) ?_
  refine Sx.o (fun _ _ _ k => op_bipush (106 : Int32) dX12_init_681 (by decide) k) ?_
  refine Sx.o (fun _ _ _ k => op_bipush (112 : Int32) dX12_init_683 (by decide) k) ?_
  obtain ⟨h346, e_h346, hb347⟩ := ob2 hb344
  refine Sx.p (sB_q e_h346) (fun _ _ _ k => op_bast dX12_init_685 e_h346 k) ?_
  refine Sx.o (fun _ _ _ k => ex_dup dX12_init_686 rfl k) ?_
  refine Sx.o (fun _ _ _ k => op_bipush (107 : Int32) dX12_init_687 (by decide) k) ?_
  refine Sx.o (fun _ _ _ k => op_bipush (32 : Int32) dX12_init_689 (by decide) k) ?_
  obtain ⟨h349, e_h349, hb350⟩ := ob2 hb347
  refine Sx.p (sB_q e_h349) (fun _ _ _ k => op_bast dX12_init_691 e_h349 k) ?_
  refine Sx.o (fun _ _ _ k => ex_dup dX12_init_692 rfl k) ?_
  refine Sx.o (fun _ _ _ k => op_bipush (108 : Int32) dX12_init_693 (by decide) k) ?_
  refine Sx.o (fun _ _ _ k => op_bipush (119 : Int32) dX12_init_695 (by decide) k) ?_
  obtain ⟨h352, e_h352, hb353⟩ := ob2 hb350
  refine Sx.p (sB_q e_h352) (fun _ _ _ k => op_bast dX12_init_697 e_h352 k) ?_
  refine Sx.o (fun _ _ _ k => ex_dup dX12_init_698 rfl k) ?_
  refine Sx.o (fun _ _ _ k => op_bipush (109 : Int32) dX12_init_699 (by decide) k) ?_
  refine Sx.o (fun _ _ _ k => op_bipush (105 : Int32) dX12_init_701 (by decide) k) ?_
  obtain ⟨h355, e_h355, hb356⟩ := ob2 hb353
  refine Sx.p (sB_q e_h355) (fun _ _ _ k => op_bast dX12_init_703 e_h355 k) ?_
  refine Sx.o (fun _ _ _ k => ex_dup dX12_init_704 rfl k) ?_
  refine Sx.o (fun _ _ _ k => op_bipush (110 : Int32) dX12_init_705 (by decide) k) ?_
  refine Sx.o (fun _ _ _ k => op_bipush (116 : Int32) dX12_init_707 (by decide) k) ?_
  obtain ⟨h358, e_h358, hb359⟩ := ob2 hb356
  refine Sx.p (sB_q e_h358) (fun _ _ _ k => op_bast dX12_init_709 e_h358 k) ?_
  refine Sx.o (fun _ _ _ k => ex_dup dX12_init_710 rfl k) ?_
  refine Sx.o (fun _ _ _ k => op_bipush (111 : Int32) dX12_init_711 (by decide) k) ?_
  refine Sx.o (fun _ _ _ k => op_bipush (104 : Int32) dX12_init_713 (by decide) k) ?_
  obtain ⟨h361, e_h361, hb362⟩ := ob2 hb359
  refine Sx.p (sB_q e_h361) (fun _ _ _ k => op_bast dX12_init_715 e_h361 k) ?_
  refine Sx.o (fun _ _ _ k => ex_dup dX12_init_716 rfl k) ?_
  refine Sx.o (fun _ _ _ k => op_bipush (112 : Int32) dX12_init_717 (by decide) k) ?_
  refine Sx.o (fun _ _ _ k => op_bipush (32 : Int32) dX12_init_719 (by decide) k) ?_
  obtain ⟨h364, e_h364, hb365⟩ := ob2 hb362
  refine Sx.p (sB_q e_h364) (fun _ _ _ k => op_bast dX12_init_721 e_h364 k) ?_
  refine Sx.o (fun _ _ _ k => ex_dup dX12_init_722 rfl k) ?_
  refine Sx.o (fun _ _ _ k => op_bipush (113 : Int32) dX12_init_723 (by decide) k) ?_
  refine Sx.o (fun _ _ _ k => op_bipush (111 : Int32) dX12_init_725 (by decide) k) ?_
  obtain ⟨h367, e_h367, hb368⟩ := ob2 hb365
  refine Sx.p (sB_q e_h367) (fun _ _ _ k => op_bast dX12_init_727 e_h367 k) ?_
  refine Sx.o (fun _ _ _ k => ex_dup dX12_init_728 rfl k) ?_
  refine Sx.o (fun _ _ _ k => op_bipush (114 : Int32) dX12_init_729 (by decide) k) ?_
  refine Sx.o (fun _ _ _ k => op_bipush (102 : Int32) dX12_init_731 (by decide) k) ?_
  obtain ⟨h370, e_h370, hb371⟩ := ob2 hb368
  refine Sx.p (sB_q e_h370) (fun _ _ _ k => op_bast dX12_init_733 e_h370 k) ?_
  refine Sx.o (fun _ _ _ k => ex_dup dX12_init_734 rfl k) ?_
  refine Sx.o (fun _ _ _ k => op_bipush (115 : Int32) dX12_init_735 (by decide) k) ?_
  refine Sx.o (fun _ _ _ k => op_bipush (32 : Int32) dX12_init_737 (by decide) k) ?_
  obtain ⟨h373, e_h373, hb374⟩ := ob2 hb371
  refine Sx.p (sB_q e_h373) (fun _ _ _ k => op_bast dX12_init_739 e_h373 k) ?_
  refine Sx.o (fun _ _ _ k => ex_dup dX12_init_740 rfl k) ?_
  refine Sx.o (fun _ _ _ k => op_bipush (116 : Int32) dX12_init_741 (by decide) k) ?_
  refine Sx.o (fun _ _ _ k => op_bipush (99 : Int32) dX12_init_743 (by decide) k) ?_
  obtain ⟨h376, e_h376, hb377⟩ := ob2 hb374
  refine Sx.p (sB_q e_h376) (fun _ _ _ k => op_bast dX12_init_745 e_h376 k) ?_
  refine Sx.o (fun _ _ _ k => ex_dup dX12_init_746 rfl k) ?_
  refine Sx.o (fun _ _ _ k => op_bipush (117 : Int32) dX12_init_747 (by decide) k) ?_
  refine Sx.o (fun _ _ _ k => op_bipush (117 : Int32) dX12_init_749 (by decide) k) ?_
  obtain ⟨h379, e_h379, hb380⟩ := ob2 hb377
  refine Sx.p (sB_q e_h379) (fun _ _ _ k => op_bast dX12_init_751 e_h379 k) ?_
  refine Sx.o (fun _ _ _ k => ex_dup dX12_init_752 rfl k) ?_
  refine Sx.o (fun _ _ _ k => op_bipush (118 : Int32) dX12_init_753 (by decide) k) ?_
  refine Sx.o (fun _ _ _ k => op_bipush (116 : Int32) dX12_init_755 (by decide) k) ?_
  obtain ⟨h382, e_h382, hb383⟩ := ob2 hb380
  refine Sx.p (sB_q e_h382) (fun _ _ _ k => op_bast dX12_init_757 e_h382 k) ?_
  refine Sx.o (fun _ _ _ k => ex_dup dX12_init_758 rfl k) ?_
  refine Sx.o (fun _ _ _ k => op_bipush (119 : Int32) dX12_init_759 (by decide) k) ?_
  refine Sx.o (fun _ _ _ k => op_bipush (32 : Int32) dX12_init_761 (by decide) k) ?_
  obtain ⟨h385, e_h385, hb386⟩ := ob2 hb383
  refine Sx.p (sB_q e_h385) (fun _ _ _ k => op_bast dX12_init_763 e_h385 k) ?_
  refine Sx.o (fun _ _ _ k => ex_dup dX12_init_764 rfl k) ?_
  refine Sx.o (fun _ _ _ k => op_bipush (120 : Int32) dX12_init_765 (by decide) k) ?_
  refine Sx.o (fun _ _ _ k => op_bipush (116 : Int32) dX12_init_767 (by decide) k) ?_
  obtain ⟨h388, e_h388, hb389⟩ := ob2 hb386
  refine Sx.p (sB_q e_h388) (fun _ _ _ k => op_bast dX12_init_769 e_h388 k) ?_
  refine Sx.o (fun _ _ _ k => ex_dup dX12_init_770 rfl k) ?_
  refine Sx.o (fun _ _ _ k => op_bipush (121 : Int32) dX12_init_771 (by decide) k) ?_
  refine Sx.o (fun _ _ _ k => op_bipush (105 : Int32) dX12_init_773 (by decide) k) ?_
  obtain ⟨h391, e_h391, hb392⟩ := ob2 hb389
  refine Sx.p (sB_q e_h391) (fun _ _ _ k => op_bast dX12_init_775 e_h391 k) ?_
  refine Sx.o (fun _ _ _ k => ex_dup dX12_init_776 rfl k) ?_
  refine Sx.o (fun _ _ _ k => op_bipush (122 : Int32) dX12_init_777 (by decide) k) ?_
  refine Sx.o (fun _ _ _ k => op_bipush (109 : Int32) dX12_init_779 (by decide) k) ?_
  obtain ⟨h394, e_h394, hb395⟩ := ob2 hb392
  refine Sx.p (sB_q e_h394) (fun _ _ _ k => op_bast dX12_init_781 e_h394 k) ?_
  refine Sx.o (fun _ _ _ k => ex_dup dX12_init_782 rfl k) ?_
  refine Sx.o (fun _ _ _ k => op_bipush (123 : Int32) dX12_init_783 (by decide) k) ?_
  refine Sx.o (fun _ _ _ k => op_bipush (101 : Int32) dX12_init_785 (by decide) k) ?_
  obtain ⟨h397, e_h397, hb398⟩ := ob2 hb395
  refine Sx.p (sB_q e_h397) (fun _ _ _ k => op_bast dX12_init_787 e_h397 k) ?_
  refine Sx.o (fun _ _ _ k => ex_dup dX12_init_788 rfl k) ?_
  refine Sx.o (fun _ _ _ k => op_bipush (124 : Int32) dX12_init_789 (by decide) k) ?_
  refine Sx.o (fun _ _ _ k => op_bipush (115 : Int32) dX12_init_791 (by decide) k) ?_
  obtain ⟨h400, e_h400, hb401⟩ := ob2 hb398
  refine Sx.p (sB_q e_h400) (fun _ _ _ k => op_bast dX12_init_793 e_h400 k) ?_
  refine Sx.o (fun _ _ _ k => ex_dup dX12_init_794 rfl k) ?_
  refine Sx.o (fun _ _ _ k => op_bipush (125 : Int32) dX12_init_795 (by decide) k) ?_
  refine Sx.o (fun _ _ _ k => op_bipush (32 : Int32) dX12_init_797 (by decide) k) ?_
  obtain ⟨h403, e_h403, hb404⟩ := ob2 hb401
  refine Sx.p (sB_q e_h403) (fun _ _ _ k => op_bast dX12_init_799 e_h403 k) ?_
  obtain ⟨h406, e_h406, hb407⟩ := ob2 hb404
  refine Sx.p (pV_q e_h406) (fun _ _ _ k => op_putF pX12_37 (fun r hr => by cases hr; rfl) rfl dX12_init_800 e_h406 (fun _ => rfl) (fun _ => rfl) k) ?_
  refine Sx.o (fun _ _ _ k => ex_aload_n dX12_init_803 rfl rfl k) ?_
  refine Sx.o (fun _ _ _ k => op_sipush (400 : Int32) dX12_init_804 (by decide) k) ?_
  obtain ⟨h409, e_h409, hb410⟩ := ob2 hb407
  refine sx_newa (t := 1) (fun _ _ _ N c1 c2 c3 kk => ex_newa1 a_byte dX12_init_807 c1 c2 c3 kk) e_h409 ?_
  obtain ⟨h411, e_h411, hb412⟩ := ob2 hb410
  refine Sx.p (pV_q e_h411) (fun _ _ _ k => op_putF pX12_41 (fun r hr => by cases hr; rfl) rfl dX12_init_809 e_h411 (fun _ => rfl) (fun _ => rfl) k) ?_
  refine Sx.o (fun _ _ _ k => ex_aload_n dX12_init_812 rfl rfl k) ?_
  refine Sx.o (fun _ _ _ k => op_iconst (5 : Int32) dX12_init_813 (by decide) k) ?_
  obtain ⟨h414, e_h414, hb415⟩ := ob2 hb412
  refine sx_newa (t := 0) (fun _ _ _ N c1 c2 c3 kk => ex_newa0 a_int dX12_init_814 c1 c2 c3 kk) e_h414 ?_
  obtain ⟨h416, e_h416, hb417⟩ := ob2 hb415
  refine Sx.p (pV_q e_h416) (fun _ _ _ k => op_putF pX12_44 (fun r hr => by cases hr; rfl) rfl dX12_init_816 e_h416 (fun _ => rfl) (fun _ => rfl) k) ?_
  refine Sx.o (fun _ _ _ k => ex_aload_n dX12_init_819 rfl rfl k) ?_
  refine Sx.o (fun _ _ _ k => op_iconst (-1 : Int32) dX12_init_820 (by decide) k) ?_
  obtain ⟨h419, e_h419, hb420⟩ := ob2 hb417
  refine Sx.p (pV_q e_h419) (fun _ _ _ k => op_put pX12_47 dX12_init_821 e_h419 (fun _ => rfl) (fun _ => rfl) k) ?_
  refine Sx.o (fun _ _ _ k => ex_aload_n dX12_init_824 rfl rfl k) ?_
  refine Sx.o (fun _ _ _ k => op_sipush (401 : Int32) dX12_init_825 (by decide) k) ?_
  obtain ⟨h422, e_h422, hb423⟩ := ob2 hb420
  refine sx_newa (t := 0) (fun _ _ _ N c1 c2 c3 kk => ex_newa0 a_int dX12_init_828 c1 c2 c3 kk) e_h422 ?_
  obtain ⟨h424, e_h424, hb425⟩ := ob2 hb423
  refine Sx.p (pV_q e_h424) (fun _ _ _ k => op_putF pX12_50 (fun r hr => by cases hr; rfl) rfl dX12_init_830 e_h424 (fun _ => rfl) (fun _ => rfl) k) ?_
  refine Sx.o (fun _ _ _ k => ex_aload_n dX12_init_833 rfl rfl k) ?_
  refine Sx.o (fun _ _ _ k => op_sipush (401 : Int32) dX12_init_834 (by decide) k) ?_
  obtain ⟨h427, e_h427, hb428⟩ := ob2 hb425
  refine sx_newa (t := 0) (fun _ _ _ N c1 c2 c3 kk => ex_newa0 a_int dX12_init_837 c1 c2 c3 kk) e_h427 ?_
  obtain ⟨h429, e_h429, hb430⟩ := ob2 hb428
  refine Sx.p (pV_q e_h429) (fun _ _ _ k => op_putF pX12_53 (fun r hr => by cases hr; rfl) rfl dX12_init_839 e_h429 (fun _ => rfl) (fun _ => rfl) k) ?_
  refine Sx.o (fun _ _ _ k => ex_aload_n dX12_init_842 rfl rfl k) ?_
  refine Sx.o (fun _ _ _ k => op_sipush (401 : Int32) dX12_init_843 (by decide) k) ?_
  obtain ⟨h432, e_h432, hb433⟩ := ob2 hb430
  refine sx_newa (t := 0) (fun _ _ _ N c1 c2 c3 kk => ex_newa0 a_int dX12_init_846 c1 c2 c3 kk) e_h432 ?_
  obtain ⟨h434, e_h434, hb435⟩ := ob2 hb433
  refine Sx.p (pV_q e_h434) (fun _ _ _ k => op_putF pX12_56 (fun r hr => by cases hr; rfl) rfl dX12_init_848 e_h434 (fun _ => rfl) (fun _ => rfl) k) ?_
  refine Sx.o (fun _ _ _ k => ex_aload_n dX12_init_851 rfl rfl k) ?_
  refine Sx.o (fun _ _ _ k => op_bipush (8 : Int32) dX12_init_852 (by decide) k) ?_
  obtain ⟨h437, e_h437, hb438⟩ := ob2 hb435
  refine sx_newa (t := 0) (fun _ _ _ N c1 c2 c3 kk => ex_newa0 a_int dX12_init_854 c1 c2 c3 kk) e_h437 ?_
  obtain ⟨h439, e_h439, hb440⟩ := ob2 hb438
  refine Sx.p (pV_q e_h439) (fun _ _ _ k => op_putF pX12_59 (fun r hr => by cases hr; rfl) rfl dX12_init_856 e_h439 (fun _ => rfl) (fun _ => rfl) k) ?_
  refine Sx.o (fun _ _ _ k => ex_aload_n dX12_init_859 rfl rfl k) ?_
  refine Sx.o (fun _ _ _ k => op_iconst (3 : Int32) dX12_init_860 (by decide) k) ?_
  obtain ⟨h442, e_h442, hb443⟩ := ob2 hb440
  refine sx_newa (t := 0) (fun _ _ _ N c1 c2 c3 kk => ex_newa0 a_int dX12_init_861 c1 c2 c3 kk) e_h442 ?_
  obtain ⟨h444, e_h444, hb445⟩ := ob2 hb443
  refine Sx.p (pV_q e_h444) (fun _ _ _ k => op_putF pX12_62 (fun r hr => by cases hr; rfl) rfl dX12_init_863 e_h444 (fun _ => rfl) (fun _ => rfl) k) ?_
  refine Sx.o (fun _ _ _ k => ex_aload_n dX12_init_866 rfl rfl k) ?_
  refine Sx.o (fun _ _ _ k => op_bipush (13 : Int32) dX12_init_867 (by decide) k) ?_
  obtain ⟨h447, e_h447, hb448⟩ := ob2 hb445
  refine sx_newa (t := 0) (fun _ _ _ N c1 c2 c3 kk => ex_newa0 a_int dX12_init_869 c1 c2 c3 kk) e_h447 ?_
  obtain ⟨h449, e_h449, hb450⟩ := ob2 hb448
  refine Sx.p (pV_q e_h449) (fun _ _ _ k => op_putF pX12_65 (fun r hr => by cases hr; rfl) rfl dX12_init_871 e_h449 (fun _ => rfl) (fun _ => rfl) k) ?_
  refine Sx.o (fun _ _ _ k => ex_aload_n dX12_init_874 rfl rfl k) ?_
  refine Sx.o (fun _ _ _ k => op_bipush (13 : Int32) dX12_init_875 (by decide) k) ?_
  obtain ⟨h452, e_h452, hb453⟩ := ob2 hb450
  refine sx_newa (t := 0) (fun _ _ _ N c1 c2 c3 kk => ex_newa0 a_int dX12_init_877 c1 c2 c3 kk) e_h452 ?_
  obtain ⟨h454, e_h454, hb455⟩ := ob2 hb453
  refine Sx.p (pV_q e_h454) (fun _ _ _ k => op_putF pX12_68 (fun r hr => by cases hr; rfl) rfl dX12_init_879 e_h454 (fun _ => rfl) (fun _ => rfl) k) ?_
  refine Sx.o (fun _ _ _ k => ex_aload_n dX12_init_882 rfl rfl k) ?_
  refine Sx.o (fun _ _ _ k => op_sipush (4214 : Int32) dX12_init_883 (by decide) k) ?_
  obtain ⟨h457, e_h457, hb458⟩ := ob2 hb455
  refine sx_newa (t := 0) (fun _ _ _ N c1 c2 c3 kk => ex_newa0 a_int dX12_init_886 c1 c2 c3 kk) e_h457 ?_
  obtain ⟨h459, e_h459, hb460⟩ := ob2 hb458
  refine Sx.p (pV_q e_h459) (fun _ _ _ k => op_putF pX12_71 (fun r hr => by cases hr; rfl) rfl dX12_init_888 e_h459 (fun _ => rfl) (fun _ => rfl) k) ?_
  refine Sx.o (fun _ _ _ k => ex_aload_n dX12_init_891 rfl rfl k) ?_
  refine Sx.o (fun _ _ _ k => op_sipush (1568 : Int32) dX12_init_892 (by decide) k) ?_
  obtain ⟨h462, e_h462, hb463⟩ := ob2 hb460
  refine sx_newa (t := 0) (fun _ _ _ N c1 c2 c3 kk => ex_newa0 a_int dX12_init_895 c1 c2 c3 kk) e_h462 ?_
  obtain ⟨h464, e_h464, hb465⟩ := ob2 hb463
  refine Sx.p (pV_q e_h464) (fun _ _ _ k => op_putF pX12_74 (fun r hr => by cases hr; rfl) rfl dX12_init_897 e_h464 (fun _ => rfl) (fun _ => rfl) k) ?_
  refine Sx.o (fun _ _ _ k => ex_aload_n dX12_init_900 rfl rfl k) ?_
  refine Sx.o (fun _ _ _ k => op_sipush (1568 : Int32) dX12_init_901 (by decide) k) ?_
  obtain ⟨h467, e_h467, hb468⟩ := ob2 hb465
  refine sx_newa (t := 0) (fun _ _ _ N c1 c2 c3 kk => ex_newa0 a_int dX12_init_904 c1 c2 c3 kk) e_h467 ?_
  obtain ⟨h469, e_h469, hb470⟩ := ob2 hb468
  refine Sx.p (pV_q e_h469) (fun _ _ _ k => op_putF pX12_77 (fun r hr => by cases hr; rfl) rfl dX12_init_906 e_h469 (fun _ => rfl) (fun _ => rfl) k) ?_
  refine Sx.o (fun _ _ _ k => ex_aload_n dX12_init_909 rfl rfl k) ?_
  refine Sx.o (fun _ _ _ k => op_bipush (7 : Int32) dX12_init_910 (by decide) k) ?_
  obtain ⟨h472, e_h472, hb473⟩ := ob2 hb470
  refine sx_newa (t := 0) (fun _ _ _ N c1 c2 c3 kk => ex_newa0 a_int dX12_init_912 c1 c2 c3 kk) e_h472 ?_
  obtain ⟨h474, e_h474, hb475⟩ := ob2 hb473
  refine Sx.p (pV_q e_h474) (fun _ _ _ k => op_putF pX12_80 (fun r hr => by cases hr; rfl) rfl dX12_init_914 e_h474 (fun _ => rfl) (fun _ => rfl) k) ?_
  refine Sx.o (fun _ _ _ k => ex_aload_n dX12_init_917 rfl rfl k) ?_
  refine Sx.o (fun _ _ _ k => op_bipush (7 : Int32) dX12_init_918 (by decide) k) ?_
  obtain ⟨h477, e_h477, hb478⟩ := ob2 hb475
  refine sx_newa (t := 0) (fun _ _ _ N c1 c2 c3 kk => ex_newa0 a_int dX12_init_920 c1 c2 c3 kk) e_h477 ?_
  obtain ⟨h479, e_h479, hb480⟩ := ob2 hb478
  refine Sx.p (pV_q e_h479) (fun _ _ _ k => op_putF pX12_83 (fun r hr => by cases hr; rfl) rfl dX12_init_922 e_h479 (fun _ => rfl) (fun _ => rfl) k) ?_
  refine Sx.o (fun _ _ _ k => ex_aload_n dX12_init_925 rfl rfl k) ?_
  refine Sx.o (fun _ _ _ k => op_bipush (12 : Int32) dX12_init_926 (by decide) k) ?_
  obtain ⟨h482, e_h482, hb483⟩ := ob2 hb480
  refine sx_newa (t := 0) (fun _ _ _ N c1 c2 c3 kk => ex_newa0 a_int dX12_init_928 c1 c2 c3 kk) e_h482 ?_
  obtain ⟨h484, e_h484, hb485⟩ := ob2 hb483
  refine Sx.p (pV_q e_h484) (fun _ _ _ k => op_putF pX12_86 (fun r hr => by cases hr; rfl) rfl dX12_init_930 e_h484 (fun _ => rfl) (fun _ => rfl) k) ?_
  refine Sx.o (fun _ _ _ k => ex_aload_n dX12_init_933 rfl rfl k) ?_
  refine Sx.o (fun _ _ _ k => op_iconst (-1 : Int32) dX12_init_934 (by decide) k) ?_
  obtain ⟨h487, e_h487, hb488⟩ := ob2 hb485
  refine Sx.p (pV_q e_h487) (fun _ _ _ k => op_put pX12_89 dX12_init_935 e_h487 (fun _ => rfl) (fun _ => rfl) k) ?_
  refine Sx.o (fun _ _ _ k => ex_aload_n dX12_init_938 rfl rfl k) ?_
  refine Sx.o (fun _ _ _ k => op_iconst (3 : Int32) dX12_init_939 (by decide) k) ?_
  obtain ⟨h490, e_h490, hb491⟩ := ob2 hb488
  refine sx_newa (t := 3) (fun _ _ _ N c1 c2 c3 kk => ex_newa3 a_long dX12_init_940 c1 c2 c3 kk) e_h490 ?_
  obtain ⟨h492, e_h492, hb493⟩ := ob2 hb491
  refine Sx.p (pV_q e_h492) (fun _ _ _ k => op_putF pX12_92 (fun r hr => by cases hr; rfl) rfl dX12_init_942 e_h492 (fun _ => rfl) (fun _ => rfl) k) ?_
  refine Sx.o (fun _ _ _ k => ex_aload_n dX12_init_945 rfl rfl k) ?_
  refine Sx.o (fun _ _ _ k => op_bipush (13 : Int32) dX12_init_946 (by decide) k) ?_
  obtain ⟨h495, e_h495, hb496⟩ := ob2 hb493
  refine sx_newa (t := 0) (fun _ _ _ N c1 c2 c3 kk => ex_newa0 a_int dX12_init_948 c1 c2 c3 kk) e_h495 ?_
  obtain ⟨h497, e_h497, hb498⟩ := ob2 hb496
  refine Sx.p (pV_q e_h497) (fun _ _ _ k => op_putF pX12_96 (fun r hr => by cases hr; rfl) rfl dX12_init_950 e_h497 (fun _ => rfl) (fun _ => rfl) k) ?_
  refine Sx.o (fun _ _ _ k => ex_aload_n dX12_init_953 rfl rfl k) ?_
  refine Sx.o (fun _ _ _ k => op_iconst (-1 : Int32) dX12_init_954 (by decide) k) ?_
  obtain ⟨h500, e_h500, hb501⟩ := ob2 hb498
  refine Sx.p (pV_q e_h500) (fun _ _ _ k => op_put pX12_99 dX12_init_955 e_h500 (fun _ => rfl) (fun _ => rfl) k) ?_
  refine Sx.o (fun _ _ _ k => ex_aload_n dX12_init_958 rfl rfl k) ?_
  obtain ⟨x503, e_x503, hb504⟩ := ob2 hb501
  refine Sx.o (fun _ _ _ k => op_getR fX12_24 dX12_init_959 e_x503 k) ?_
  refine Sx.o (fun _ _ _ k => op_bipush (114 : Int32) dX12_init_962 (by decide) k) ?_
  refine Sx.o (fun _ _ _ k => op_sipush (200 : Int32) dX12_init_964 (by decide) k) ?_
  obtain ⟨h505, e_h505, hb506⟩ := ob2 hb504
  refine Sx.p (sI_q e_h505) (fun _ _ _ k => op_iast dX12_init_967 e_h505 k) ?_
  refine Sx.o (fun _ _ _ k => ex_aload_n dX12_init_968 rfl rfl k) ?_
  obtain ⟨x508, e_x508, hb509⟩ := ob2 hb506
  refine Sx.o (fun _ _ _ k => op_getR fX12_24 dX12_init_969 e_x508 k) ?_
  refine Sx.o (fun _ _ _ k => op_bipush (117 : Int32) dX12_init_972 (by decide) k) ?_
  refine Sx.o (fun _ _ _ k => op_iconst (-1 : Int32) dX12_init_974 (by decide) k) ?_
  obtain ⟨h510, e_h510, hb511⟩ := ob2 hb509
  refine Sx.p (sI_q e_h510) (fun _ _ _ k => op_iast dX12_init_975 e_h510 k) ?_
  obtain rfl := Option.some.inj hb511
  exact Sx.r (fun _ _ _ k => ex_vret rfl dX12_init_976 k)
theorem Ref_init_o {v0 : Nat} {h : am_H} {r : am_H} (hb : Ref_init v0 h = some r) : isO h 12 v0 = true := by
  unfold Ref_init at hb
  exact (iz hb).1
set_option maxHeartbeats 1000000 in
set_option maxRecDepth 100000 in
noncomputable def Ref_isDigit (v0 : Int32) (h : am_H) : Option Int32 := if v0 < (48 : Int32) then some (0 : Int32) else if (57 : Int32) < v0 then some (0 : Int32) else some (1 : Int32)
set_option maxHeartbeats 1000000 in
set_option maxRecDepth 100000 in
theorem Ref_isDigit_s {v0 : Int32} {h : am_H} {r : Int32} (hb : Ref_isDigit v0 h = some r) : Sx 0 mX12_isDigit 0 (am_en [.int v0] 1) [] h (some (.int r)) h := by
  unfold Ref_isDigit at hb
  show Sx 0 mX12_isDigit 0 [.int v0] [] h (some (.int r)) h
  refine Sx.o (fun _ _ _ k => ex_iload_n dX12_isDigit_0 rfl k) ?_
  refine Sx.o (fun _ _ _ k => op_bipush (48 : Int32) dX12_isDigit_1 (by decide) k) ?_
  refine Sx.b (fun _ _ _ k1 k2 => ex_icmp_lt 16 dX12_isDigit_3 (by decide) k1 k2) (fun q => ?_) (fun q => ?_)
  · have hb1 := ip q hb
    refine Sx.o (fun _ _ _ k => op_iconst (0 : Int32) dX12_isDigit_16 (by decide) k) ?_
    obtain rfl := Option.some.inj hb1
    exact Sx.r (fun _ _ _ k => ex_zret rfl rfl dX12_isDigit_17 k)
  · have hb2 := iq q hb
    refine Sx.o (fun _ _ _ k => ex_iload_n dX12_isDigit_6 rfl k) ?_
    refine Sx.o (fun _ _ _ k => op_bipush (57 : Int32) dX12_isDigit_7 (by decide) k) ?_
    refine Sx.b (fun _ _ _ k1 k2 => ex_icmp_gt 16 dX12_isDigit_9 (by decide) k1 k2) (fun q => ?_) (fun q => ?_)
    · have hb3 := ip q hb2
      refine Sx.o (fun _ _ _ k => op_iconst (0 : Int32) dX12_isDigit_16 (by decide) k) ?_
      obtain rfl := Option.some.inj hb3
      exact Sx.r (fun _ _ _ k => ex_zret rfl rfl dX12_isDigit_17 k)
    · have hb4 := iq q hb2
      refine Sx.o (fun _ _ _ k => op_iconst (1 : Int32) dX12_isDigit_12 (by decide) k) ?_
      refine Sx.o (fun _ _ _ k => ex_goto 17 dX12_isDigit_13 (by decide) k) ?_
      obtain rfl := Option.some.inj hb4
      exact Sx.r (fun _ _ _ k => ex_zret rfl rfl dX12_isDigit_17 k)
set_option maxHeartbeats 1000000 in
set_option maxRecDepth 100000 in
noncomputable def Ref_isSmall (v0 : Int32) (h : am_H) : Option Int32 := if v0 < (97 : Int32) then some (0 : Int32) else if (122 : Int32) < v0 then some (0 : Int32) else some (1 : Int32)
set_option maxHeartbeats 1000000 in
set_option maxRecDepth 100000 in
theorem Ref_isSmall_s {v0 : Int32} {h : am_H} {r : Int32} (hb : Ref_isSmall v0 h = some r) : Sx 0 mX12_isSmall 0 (am_en [.int v0] 1) [] h (some (.int r)) h := by
  unfold Ref_isSmall at hb
  show Sx 0 mX12_isSmall 0 [.int v0] [] h (some (.int r)) h
  refine Sx.o (fun _ _ _ k => ex_iload_n dX12_isSmall_0 rfl k) ?_
  refine Sx.o (fun _ _ _ k => op_bipush (97 : Int32) dX12_isSmall_1 (by decide) k) ?_
  refine Sx.b (fun _ _ _ k1 k2 => ex_icmp_lt 16 dX12_isSmall_3 (by decide) k1 k2) (fun q => ?_) (fun q => ?_)
  · have hb1 := ip q hb
    refine Sx.o (fun _ _ _ k => op_iconst (0 : Int32) dX12_isSmall_16 (by decide) k) ?_
    obtain rfl := Option.some.inj hb1
    exact Sx.r (fun _ _ _ k => ex_zret rfl rfl dX12_isSmall_17 k)
  · have hb2 := iq q hb
    refine Sx.o (fun _ _ _ k => ex_iload_n dX12_isSmall_6 rfl k) ?_
    refine Sx.o (fun _ _ _ k => op_bipush (122 : Int32) dX12_isSmall_7 (by decide) k) ?_
    refine Sx.b (fun _ _ _ k1 k2 => ex_icmp_gt 16 dX12_isSmall_9 (by decide) k1 k2) (fun q => ?_) (fun q => ?_)
    · have hb3 := ip q hb2
      refine Sx.o (fun _ _ _ k => op_iconst (0 : Int32) dX12_isSmall_16 (by decide) k) ?_
      obtain rfl := Option.some.inj hb3
      exact Sx.r (fun _ _ _ k => ex_zret rfl rfl dX12_isSmall_17 k)
    · have hb4 := iq q hb2
      refine Sx.o (fun _ _ _ k => op_iconst (1 : Int32) dX12_isSmall_12 (by decide) k) ?_
      refine Sx.o (fun _ _ _ k => ex_goto 17 dX12_isSmall_13 (by decide) k) ?_
      obtain rfl := Option.some.inj hb4
      exact Sx.r (fun _ _ _ k => ex_zret rfl rfl dX12_isSmall_17 k)
set_option maxHeartbeats 1000000 in
set_option maxRecDepth 100000 in
noncomputable def Ref_lays_15_b (g : (Nat × Int32 × Int32 × Nat × am_H) → Option am_H) (v0 : Nat) (v1 : Int32) (v2 : Int32) (h : am_H) : Option am_H := (gI h 12 v0 17).bind fun x1 => if x1 ≤ v2 then some h else (gR h 12 v0 2).bind fun x5 => (gR h 12 v0 14).bind fun x7 => (aI h 0 x7 v2).bind fun x9 => (sI h x5 (((125 : Int32) + ((400 : Int32) * v1)) + v2) x9).bind fun h11 => (gR h11 12 v0 2).bind fun x14 => (gR h11 12 v0 15).bind fun x16 => (aI h11 0 x16 v2).bind fun x18 => (sI h11 x14 (((2925 : Int32) + ((400 : Int32) * v1)) + v2) x18).bind fun h20 => g (15, v1, (v2 + (1 : Int32)), v0, h20)
set_option maxHeartbeats 1000000 in
set_option maxRecDepth 100000 in
theorem Ref_lays_15_m {g g2 : (Nat × Int32 × Int32 × Nat × am_H) → Option am_H} (hg : ∀ s, Le (g s) (g2 s)) (v0 : Nat) (v1 : Int32) (v2 : Int32) (h : am_H) : Le (Ref_lays_15_b g v0 v1 v2 h) (Ref_lays_15_b g2 v0 v1 v2 h) := by unfold Ref_lays_15_b; exact le_b (le_r _) fun x1 => le_i (le_r _) (le_b (le_r _) fun x5 => le_b (le_r _) fun x7 => le_b (le_r _) fun x9 => le_b (le_r _) fun h11 => le_b (le_r _) fun x14 => le_b (le_r _) fun x16 => le_b (le_r _) fun x18 => le_b (le_r _) fun h20 => hg _)
noncomputable def Ref_lays_15_F (g : (Nat × Int32 × Int32 × Nat × am_H) → Option am_H) (s : (Nat × Int32 × Int32 × Nat × am_H)) : Option am_H := if s.1 = 15 then Ref_lays_15_b g s.2.2.2.1 s.2.1 s.2.2.1 s.2.2.2.2 else none
theorem Ref_lays_15_M : Mn Ref_lays_15_F := fun g g2 hg s => by unfold Ref_lays_15_F; exact le_i (Ref_lays_15_m hg s.2.2.2.1 s.2.1 s.2.2.1 s.2.2.2.2) (le_r _)
def Ref_lays_15_P (s : (Nat × Int32 × Int32 × Nat × am_H)) (r : am_H) : Prop := (s.1 = 15 → Sx 0 mX12_lays 15 [.ref s.2.2.2.1, .int s.2.1, .int s.2.2.1] [] s.2.2.2.2 none r) ∧ True
set_option maxHeartbeats 1000000 in
set_option maxRecDepth 100000 in
theorem Ref_lays_15_t {g : (Nat × Int32 × Int32 × Nat × am_H) → Option am_H} (hg : ∀ s r, g s = some r → Ref_lays_15_P s r) {v0 : Nat} {v1 : Int32} {v2 : Int32} {h : am_H} {r : am_H} (hb : Ref_lays_15_b g v0 v1 v2 h = some r) : Sx 0 mX12_lays 15 [.ref v0, .int v1, .int v2] [] h none r := by
  unfold Ref_lays_15_b at hb
  refine Sx.o (fun _ _ _ k => ex_iload_n dX12_lays_15 rfl k) ?_
  refine Sx.o (fun _ _ _ k => ex_aload_n dX12_lays_16 rfl rfl k) ?_
  obtain ⟨x1, e_x1, hb2⟩ := ob2 hb
  refine Sx.o (fun _ _ _ k => op_getI fX12_154 dX12_lays_17 e_x1 k) ?_
  refine Sx.b (fun _ _ _ k1 k2 => ex_icmp_ge 72 dX12_lays_20 (by decide) k1 k2) (fun q => ?_) (fun q => ?_)
  · have hb3 := ip q hb2
    obtain rfl := Option.some.inj hb3
    exact Sx.r (fun _ _ _ k => ex_vret rfl dX12_lays_72 k)
  · have hb4 := iq q hb2
    refine Sx.o (fun _ _ _ k => ex_aload_n dX12_lays_23 rfl rfl k) ?_
    obtain ⟨x5, e_x5, hb6⟩ := ob2 hb4
    refine Sx.o (fun _ _ _ k => op_getR fX12_24 dX12_lays_24 e_x5 k) ?_
    refine Sx.o (fun _ _ _ k => op_bipush (125 : Int32) dX12_lays_27 (by decide) k) ?_
    refine Sx.o (fun _ _ _ k => op_sipush (400 : Int32) dX12_lays_29 (by decide) k) ?_
    refine Sx.o (fun _ _ _ k => ex_iload_n dX12_lays_32 rfl k) ?_
    refine Sx.o (fun _ _ _ k => ex_imul dX12_lays_33 k) ?_
    refine Sx.o (fun _ _ _ k => ex_iadd dX12_lays_34 k) ?_
    refine Sx.o (fun _ _ _ k => ex_iload_n dX12_lays_35 rfl k) ?_
    refine Sx.o (fun _ _ _ k => ex_iadd dX12_lays_36 k) ?_
    refine Sx.o (fun _ _ _ k => ex_aload_n dX12_lays_37 rfl rfl k) ?_
    obtain ⟨x7, e_x7, hb8⟩ := ob2 hb6
    refine Sx.o (fun _ _ _ k => op_getR fX12_50 dX12_lays_38 e_x7 k) ?_
    refine Sx.o (fun _ _ _ k => ex_iload_n dX12_lays_41 rfl k) ?_
    obtain ⟨x9, e_x9, hb10⟩ := ob2 hb8
    refine Sx.o (fun _ _ _ k => op_iald dX12_lays_42 e_x9 k) ?_
    obtain ⟨h11, e_h11, hb12⟩ := ob2 hb10
    refine Sx.p (sI_q e_h11) (fun _ _ _ k => op_iast dX12_lays_43 e_h11 k) ?_
    refine Sx.o (fun _ _ _ k => ex_aload_n dX12_lays_44 rfl rfl k) ?_
    obtain ⟨x14, e_x14, hb15⟩ := ob2 hb12
    refine Sx.o (fun _ _ _ k => op_getR fX12_24 dX12_lays_45 e_x14 k) ?_
    refine Sx.o (fun _ _ _ k => op_sipush (2925 : Int32) dX12_lays_48 (by decide) k) ?_
    refine Sx.o (fun _ _ _ k => op_sipush (400 : Int32) dX12_lays_51 (by decide) k) ?_
    refine Sx.o (fun _ _ _ k => ex_iload_n dX12_lays_54 rfl k) ?_
    refine Sx.o (fun _ _ _ k => ex_imul dX12_lays_55 k) ?_
    refine Sx.o (fun _ _ _ k => ex_iadd dX12_lays_56 k) ?_
    refine Sx.o (fun _ _ _ k => ex_iload_n dX12_lays_57 rfl k) ?_
    refine Sx.o (fun _ _ _ k => ex_iadd dX12_lays_58 k) ?_
    refine Sx.o (fun _ _ _ k => ex_aload_n dX12_lays_59 rfl rfl k) ?_
    obtain ⟨x16, e_x16, hb17⟩ := ob2 hb15
    refine Sx.o (fun _ _ _ k => op_getR fX12_53 dX12_lays_60 e_x16 k) ?_
    refine Sx.o (fun _ _ _ k => ex_iload_n dX12_lays_63 rfl k) ?_
    obtain ⟨x18, e_x18, hb19⟩ := ob2 hb17
    refine Sx.o (fun _ _ _ k => op_iald dX12_lays_64 e_x18 k) ?_
    obtain ⟨h20, e_h20, hb21⟩ := ob2 hb19
    refine Sx.p (sI_q e_h20) (fun _ _ _ k => op_iast dX12_lays_65 e_h20 k) ?_
    refine Sx.o (L' := [.ref v0, .int v1, .int (v2 + (1 : Int32))]) (fun _ _ _ k => op_iinc (1 : Int32) dX12_lays_66 (by decide) rfl (by decide) k) ?_
    refine Sx.o (fun _ _ _ k => ex_goto 15 dX12_lays_69 (by decide) k) ?_
    exact (hg _ _ hb21).1 rfl
theorem Ref_lays_15_T : ∀ s r, fx Ref_lays_15_F Ref_lays_15_M s = some r → Ref_lays_15_P s r := fx_ind Ref_lays_15_M Ref_lays_15_P (fun g hg s r hb => by
  unfold Ref_lays_15_F at hb
  exact ⟨fun q => Ref_lays_15_t hg (ip q hb), trivial⟩)
set_option maxHeartbeats 1000000 in
set_option maxRecDepth 100000 in
theorem Ref_lays_15_r {g : (Nat × Int32 × Int32 × Nat × am_H) → Option am_H} (hg : ∀ s r, g s = some r → Eqs s.2.2.2.2 r) {v0 : Nat} {v1 : Int32} {v2 : Int32} {h : am_H} {r : am_H} (hb : Ref_lays_15_b g v0 v1 v2 h = some r) : Eqs h r := by
  unfold Ref_lays_15_b at hb
  have w0 := Eqs.rf h
  obtain ⟨x1, e_x1, hb2⟩ := ob2 hb
  by_cases q : x1 ≤ v2
  · have hb3 := ip q hb2
    obtain rfl := Option.some.inj hb3
    exact w0
  · have hb4 := iq q hb2
    obtain ⟨x5, e_x5, hb6⟩ := ob2 hb4
    obtain ⟨x7, e_x7, hb8⟩ := ob2 hb6
    obtain ⟨x9, e_x9, hb10⟩ := ob2 hb8
    obtain ⟨h11, e_h11, hb12⟩ := ob2 hb10
    have w13 := w0.tr (sI_q e_h11)
    obtain ⟨x14, e_x14, hb15⟩ := ob2 hb12
    obtain ⟨x16, e_x16, hb17⟩ := ob2 hb15
    obtain ⟨x18, e_x18, hb19⟩ := ob2 hb17
    obtain ⟨h20, e_h20, hb21⟩ := ob2 hb19
    have w22 := w13.tr (sI_q e_h20)
    exact w22.tr (hg _ _ hb21)
theorem Ref_lays_15_Q : ∀ s r, fx Ref_lays_15_F Ref_lays_15_M s = some r → Eqs s.2.2.2.2 r := fx_ind Ref_lays_15_M (fun s r => Eqs s.2.2.2.2 r) (fun g hg s r hb => by
  unfold Ref_lays_15_F at hb
  by_cases q0 : s.1 = 15
  · exact Ref_lays_15_r hg (ip q0 hb)
  · have hb0 := iq q0 hb
    exact nomatch hb0)
noncomputable def Ref_lays_15 (v0 : Nat) (v1 : Int32) (v2 : Int32) (h : am_H) : Option am_H := fx Ref_lays_15_F Ref_lays_15_M (15, v1, v2, v0, h)
set_option maxHeartbeats 1000000 in
set_option maxRecDepth 100000 in
theorem Ref_lays_15_e (v0 : Nat) (v1 : Int32) (v2 : Int32) (h : am_H) : Ref_lays_15 v0 v1 v2 h = ((gI h 12 v0 17).bind fun x1 => if x1 ≤ v2 then some h else (gR h 12 v0 2).bind fun x5 => (gR h 12 v0 14).bind fun x7 => (aI h 0 x7 v2).bind fun x9 => (sI h x5 (((125 : Int32) + ((400 : Int32) * v1)) + v2) x9).bind fun h11 => (gR h11 12 v0 2).bind fun x14 => (gR h11 12 v0 15).bind fun x16 => (aI h11 0 x16 v2).bind fun x18 => (sI h11 x14 (((2925 : Int32) + ((400 : Int32) * v1)) + v2) x18).bind fun h20 => Ref_lays_15 v0 v1 (v2 + (1 : Int32)) h20) := (fx_eq Ref_lays_15_M (15, v1, v2, v0, h)).trans (if_pos rfl)
theorem Ref_lays_15_q {v0 : Nat} {v1 : Int32} {v2 : Int32} {h : am_H} {r : am_H} (hb : Ref_lays_15 v0 v1 v2 h = some r) : Eqs h r := Ref_lays_15_Q _ _ hb
theorem Ref_lays_15_s {v0 : Nat} {v1 : Int32} {v2 : Int32} {h : am_H} {r : am_H} (hb : Ref_lays_15 v0 v1 v2 h = some r) : Sx 0 mX12_lays 15 [.ref v0, .int v1, .int v2] [] h none r := (Ref_lays_15_T _ _ hb).1 rfl
set_option maxHeartbeats 1000000 in
set_option maxRecDepth 100000 in
noncomputable def Ref_lays (v0 : Nat) (v1 : Int32) (h : am_H) : Option am_H := if isO h 12 v0 = true then (gR h 12 v0 2).bind fun x23 => (gI h 12 v0 17).bind fun x25 => (sI h x23 ((118 : Int32) + v1) x25).bind fun h27 => Ref_lays_15 v0 v1 (0 : Int32) h27 else none
set_option maxHeartbeats 1000000 in
set_option maxRecDepth 100000 in
theorem Ref_lays_s {v0 : Nat} {v1 : Int32} {h : am_H} {r : am_H} (hb : Ref_lays v0 v1 h = some r) : Sx 0 mX12_lays 0 (am_en [.ref v0, .int v1] 3) [] h none r := by
  unfold Ref_lays at hb
  have hb := (iz hb).2
  show Sx 0 mX12_lays 0 [.ref v0, .int v1, .retAddr 0] [] h none r
  refine Sx.o (fun _ _ _ k => ex_aload_n dX12_lays_0 rfl rfl k) ?_
  obtain ⟨x23, e_x23, hb24⟩ := ob2 hb
  refine Sx.o (fun _ _ _ k => op_getR fX12_24 dX12_lays_1 e_x23 k) ?_
  refine Sx.o (fun _ _ _ k => op_bipush (118 : Int32) dX12_lays_4 (by decide) k) ?_
  refine Sx.o (fun _ _ _ k => ex_iload_n dX12_lays_6 rfl k) ?_
  refine Sx.o (fun _ _ _ k => ex_iadd dX12_lays_7 k) ?_
  refine Sx.o (fun _ _ _ k => ex_aload_n dX12_lays_8 rfl rfl k) ?_
  obtain ⟨x25, e_x25, hb26⟩ := ob2 hb24
  refine Sx.o (fun _ _ _ k => op_getI fX12_154 dX12_lays_9 e_x25 k) ?_
  obtain ⟨h27, e_h27, hb28⟩ := ob2 hb26
  refine Sx.p (sI_q e_h27) (fun _ _ _ k => op_iast dX12_lays_12 e_h27 k) ?_
  refine Sx.o (fun _ _ _ k => op_iconst (0 : Int32) dX12_lays_13 (by decide) k) ?_
  refine Sx.o (L' := [.ref v0, .int v1, .int (0 : Int32)]) (fun _ _ _ k => ex_istore_n dX12_lays_14 (by decide) k) ?_
  exact Ref_lays_15_s hb28
set_option maxHeartbeats 1000000 in
set_option maxRecDepth 100000 in
theorem Ref_lays_q {v0 : Nat} {v1 : Int32} {h : am_H} {r : am_H} (hb : Ref_lays v0 v1 h = some r) : Eqs h r := by
  unfold Ref_lays at hb
  have hb := (iz hb).2
  have w0 := Eqs.rf h
  obtain ⟨x23, e_x23, hb24⟩ := ob2 hb
  obtain ⟨x25, e_x25, hb26⟩ := ob2 hb24
  obtain ⟨h27, e_h27, hb28⟩ := ob2 hb26
  have w29 := w0.tr (sI_q e_h27)
  exact w29.tr (Ref_lays_15_q hb28)
theorem Ref_lays_o {v0 : Nat} {v1 : Int32} {h : am_H} {r : am_H} (hb : Ref_lays v0 v1 h = some r) : isO h 12 v0 = true := by
  unfold Ref_lays at hb
  exact (iz hb).1
set_option maxHeartbeats 1000000 in
set_option maxRecDepth 100000 in
noncomputable def Ref_takes0_25 (v0 : Nat) (s0 : Int32) (h : am_H) : Option (Int32 × am_H) := if s0 = (0 : Int32) then (nrZ s0).bind fun u3 => some (s0, h) else (gI h 12 v0 18).bind fun x5 => (pV h 12 v0 18 (.int (x5 + (1 : Int32)))).bind fun h7 => (nrZ s0).bind fun u10 => some (s0, h7)
set_option maxHeartbeats 1000000 in
set_option maxRecDepth 100000 in
theorem Ref_takes0_25_s {v0 : Nat} {s0 : Int32} {h : am_H} {r : (Int32 × am_H)} (hb : Ref_takes0_25 v0 s0 h = some r) : Sx 1 mX12_takes0 25 [.ref v0, .retAddr 0, .retAddr 0] [.int s0] h (some (.int r.1)) r.2 := by
  unfold Ref_takes0_25 at hb
  refine Sx.o (L' := [.ref v0, .retAddr 0, .int s0]) (fun _ _ _ k => ex_istore_n dX12_takes0_25 (by decide) k) ?_
  refine Sx.o (fun _ _ _ k => ex_iload_n dX12_takes0_26 rfl k) ?_
  refine Sx.b (fun _ _ _ k1 k2 => ex_if_eq 40 dX12_takes0_27 (by decide) k1 k2) (fun q => ?_) (fun q => ?_)
  · have hb1 := ip q hb
    refine Sx.o (fun _ _ _ k => ex_iload_n dX12_takes0_40 rfl k) ?_
    obtain ⟨u3, e_u3, hb4⟩ := ob2 hb1
    obtain rfl := Option.some.inj hb4
    exact Sx.r (fun _ _ _ k => ex_zret rfl (nrZ_n e_u3) dX12_takes0_41 k)
  · have hb2 := iq q hb
    refine Sx.o (fun _ _ _ k => ex_aload_n dX12_takes0_30 rfl rfl k) ?_
    refine Sx.o (fun _ _ _ k => ex_dup dX12_takes0_31 rfl k) ?_
    obtain ⟨x5, e_x5, hb6⟩ := ob2 hb2
    refine Sx.o (fun _ _ _ k => op_getI fX12_174 dX12_takes0_32 e_x5 k) ?_
    refine Sx.o (fun _ _ _ k => op_iconst (1 : Int32) dX12_takes0_35 (by decide) k) ?_
    refine Sx.o (fun _ _ _ k => ex_iadd dX12_takes0_36 k) ?_
    obtain ⟨h7, e_h7, hb8⟩ := ob2 hb6
    refine Sx.p (pV_q e_h7) (fun _ _ _ k => op_put pX12_174 dX12_takes0_37 e_h7 (fun _ => rfl) (fun _ => rfl) k) ?_
    refine Sx.o (fun _ _ _ k => ex_iload_n dX12_takes0_40 rfl k) ?_
    obtain ⟨u10, e_u10, hb11⟩ := ob2 hb8
    obtain rfl := Option.some.inj hb11
    exact Sx.r (fun _ _ _ k => ex_zret rfl (nrZ_n e_u10) dX12_takes0_41 k)
set_option maxHeartbeats 1000000 in
set_option maxRecDepth 100000 in
theorem Ref_takes0_25_q {v0 : Nat} {s0 : Int32} {h : am_H} {r : (Int32 × am_H)} (hb : Ref_takes0_25 v0 s0 h = some r) : Eqs h r.2 := by
  unfold Ref_takes0_25 at hb
  have w0 := Eqs.rf h
  by_cases q : s0 = (0 : Int32)
  · have hb1 := ip q hb
    obtain ⟨u3, e_u3, hb4⟩ := ob2 hb1
    obtain rfl := Option.some.inj hb4
    exact w0
  · have hb2 := iq q hb
    obtain ⟨x5, e_x5, hb6⟩ := ob2 hb2
    obtain ⟨h7, e_h7, hb8⟩ := ob2 hb6
    have w9 := w0.tr (pV_q e_h7)
    obtain ⟨u10, e_u10, hb11⟩ := ob2 hb8
    obtain rfl := Option.some.inj hb11
    exact w9
set_option maxHeartbeats 1000000 in
set_option maxRecDepth 100000 in
noncomputable def Ref_takes0_24 (v0 : Nat) (h : am_H) : Option (Int32 × am_H) := Ref_takes0_25 v0 (0 : Int32) h
set_option maxHeartbeats 1000000 in
set_option maxRecDepth 100000 in
theorem Ref_takes0_24_s {v0 : Nat} {h : am_H} {r : (Int32 × am_H)} (hb : Ref_takes0_24 v0 h = some r) : Sx 1 mX12_takes0 24 [.ref v0, .retAddr 0, .retAddr 0] [] h (some (.int r.1)) r.2 := by
  unfold Ref_takes0_24 at hb
  refine Sx.o (fun _ _ _ k => op_iconst (0 : Int32) dX12_takes0_24 (by decide) k) ?_
  exact Ref_takes0_25_s hb
set_option maxHeartbeats 1000000 in
set_option maxRecDepth 100000 in
theorem Ref_takes0_24_q {v0 : Nat} {h : am_H} {r : (Int32 × am_H)} (hb : Ref_takes0_24 v0 h = some r) : Eqs h r.2 := by
  unfold Ref_takes0_24 at hb
  have w0 := Eqs.rf h
  exact w0.tr (Ref_takes0_25_q hb)
set_option maxHeartbeats 1000000 in
set_option maxRecDepth 100000 in
noncomputable def Ref_takes0 (v0 : Nat) (v1 : Int32) (h : am_H) : Option (Int32 × am_H) := if isO h 12 v0 = true then (Ref_fine v0 h).bind fun x12 => if x12 = (0 : Int32) then Ref_takes0_24 v0 h else (gR h 12 v0 14).bind fun x16 => (gI h 12 v0 18).bind fun x18 => (aI h 0 x16 x18).bind fun x20 => if x20 = v1 then Ref_takes0_25 v0 (1 : Int32) h else Ref_takes0_24 v0 h else none
set_option maxHeartbeats 1000000 in
set_option maxRecDepth 100000 in
theorem Ref_takes0_s {v0 : Nat} {v1 : Int32} {h : am_H} {r : (Int32 × am_H)} (hb : Ref_takes0 v0 v1 h = some r) : Sx 1 mX12_takes0 0 (am_en [.ref v0, .int v1] 3) [] h (some (.int r.1)) r.2 := by
  unfold Ref_takes0 at hb
  have hb := (iz hb).2
  show Sx 1 mX12_takes0 0 [.ref v0, .int v1, .retAddr 0] [] h (some (.int r.1)) r.2
  refine Sx.o (fun _ _ _ k => ex_aload_n dX12_takes0_0 rfl rfl k) ?_
  obtain ⟨x12, e_x12, hb13⟩ := ob2 hb
  refine sx_callV (dc := 0) (as := []) (stq := [.int x12]) (by omega) dX12_takes0_1 MX12_fine kX12_171 iX12_fine sX12_fine rfl rfl (Ref_fine_o e_x12) rfl rfl (Nat.le_of_ble_eq_true rfl) (Nat.le_of_ble_eq_true rfl) (Ref_fine_s e_x12) rfl ?_
  refine Sx.b (fun _ _ _ k1 k2 => ex_if_eq 24 dX12_takes0_4 (by decide) k1 k2) (fun q => ?_) (fun q => ?_)
  · have hb14 := ip q hb13
    refine Sx.fg [true, false, true] ?_
    exact Ref_takes0_24_s hb14
  · have hb15 := iq q hb13
    refine Sx.o (fun _ _ _ k => ex_aload_n dX12_takes0_7 rfl rfl k) ?_
    obtain ⟨x16, e_x16, hb17⟩ := ob2 hb15
    refine Sx.o (fun _ _ _ k => op_getR fX12_50 dX12_takes0_8 e_x16 k) ?_
    refine Sx.o (fun _ _ _ k => ex_aload_n dX12_takes0_11 rfl rfl k) ?_
    obtain ⟨x18, e_x18, hb19⟩ := ob2 hb17
    refine Sx.o (fun _ _ _ k => op_getI fX12_174 dX12_takes0_12 e_x18 k) ?_
    obtain ⟨x20, e_x20, hb21⟩ := ob2 hb19
    refine Sx.o (fun _ _ _ k => op_iald dX12_takes0_15 e_x20 k) ?_
    refine Sx.o (fun _ _ _ k => ex_iload_n dX12_takes0_16 rfl k) ?_
    refine Sx.bn (fun _ _ _ k1 k2 => ex_icmp_ne 24 dX12_takes0_17 (by decide) k1 k2) (fun q => ?_) (fun q => ?_)
    · have hb22 := iq q hb21
      refine Sx.fg [true, false, true] ?_
      exact Ref_takes0_24_s hb22
    · have hb23 := ip q hb21
      refine Sx.o (fun _ _ _ k => op_iconst (1 : Int32) dX12_takes0_20 (by decide) k) ?_
      refine Sx.o (fun _ _ _ k => ex_goto 25 dX12_takes0_21 (by decide) k) ?_
      refine Sx.fg [true, false, true] ?_
      exact Ref_takes0_25_s hb23
set_option maxHeartbeats 1000000 in
set_option maxRecDepth 100000 in
theorem Ref_takes0_q {v0 : Nat} {v1 : Int32} {h : am_H} {r : (Int32 × am_H)} (hb : Ref_takes0 v0 v1 h = some r) : Eqs h r.2 := by
  unfold Ref_takes0 at hb
  have hb := (iz hb).2
  have w0 := Eqs.rf h
  obtain ⟨x12, e_x12, hb13⟩ := ob2 hb
  by_cases q : x12 = (0 : Int32)
  · have hb14 := ip q hb13
    exact w0.tr (Ref_takes0_24_q hb14)
  · have hb15 := iq q hb13
    obtain ⟨x16, e_x16, hb17⟩ := ob2 hb15
    obtain ⟨x18, e_x18, hb19⟩ := ob2 hb17
    obtain ⟨x20, e_x20, hb21⟩ := ob2 hb19
    by_cases q : x20 = v1
    · have hb23 := ip q hb21
      exact w0.tr (Ref_takes0_25_q hb23)
    · have hb22 := iq q hb21
      exact w0.tr (Ref_takes0_24_q hb22)
theorem Ref_takes0_o {v0 : Nat} {v1 : Int32} {h : am_H} {r : (Int32 × am_H)} (hb : Ref_takes0 v0 v1 h = some r) : isO h 12 v0 = true := by
  unfold Ref_takes0 at hb
  exact (iz hb).1
set_option maxHeartbeats 1000000 in
set_option maxRecDepth 100000 in
noncomputable def Ref_must (v0 : Nat) (v1 : Int32) (h : am_H) : Option am_H := if isO h 12 v0 = true then (Ref_takes0 v0 v1 h).bind fun r1 => if r1.1 = (0 : Int32) then (Ref_faults v0 r1.2).bind fun h6 => some h6 else some r1.2 else none
set_option maxHeartbeats 1000000 in
set_option maxRecDepth 100000 in
theorem Ref_must_s {v0 : Nat} {v1 : Int32} {h : am_H} {r : am_H} (hb : Ref_must v0 v1 h = some r) : Sx 2 mX12_must 0 (am_en [.ref v0, .int v1] 2) [] h none r := by
  unfold Ref_must at hb
  have hb := (iz hb).2
  show Sx 2 mX12_must 0 [.ref v0, .int v1] [] h none r
  refine Sx.o (fun _ _ _ k => ex_aload_n dX12_must_0 rfl rfl k) ?_
  refine Sx.o (fun _ _ _ k => ex_iload_n dX12_must_1 rfl k) ?_
  obtain ⟨r1, e_r1, hb2⟩ := ob2 hb
  refine sx_callV (dc := 1) (as := [.int v1]) (stq := [.int r1.1]) (by omega) dX12_must_2 MX12_takes0 kX12_177 iX12_takes0 sX12_takes0 rfl rfl (Ref_takes0_o e_r1) rfl rfl (Nat.le_of_ble_eq_true rfl) (Nat.le_of_ble_eq_true rfl) (Ref_takes0_s e_r1) rfl ?_
  refine Sx.bn (fun _ _ _ k1 k2 => ex_if_ne 12 dX12_must_5 (by decide) k1 k2) (fun q => ?_) (fun q => ?_)
  · have hb4 := iq q hb2
    obtain rfl := Option.some.inj hb4
    exact Sx.r (fun _ _ _ k => ex_vret rfl dX12_must_12 k)
  · have hb5 := ip q hb2
    refine Sx.o (fun _ _ _ k => ex_aload_n dX12_must_8 rfl rfl k) ?_
    obtain ⟨h6, e_h6, hb7⟩ := ob2 hb5
    refine sx_callV (dc := 1) (as := []) (stq := []) (by omega) dX12_must_9 MX12_faults kX12_180 iX12_faults sX12_faults rfl rfl (Ref_faults_o e_h6) rfl rfl (Nat.le_of_ble_eq_true rfl) (Nat.le_of_ble_eq_true rfl) (Ref_faults_s e_h6) rfl ?_
    obtain rfl := Option.some.inj hb7
    exact Sx.r (fun _ _ _ k => ex_vret rfl dX12_must_12 k)
set_option maxHeartbeats 1000000 in
set_option maxRecDepth 100000 in
theorem Ref_must_q {v0 : Nat} {v1 : Int32} {h : am_H} {r : am_H} (hb : Ref_must v0 v1 h = some r) : Eqs h r := by
  unfold Ref_must at hb
  have hb := (iz hb).2
  have w0 := Eqs.rf h
  obtain ⟨r1, e_r1, hb2⟩ := ob2 hb
  have w3 := w0.tr (Ref_takes0_q e_r1)
  by_cases q : r1.1 = (0 : Int32)
  · have hb5 := ip q hb2
    obtain ⟨h6, e_h6, hb7⟩ := ob2 hb5
    have w8 := w3.tr (Ref_faults_q e_h6)
    obtain rfl := Option.some.inj hb7
    exact w8
  · have hb4 := iq q hb2
    obtain rfl := Option.some.inj hb4
    exact w3
theorem Ref_must_o {v0 : Nat} {v1 : Int32} {h : am_H} {r : am_H} (hb : Ref_must v0 v1 h = some r) : isO h 12 v0 = true := by
  unfold Ref_must at hb
  exact (iz hb).1
set_option maxHeartbeats 1000000 in
set_option maxRecDepth 100000 in
noncomputable def Ref_leaf_13 (v0 : Nat) (h : am_H) : Option am_H := (gI h 12 v0 19).bind fun x1 => (pV h 12 v0 19 (.int (x1 + (1 : Int32)))).bind fun h3 => (Ref_fine v0 h3).bind fun x6 => if x6 = (0 : Int32) then some h3 else (gI h3 12 v0 18).bind fun x10 => (pV h3 12 v0 18 (.int (x10 + (1 : Int32)))).bind fun h12 => some h12
set_option maxHeartbeats 1000000 in
set_option maxRecDepth 100000 in
theorem Ref_leaf_13_s {v0 : Nat} {h : am_H} {r : am_H} (hb : Ref_leaf_13 v0 h = some r) : Sx 2 mX12_leaf 13 [.ref v0] [] h none r := by
  unfold Ref_leaf_13 at hb
  refine Sx.o (fun _ _ _ k => ex_aload_n dX12_leaf_13 rfl rfl k) ?_
  refine Sx.o (fun _ _ _ k => ex_dup dX12_leaf_14 rfl k) ?_
  obtain ⟨x1, e_x1, hb2⟩ := ob2 hb
  refine Sx.o (fun _ _ _ k => op_getI fX12_183 dX12_leaf_15 e_x1 k) ?_
  refine Sx.o (fun _ _ _ k => op_iconst (1 : Int32) dX12_leaf_18 (by decide) k) ?_
  refine Sx.o (fun _ _ _ k => ex_iadd dX12_leaf_19 k) ?_
  obtain ⟨h3, e_h3, hb4⟩ := ob2 hb2
  refine Sx.p (pV_q e_h3) (fun _ _ _ k => op_put pX12_183 dX12_leaf_20 e_h3 (fun _ => rfl) (fun _ => rfl) k) ?_
  refine Sx.o (fun _ _ _ k => ex_aload_n dX12_leaf_23 rfl rfl k) ?_
  obtain ⟨x6, e_x6, hb7⟩ := ob2 hb4
  refine sx_callV (dc := 0) (as := []) (stq := [.int x6]) (by omega) dX12_leaf_24 MX12_fine kX12_171 iX12_fine sX12_fine rfl rfl (Ref_fine_o e_x6) rfl rfl (Nat.le_of_ble_eq_true rfl) (Nat.le_of_ble_eq_true rfl) (Ref_fine_s e_x6) rfl ?_
  refine Sx.b (fun _ _ _ k1 k2 => ex_if_eq 40 dX12_leaf_27 (by decide) k1 k2) (fun q => ?_) (fun q => ?_)
  · have hb8 := ip q hb7
    obtain rfl := Option.some.inj hb8
    exact Sx.r (fun _ _ _ k => ex_vret rfl dX12_leaf_40 k)
  · have hb9 := iq q hb7
    refine Sx.o (fun _ _ _ k => ex_aload_n dX12_leaf_30 rfl rfl k) ?_
    refine Sx.o (fun _ _ _ k => ex_dup dX12_leaf_31 rfl k) ?_
    obtain ⟨x10, e_x10, hb11⟩ := ob2 hb9
    refine Sx.o (fun _ _ _ k => op_getI fX12_174 dX12_leaf_32 e_x10 k) ?_
    refine Sx.o (fun _ _ _ k => op_iconst (1 : Int32) dX12_leaf_35 (by decide) k) ?_
    refine Sx.o (fun _ _ _ k => ex_iadd dX12_leaf_36 k) ?_
    obtain ⟨h12, e_h12, hb13⟩ := ob2 hb11
    refine Sx.p (pV_q e_h12) (fun _ _ _ k => op_put pX12_174 dX12_leaf_37 e_h12 (fun _ => rfl) (fun _ => rfl) k) ?_
    obtain rfl := Option.some.inj hb13
    exact Sx.r (fun _ _ _ k => ex_vret rfl dX12_leaf_40 k)
set_option maxHeartbeats 1000000 in
set_option maxRecDepth 100000 in
theorem Ref_leaf_13_q {v0 : Nat} {h : am_H} {r : am_H} (hb : Ref_leaf_13 v0 h = some r) : Eqs h r := by
  unfold Ref_leaf_13 at hb
  have w0 := Eqs.rf h
  obtain ⟨x1, e_x1, hb2⟩ := ob2 hb
  obtain ⟨h3, e_h3, hb4⟩ := ob2 hb2
  have w5 := w0.tr (pV_q e_h3)
  obtain ⟨x6, e_x6, hb7⟩ := ob2 hb4
  by_cases q : x6 = (0 : Int32)
  · have hb8 := ip q hb7
    obtain rfl := Option.some.inj hb8
    exact w5
  · have hb9 := iq q hb7
    obtain ⟨x10, e_x10, hb11⟩ := ob2 hb9
    obtain ⟨h12, e_h12, hb13⟩ := ob2 hb11
    have w14 := w5.tr (pV_q e_h12)
    obtain rfl := Option.some.inj hb13
    exact w14
set_option maxHeartbeats 1000000 in
set_option maxRecDepth 100000 in
noncomputable def Ref_leaf (v0 : Nat) (h : am_H) : Option am_H := if isO h 12 v0 = true then (gI h 12 v0 19).bind fun x15 => if x15 = (50 : Int32) then (Ref_faults v0 h).bind fun h19 => Ref_leaf_13 v0 h19 else Ref_leaf_13 v0 h else none
set_option maxHeartbeats 1000000 in
set_option maxRecDepth 100000 in
theorem Ref_leaf_s {v0 : Nat} {h : am_H} {r : am_H} (hb : Ref_leaf v0 h = some r) : Sx 2 mX12_leaf 0 (am_en [.ref v0] 1) [] h none r := by
  unfold Ref_leaf at hb
  have hb := (iz hb).2
  show Sx 2 mX12_leaf 0 [.ref v0] [] h none r
  refine Sx.o (fun _ _ _ k => ex_aload_n dX12_leaf_0 rfl rfl k) ?_
  obtain ⟨x15, e_x15, hb16⟩ := ob2 hb
  refine Sx.o (fun _ _ _ k => op_getI fX12_183 dX12_leaf_1 e_x15 k) ?_
  refine Sx.o (fun _ _ _ k => op_bipush (50 : Int32) dX12_leaf_4 (by decide) k) ?_
  refine Sx.bn (fun _ _ _ k1 k2 => ex_icmp_ne 13 dX12_leaf_6 (by decide) k1 k2) (fun q => ?_) (fun q => ?_)
  · have hb17 := iq q hb16
    exact Ref_leaf_13_s hb17
  · have hb18 := ip q hb16
    refine Sx.o (fun _ _ _ k => ex_aload_n dX12_leaf_9 rfl rfl k) ?_
    obtain ⟨h19, e_h19, hb20⟩ := ob2 hb18
    refine sx_callV (dc := 1) (as := []) (stq := []) (by omega) dX12_leaf_10 MX12_faults kX12_180 iX12_faults sX12_faults rfl rfl (Ref_faults_o e_h19) rfl rfl (Nat.le_of_ble_eq_true rfl) (Nat.le_of_ble_eq_true rfl) (Ref_faults_s e_h19) rfl ?_
    exact Ref_leaf_13_s hb20
set_option maxHeartbeats 1000000 in
set_option maxRecDepth 100000 in
theorem Ref_leaf_q {v0 : Nat} {h : am_H} {r : am_H} (hb : Ref_leaf v0 h = some r) : Eqs h r := by
  unfold Ref_leaf at hb
  have hb := (iz hb).2
  have w0 := Eqs.rf h
  obtain ⟨x15, e_x15, hb16⟩ := ob2 hb
  by_cases q : x15 = (50 : Int32)
  · have hb18 := ip q hb16
    obtain ⟨h19, e_h19, hb20⟩ := ob2 hb18
    have w21 := w0.tr (Ref_faults_q e_h19)
    exact w21.tr (Ref_leaf_13_q hb20)
  · have hb17 := iq q hb16
    exact w0.tr (Ref_leaf_13_q hb17)
theorem Ref_leaf_o {v0 : Nat} {h : am_H} {r : am_H} (hb : Ref_leaf v0 h = some r) : isO h 12 v0 = true := by
  unfold Ref_leaf at hb
  exact (iz hb).1
set_option maxHeartbeats 1000000 in
set_option maxRecDepth 100000 in
noncomputable def Ref_mustNumber_42 (v0 : Nat) (h : am_H) : Option am_H := (Ref_fine v0 h).bind fun x1 => if x1 = (0 : Int32) then some h else (gI h 12 v0 18).bind fun x5 => (pV h 12 v0 18 (.int (x5 + (1 : Int32)))).bind fun h7 => some h7
set_option maxHeartbeats 1000000 in
set_option maxRecDepth 100000 in
theorem Ref_mustNumber_42_s {v0 : Nat} {h : am_H} {r : am_H} (hb : Ref_mustNumber_42 v0 h = some r) : Sx 2 mX12_mustNumber 42 [.ref v0, .retAddr 0, .retAddr 0] [] h none r := by
  unfold Ref_mustNumber_42 at hb
  refine Sx.o (fun _ _ _ k => ex_aload_n dX12_mustNumber_42 rfl rfl k) ?_
  obtain ⟨x1, e_x1, hb2⟩ := ob2 hb
  refine sx_callV (dc := 0) (as := []) (stq := [.int x1]) (by omega) dX12_mustNumber_43 MX12_fine kX12_171 iX12_fine sX12_fine rfl rfl (Ref_fine_o e_x1) rfl rfl (Nat.le_of_ble_eq_true rfl) (Nat.le_of_ble_eq_true rfl) (Ref_fine_s e_x1) rfl ?_
  refine Sx.b (fun _ _ _ k1 k2 => ex_if_eq 59 dX12_mustNumber_46 (by decide) k1 k2) (fun q => ?_) (fun q => ?_)
  · have hb3 := ip q hb2
    obtain rfl := Option.some.inj hb3
    exact Sx.r (fun _ _ _ k => ex_vret rfl dX12_mustNumber_59 k)
  · have hb4 := iq q hb2
    refine Sx.o (fun _ _ _ k => ex_aload_n dX12_mustNumber_49 rfl rfl k) ?_
    refine Sx.o (fun _ _ _ k => ex_dup dX12_mustNumber_50 rfl k) ?_
    obtain ⟨x5, e_x5, hb6⟩ := ob2 hb4
    refine Sx.o (fun _ _ _ k => op_getI fX12_174 dX12_mustNumber_51 e_x5 k) ?_
    refine Sx.o (fun _ _ _ k => op_iconst (1 : Int32) dX12_mustNumber_54 (by decide) k) ?_
    refine Sx.o (fun _ _ _ k => ex_iadd dX12_mustNumber_55 k) ?_
    obtain ⟨h7, e_h7, hb8⟩ := ob2 hb6
    refine Sx.p (pV_q e_h7) (fun _ _ _ k => op_put pX12_174 dX12_mustNumber_56 e_h7 (fun _ => rfl) (fun _ => rfl) k) ?_
    obtain rfl := Option.some.inj hb8
    exact Sx.r (fun _ _ _ k => ex_vret rfl dX12_mustNumber_59 k)
set_option maxHeartbeats 1000000 in
set_option maxRecDepth 100000 in
theorem Ref_mustNumber_42_q {v0 : Nat} {h : am_H} {r : am_H} (hb : Ref_mustNumber_42 v0 h = some r) : Eqs h r := by
  unfold Ref_mustNumber_42 at hb
  have w0 := Eqs.rf h
  obtain ⟨x1, e_x1, hb2⟩ := ob2 hb
  by_cases q : x1 = (0 : Int32)
  · have hb3 := ip q hb2
    obtain rfl := Option.some.inj hb3
    exact w0
  · have hb4 := iq q hb2
    obtain ⟨x5, e_x5, hb6⟩ := ob2 hb4
    obtain ⟨h7, e_h7, hb8⟩ := ob2 hb6
    have w9 := w0.tr (pV_q e_h7)
    obtain rfl := Option.some.inj hb8
    exact w9
set_option maxHeartbeats 1000000 in
set_option maxRecDepth 100000 in
noncomputable def Ref_mustNumber_38 (v0 : Nat) (h : am_H) : Option am_H := (Ref_faults v0 h).bind fun h10 => Ref_mustNumber_42 v0 h10
set_option maxHeartbeats 1000000 in
set_option maxRecDepth 100000 in
theorem Ref_mustNumber_38_s {v0 : Nat} {h : am_H} {r : am_H} (hb : Ref_mustNumber_38 v0 h = some r) : Sx 2 mX12_mustNumber 38 [.ref v0, .retAddr 0, .retAddr 0] [] h none r := by
  unfold Ref_mustNumber_38 at hb
  refine Sx.o (fun _ _ _ k => ex_aload_n dX12_mustNumber_38 rfl rfl k) ?_
  obtain ⟨h10, e_h10, hb11⟩ := ob2 hb
  refine sx_callV (dc := 1) (as := []) (stq := []) (by omega) dX12_mustNumber_39 MX12_faults kX12_180 iX12_faults sX12_faults rfl rfl (Ref_faults_o e_h10) rfl rfl (Nat.le_of_ble_eq_true rfl) (Nat.le_of_ble_eq_true rfl) (Ref_faults_s e_h10) rfl ?_
  exact Ref_mustNumber_42_s hb11
set_option maxHeartbeats 1000000 in
set_option maxRecDepth 100000 in
theorem Ref_mustNumber_38_q {v0 : Nat} {h : am_H} {r : am_H} (hb : Ref_mustNumber_38 v0 h = some r) : Eqs h r := by
  unfold Ref_mustNumber_38 at hb
  have w0 := Eqs.rf h
  obtain ⟨h10, e_h10, hb11⟩ := ob2 hb
  have w12 := w0.tr (Ref_faults_q e_h10)
  exact w12.tr (Ref_mustNumber_42_q hb11)
set_option maxHeartbeats 1000000 in
set_option maxRecDepth 100000 in
noncomputable def Ref_mustNumber (v0 : Nat) (v1 : Int32) (v2 : Int32) (h : am_H) : Option am_H := if isO h 12 v0 = true then (Ref_fine v0 h).bind fun x13 => if x13 = (0 : Int32) then Ref_mustNumber_42 v0 h else (gR h 12 v0 14).bind fun x17 => (gI h 12 v0 18).bind fun x19 => (aI h 0 x17 x19).bind fun x21 => if x21 = (50 : Int32) then (gR h 12 v0 15).bind fun x25 => (gI h 12 v0 18).bind fun x27 => (aI h 0 x25 x27).bind fun x29 => (Ref_lies x29 v1 v2 h).bind fun x31 => if x31 = (0 : Int32) then Ref_mustNumber_38 v0 h else Ref_mustNumber_42 v0 h else Ref_mustNumber_38 v0 h else none
set_option maxHeartbeats 1000000 in
set_option maxRecDepth 100000 in
theorem Ref_mustNumber_s {v0 : Nat} {v1 : Int32} {v2 : Int32} {h : am_H} {r : am_H} (hb : Ref_mustNumber v0 v1 v2 h = some r) : Sx 2 mX12_mustNumber 0 (am_en [.ref v0, .int v1, .int v2] 3) [] h none r := by
  unfold Ref_mustNumber at hb
  have hb := (iz hb).2
  show Sx 2 mX12_mustNumber 0 [.ref v0, .int v1, .int v2] [] h none r
  refine Sx.o (fun _ _ _ k => ex_aload_n dX12_mustNumber_0 rfl rfl k) ?_
  obtain ⟨x13, e_x13, hb14⟩ := ob2 hb
  refine sx_callV (dc := 0) (as := []) (stq := [.int x13]) (by omega) dX12_mustNumber_1 MX12_fine kX12_171 iX12_fine sX12_fine rfl rfl (Ref_fine_o e_x13) rfl rfl (Nat.le_of_ble_eq_true rfl) (Nat.le_of_ble_eq_true rfl) (Ref_fine_s e_x13) rfl ?_
  refine Sx.b (fun _ _ _ k1 k2 => ex_if_eq 42 dX12_mustNumber_4 (by decide) k1 k2) (fun q => ?_) (fun q => ?_)
  · have hb15 := ip q hb14
    refine Sx.fg [true, false, false] ?_
    exact Ref_mustNumber_42_s hb15
  · have hb16 := iq q hb14
    refine Sx.o (fun _ _ _ k => ex_aload_n dX12_mustNumber_7 rfl rfl k) ?_
    obtain ⟨x17, e_x17, hb18⟩ := ob2 hb16
    refine Sx.o (fun _ _ _ k => op_getR fX12_50 dX12_mustNumber_8 e_x17 k) ?_
    refine Sx.o (fun _ _ _ k => ex_aload_n dX12_mustNumber_11 rfl rfl k) ?_
    obtain ⟨x19, e_x19, hb20⟩ := ob2 hb18
    refine Sx.o (fun _ _ _ k => op_getI fX12_174 dX12_mustNumber_12 e_x19 k) ?_
    obtain ⟨x21, e_x21, hb22⟩ := ob2 hb20
    refine Sx.o (fun _ _ _ k => op_iald dX12_mustNumber_15 e_x21 k) ?_
    refine Sx.o (fun _ _ _ k => op_bipush (50 : Int32) dX12_mustNumber_16 (by decide) k) ?_
    refine Sx.bn (fun _ _ _ k1 k2 => ex_icmp_ne 38 dX12_mustNumber_18 (by decide) k1 k2) (fun q => ?_) (fun q => ?_)
    · have hb23 := iq q hb22
      refine Sx.fg [true, false, false] ?_
      exact Ref_mustNumber_38_s hb23
    · have hb24 := ip q hb22
      refine Sx.o (fun _ _ _ k => ex_aload_n dX12_mustNumber_21 rfl rfl k) ?_
      obtain ⟨x25, e_x25, hb26⟩ := ob2 hb24
      refine Sx.o (fun _ _ _ k => op_getR fX12_53 dX12_mustNumber_22 e_x25 k) ?_
      refine Sx.o (fun _ _ _ k => ex_aload_n dX12_mustNumber_25 rfl rfl k) ?_
      obtain ⟨x27, e_x27, hb28⟩ := ob2 hb26
      refine Sx.o (fun _ _ _ k => op_getI fX12_174 dX12_mustNumber_26 e_x27 k) ?_
      obtain ⟨x29, e_x29, hb30⟩ := ob2 hb28
      refine Sx.o (fun _ _ _ k => op_iald dX12_mustNumber_29 e_x29 k) ?_
      refine Sx.o (fun _ _ _ k => ex_iload_n dX12_mustNumber_30 rfl k) ?_
      refine Sx.o (fun _ _ _ k => ex_iload_n dX12_mustNumber_31 rfl k) ?_
      obtain ⟨x31, e_x31, hb32⟩ := ob2 hb30
      refine sx_callS (dc := 0) (as := [.int x29, .int v1, .int v2]) (stq := [.int x31]) (by omega) dX12_mustNumber_32 MX12_lies kX12_102 tX12_lies rfl rfl (Nat.le_of_ble_eq_true rfl) (Nat.le_of_ble_eq_true rfl) (Ref_lies_s e_x31) rfl ?_
      refine Sx.bn (fun _ _ _ k1 k2 => ex_if_ne 42 dX12_mustNumber_35 (by decide) k1 k2) (fun q => ?_) (fun q => ?_)
      · have hb33 := iq q hb32
        refine Sx.fg [true, false, false] ?_
        exact Ref_mustNumber_42_s hb33
      · have hb34 := ip q hb32
        refine Sx.fg [true, false, false] ?_
        exact Ref_mustNumber_38_s hb34
set_option maxHeartbeats 1000000 in
set_option maxRecDepth 100000 in
theorem Ref_mustNumber_q {v0 : Nat} {v1 : Int32} {v2 : Int32} {h : am_H} {r : am_H} (hb : Ref_mustNumber v0 v1 v2 h = some r) : Eqs h r := by
  unfold Ref_mustNumber at hb
  have hb := (iz hb).2
  have w0 := Eqs.rf h
  obtain ⟨x13, e_x13, hb14⟩ := ob2 hb
  by_cases q : x13 = (0 : Int32)
  · have hb15 := ip q hb14
    exact w0.tr (Ref_mustNumber_42_q hb15)
  · have hb16 := iq q hb14
    obtain ⟨x17, e_x17, hb18⟩ := ob2 hb16
    obtain ⟨x19, e_x19, hb20⟩ := ob2 hb18
    obtain ⟨x21, e_x21, hb22⟩ := ob2 hb20
    by_cases q : x21 = (50 : Int32)
    · have hb24 := ip q hb22
      obtain ⟨x25, e_x25, hb26⟩ := ob2 hb24
      obtain ⟨x27, e_x27, hb28⟩ := ob2 hb26
      obtain ⟨x29, e_x29, hb30⟩ := ob2 hb28
      obtain ⟨x31, e_x31, hb32⟩ := ob2 hb30
      by_cases q : x31 = (0 : Int32)
      · have hb34 := ip q hb32
        exact w0.tr (Ref_mustNumber_38_q hb34)
      · have hb33 := iq q hb32
        exact w0.tr (Ref_mustNumber_42_q hb33)
    · have hb23 := iq q hb22
      exact w0.tr (Ref_mustNumber_38_q hb23)
theorem Ref_mustNumber_o {v0 : Nat} {v1 : Int32} {v2 : Int32} {h : am_H} {r : am_H} (hb : Ref_mustNumber v0 v1 v2 h = some r) : isO h 12 v0 = true := by
  unfold Ref_mustNumber at hb
  exact (iz hb).1
set_option maxHeartbeats 1000000 in
set_option maxRecDepth 100000 in
noncomputable def Ref_readPart_b (g : (Nat × Nat × Int32 × Nat × am_H) → Option am_H) (dd : Nat) (v0 : Nat) (v1 : Int32) (h : am_H) : Option am_H := if isO h 12 v0 = true then (Ref_fine v0 h).bind fun x1 => if x1 = (0 : Int32) then some h else (gR h 12 v0 14).bind fun x5 => (gI h 12 v0 18).bind fun x7 => (aI h 0 x5 x7).bind fun x9 => (Ref_sign (91 : Int32) h).bind fun x11 => if x9 = x11 then if v1 = (8 : Int32) then (Ref_faults v0 h).bind fun h27 => g (37, dd, v1, v0, h27) else g (37, dd, v1, v0, h) else if x9 = (50 : Int32) then (gR h 12 v0 15).bind fun x17 => (gI h 12 v0 18).bind fun x19 => (aI h 0 x17 x19).bind fun x21 => if x21 ≤ (1000 : Int32) then g (111, dd, x9, v0, h) else g (95, dd, x9, v0, h) else g (95, dd, x9, v0, h) else none
set_option maxHeartbeats 1000000 in
set_option maxRecDepth 100000 in
theorem Ref_readPart_m {g g2 : (Nat × Nat × Int32 × Nat × am_H) → Option am_H} (hg : ∀ s, Le (g s) (g2 s)) (dd : Nat) (v0 : Nat) (v1 : Int32) (h : am_H) : Le (Ref_readPart_b g dd v0 v1 h) (Ref_readPart_b g2 dd v0 v1 h) := by unfold Ref_readPart_b; exact le_i (le_b (le_r _) fun x1 => le_i (le_r _) (le_b (le_r _) fun x5 => le_b (le_r _) fun x7 => le_b (le_r _) fun x9 => le_b (le_r _) fun x11 => le_i (le_i (le_b (le_r _) fun h27 => hg _) (hg _)) (le_i (le_b (le_r _) fun x17 => le_b (le_r _) fun x19 => le_b (le_r _) fun x21 => le_i (hg _) (hg _)) (hg _)))) (le_r _)
set_option maxHeartbeats 1000000 in
set_option maxRecDepth 100000 in
noncomputable def Ref_readPart_37_b (g : (Nat × Nat × Int32 × Nat × am_H) → Option am_H) (dd : Nat) (v0 : Nat) (v1 : Int32) (h : am_H) : Option am_H := (Ref_fine v0 h).bind fun x30 => if x30 = (0 : Int32) then some h else (gI h 12 v0 18).bind fun x34 => (pV h 12 v0 18 (.int (x34 + (1 : Int32)))).bind fun h36 => (if 0 < dd then g (20000, dd - 1, (v1 + (1 : Int32)), v0, h36) else none).bind fun r39 => (Ref_sign (93 : Int32) r39).bind fun x42 => (Ref_must v0 x42 r39).bind fun h44 => some h44
set_option maxHeartbeats 1000000 in
set_option maxRecDepth 100000 in
theorem Ref_readPart_37_m {g g2 : (Nat × Nat × Int32 × Nat × am_H) → Option am_H} (hg : ∀ s, Le (g s) (g2 s)) (dd : Nat) (v0 : Nat) (v1 : Int32) (h : am_H) : Le (Ref_readPart_37_b g dd v0 v1 h) (Ref_readPart_37_b g2 dd v0 v1 h) := by unfold Ref_readPart_37_b; exact le_b (le_r _) fun x30 => le_i (le_r _) (le_b (le_r _) fun x34 => le_b (le_r _) fun h36 => le_b (le_i (hg _) (le_r _)) fun r39 => le_r _)
set_option maxHeartbeats 1000000 in
set_option maxRecDepth 100000 in
noncomputable def Ref_readPart_95_b (g : (Nat × Nat × Int32 × Nat × am_H) → Option am_H) (dd : Nat) (v0 : Nat) (v2 : Int32) (h : am_H) : Option am_H := (gI h 12 v0 7).bind fun x47 => if v2 < x47 then g (138, dd, 0, v0, h) else (gI h 12 v0 8).bind fun x51 => if x51 < v2 then g (138, dd, 0, v0, h) else g (111, dd, v2, v0, h)
set_option maxHeartbeats 1000000 in
set_option maxRecDepth 100000 in
theorem Ref_readPart_95_m {g g2 : (Nat × Nat × Int32 × Nat × am_H) → Option am_H} (hg : ∀ s, Le (g s) (g2 s)) (dd : Nat) (v0 : Nat) (v2 : Int32) (h : am_H) : Le (Ref_readPart_95_b g dd v0 v2 h) (Ref_readPart_95_b g2 dd v0 v2 h) := by unfold Ref_readPart_95_b; exact le_b (le_r _) fun x47 => le_i (hg _) (le_b (le_r _) fun x51 => le_i (hg _) (hg _))
set_option maxHeartbeats 1000000 in
set_option maxRecDepth 100000 in
noncomputable def Ref_readPart_111_b (g : (Nat × Nat × Int32 × Nat × am_H) → Option am_H) (dd : Nat) (v0 : Nat) (v2 : Int32) (h : am_H) : Option am_H := (Ref_leaf v0 h).bind fun h55 => (gI h55 12 v0 9).bind fun x58 => if x58 = (0 : Int32) then some h55 else (Ref_isOfHeap v2 h55).bind fun x62 => if x62 = (0 : Int32) then some h55 else (Ref_mustNumber v0 (0 : Int32) (5 : Int32) h55).bind fun h66 => some h66
set_option maxHeartbeats 1000000 in
set_option maxRecDepth 100000 in
theorem Ref_readPart_111_m {g g2 : (Nat × Nat × Int32 × Nat × am_H) → Option am_H} (hg : ∀ s, Le (g s) (g2 s)) (dd : Nat) (v0 : Nat) (v2 : Int32) (h : am_H) : Le (Ref_readPart_111_b g dd v0 v2 h) (Ref_readPart_111_b g2 dd v0 v2 h) := by unfold Ref_readPart_111_b; exact le_r _
set_option maxHeartbeats 1000000 in
set_option maxRecDepth 100000 in
noncomputable def Ref_readPart_138_b (g : (Nat × Nat × Int32 × Nat × am_H) → Option am_H) (dd : Nat) (v0 : Nat) (h : am_H) : Option am_H := (Ref_faults v0 h).bind fun h69 => some h69
set_option maxHeartbeats 1000000 in
set_option maxRecDepth 100000 in
theorem Ref_readPart_138_m {g g2 : (Nat × Nat × Int32 × Nat × am_H) → Option am_H} (hg : ∀ s, Le (g s) (g2 s)) (dd : Nat) (v0 : Nat) (h : am_H) : Le (Ref_readPart_138_b g dd v0 h) (Ref_readPart_138_b g2 dd v0 h) := by unfold Ref_readPart_138_b; exact le_r _
set_option maxHeartbeats 1000000 in
set_option maxRecDepth 100000 in
noncomputable def Ref_readTerm_b (g : (Nat × Nat × Int32 × Nat × am_H) → Option am_H) (dd : Nat) (v0 : Nat) (v1 : Int32) (h : am_H) : Option am_H := if isO h 12 v0 = true then (if 0 < dd then g (0, dd - 1, v1, v0, h) else none).bind fun r72 => g (10005, dd, v1, v0, r72) else none
set_option maxHeartbeats 1000000 in
set_option maxRecDepth 100000 in
theorem Ref_readTerm_m {g g2 : (Nat × Nat × Int32 × Nat × am_H) → Option am_H} (hg : ∀ s, Le (g s) (g2 s)) (dd : Nat) (v0 : Nat) (v1 : Int32) (h : am_H) : Le (Ref_readTerm_b g dd v0 v1 h) (Ref_readTerm_b g2 dd v0 v1 h) := by unfold Ref_readTerm_b; exact le_i (le_b (le_i (hg _) (le_r _)) fun r72 => hg _) (le_r _)
set_option maxHeartbeats 1000000 in
set_option maxRecDepth 100000 in
noncomputable def Ref_readTerm_5_b (g : (Nat × Nat × Int32 × Nat × am_H) → Option am_H) (dd : Nat) (v0 : Nat) (v1 : Int32) (h : am_H) : Option am_H := (Ref_sign (42 : Int32) h).bind fun x75 => (Ref_takes0 v0 x75 h).bind fun r77 => if r77.1 = (0 : Int32) then (Ref_sign (47 : Int32) r77.2).bind fun x82 => (Ref_takes0 v0 x82 r77.2).bind fun r84 => if r84.1 = (0 : Int32) then (Ref_sign (37 : Int32) r84.2).bind fun x89 => (Ref_takes0 v0 x89 r84.2).bind fun r91 => if r91.1 = (0 : Int32) then some r91.2 else g (10041, dd, v1, v0, r91.2) else g (10041, dd, v1, v0, r84.2) else g (10041, dd, v1, v0, r77.2)
set_option maxHeartbeats 1000000 in
set_option maxRecDepth 100000 in
theorem Ref_readTerm_5_m {g g2 : (Nat × Nat × Int32 × Nat × am_H) → Option am_H} (hg : ∀ s, Le (g s) (g2 s)) (dd : Nat) (v0 : Nat) (v1 : Int32) (h : am_H) : Le (Ref_readTerm_5_b g dd v0 v1 h) (Ref_readTerm_5_b g2 dd v0 v1 h) := by unfold Ref_readTerm_5_b; exact le_b (le_r _) fun x75 => le_b (le_r _) fun r77 => le_i (le_b (le_r _) fun x82 => le_b (le_r _) fun r84 => le_i (le_b (le_r _) fun x89 => le_b (le_r _) fun r91 => le_i (le_r _) (hg _)) (hg _)) (hg _)
set_option maxHeartbeats 1000000 in
set_option maxRecDepth 100000 in
noncomputable def Ref_readTerm_41_b (g : (Nat × Nat × Int32 × Nat × am_H) → Option am_H) (dd : Nat) (v0 : Nat) (v1 : Int32) (h : am_H) : Option am_H := (if 0 < dd then g (0, dd - 1, v1, v0, h) else none).bind fun r96 => g (10005, dd, v1, v0, r96)
set_option maxHeartbeats 1000000 in
set_option maxRecDepth 100000 in
theorem Ref_readTerm_41_m {g g2 : (Nat × Nat × Int32 × Nat × am_H) → Option am_H} (hg : ∀ s, Le (g s) (g2 s)) (dd : Nat) (v0 : Nat) (v1 : Int32) (h : am_H) : Le (Ref_readTerm_41_b g dd v0 v1 h) (Ref_readTerm_41_b g2 dd v0 v1 h) := by unfold Ref_readTerm_41_b; exact le_b (le_i (hg _) (le_r _)) fun r96 => hg _
set_option maxHeartbeats 1000000 in
set_option maxRecDepth 100000 in
noncomputable def Ref_readSum_b (g : (Nat × Nat × Int32 × Nat × am_H) → Option am_H) (dd : Nat) (v0 : Nat) (v1 : Int32) (h : am_H) : Option am_H := if isO h 12 v0 = true then (if 0 < dd then g (10000, dd - 1, v1, v0, h) else none).bind fun r99 => g (20005, dd, v1, v0, r99) else none
set_option maxHeartbeats 1000000 in
set_option maxRecDepth 100000 in
theorem Ref_readSum_m {g g2 : (Nat × Nat × Int32 × Nat × am_H) → Option am_H} (hg : ∀ s, Le (g s) (g2 s)) (dd : Nat) (v0 : Nat) (v1 : Int32) (h : am_H) : Le (Ref_readSum_b g dd v0 v1 h) (Ref_readSum_b g2 dd v0 v1 h) := by unfold Ref_readSum_b; exact le_i (le_b (le_i (hg _) (le_r _)) fun r99 => hg _) (le_r _)
set_option maxHeartbeats 1000000 in
set_option maxRecDepth 100000 in
noncomputable def Ref_readSum_5_b (g : (Nat × Nat × Int32 × Nat × am_H) → Option am_H) (dd : Nat) (v0 : Nat) (v1 : Int32) (h : am_H) : Option am_H := (Ref_sign (43 : Int32) h).bind fun x102 => (Ref_takes0 v0 x102 h).bind fun r104 => if r104.1 = (0 : Int32) then (Ref_sign (45 : Int32) r104.2).bind fun x109 => (Ref_takes0 v0 x109 r104.2).bind fun r111 => if r111.1 = (0 : Int32) then some r111.2 else g (20029, dd, v1, v0, r111.2) else g (20029, dd, v1, v0, r104.2)
set_option maxHeartbeats 1000000 in
set_option maxRecDepth 100000 in
theorem Ref_readSum_5_m {g g2 : (Nat × Nat × Int32 × Nat × am_H) → Option am_H} (hg : ∀ s, Le (g s) (g2 s)) (dd : Nat) (v0 : Nat) (v1 : Int32) (h : am_H) : Le (Ref_readSum_5_b g dd v0 v1 h) (Ref_readSum_5_b g2 dd v0 v1 h) := by unfold Ref_readSum_5_b; exact le_b (le_r _) fun x102 => le_b (le_r _) fun r104 => le_i (le_b (le_r _) fun x109 => le_b (le_r _) fun r111 => le_i (le_r _) (hg _)) (hg _)
set_option maxHeartbeats 1000000 in
set_option maxRecDepth 100000 in
noncomputable def Ref_readSum_29_b (g : (Nat × Nat × Int32 × Nat × am_H) → Option am_H) (dd : Nat) (v0 : Nat) (v1 : Int32) (h : am_H) : Option am_H := (if 0 < dd then g (10000, dd - 1, v1, v0, h) else none).bind fun r116 => g (20005, dd, v1, v0, r116)
set_option maxHeartbeats 1000000 in
set_option maxRecDepth 100000 in
theorem Ref_readSum_29_m {g g2 : (Nat × Nat × Int32 × Nat × am_H) → Option am_H} (hg : ∀ s, Le (g s) (g2 s)) (dd : Nat) (v0 : Nat) (v1 : Int32) (h : am_H) : Le (Ref_readSum_29_b g dd v0 v1 h) (Ref_readSum_29_b g2 dd v0 v1 h) := by unfold Ref_readSum_29_b; exact le_b (le_i (hg _) (le_r _)) fun r116 => hg _
noncomputable def Ref_readPartG_F (g : (Nat × Nat × Int32 × Nat × am_H) → Option am_H) (s : (Nat × Nat × Int32 × Nat × am_H)) : Option am_H := if s.1 = 0 then Ref_readPart_b g s.2.1 s.2.2.2.1 s.2.2.1 s.2.2.2.2 else if s.1 = 37 then Ref_readPart_37_b g s.2.1 s.2.2.2.1 s.2.2.1 s.2.2.2.2 else if s.1 = 95 then Ref_readPart_95_b g s.2.1 s.2.2.2.1 s.2.2.1 s.2.2.2.2 else if s.1 = 111 then Ref_readPart_111_b g s.2.1 s.2.2.2.1 s.2.2.1 s.2.2.2.2 else if s.1 = 138 then Ref_readPart_138_b g s.2.1 s.2.2.2.1 s.2.2.2.2 else if s.1 = 10000 then Ref_readTerm_b g s.2.1 s.2.2.2.1 s.2.2.1 s.2.2.2.2 else if s.1 = 10005 then Ref_readTerm_5_b g s.2.1 s.2.2.2.1 s.2.2.1 s.2.2.2.2 else if s.1 = 10041 then Ref_readTerm_41_b g s.2.1 s.2.2.2.1 s.2.2.1 s.2.2.2.2 else if s.1 = 20000 then Ref_readSum_b g s.2.1 s.2.2.2.1 s.2.2.1 s.2.2.2.2 else if s.1 = 20005 then Ref_readSum_5_b g s.2.1 s.2.2.2.1 s.2.2.1 s.2.2.2.2 else if s.1 = 20029 then Ref_readSum_29_b g s.2.1 s.2.2.2.1 s.2.2.1 s.2.2.2.2 else none
theorem Ref_readPartG_M : Mn Ref_readPartG_F := fun g g2 hg s => by unfold Ref_readPartG_F; exact le_i (Ref_readPart_m hg s.2.1 s.2.2.2.1 s.2.2.1 s.2.2.2.2) (le_i (Ref_readPart_37_m hg s.2.1 s.2.2.2.1 s.2.2.1 s.2.2.2.2) (le_i (Ref_readPart_95_m hg s.2.1 s.2.2.2.1 s.2.2.1 s.2.2.2.2) (le_i (Ref_readPart_111_m hg s.2.1 s.2.2.2.1 s.2.2.1 s.2.2.2.2) (le_i (Ref_readPart_138_m hg s.2.1 s.2.2.2.1 s.2.2.2.2) (le_i (Ref_readTerm_m hg s.2.1 s.2.2.2.1 s.2.2.1 s.2.2.2.2) (le_i (Ref_readTerm_5_m hg s.2.1 s.2.2.2.1 s.2.2.1 s.2.2.2.2) (le_i (Ref_readTerm_41_m hg s.2.1 s.2.2.2.1 s.2.2.1 s.2.2.2.2) (le_i (Ref_readSum_m hg s.2.1 s.2.2.2.1 s.2.2.1 s.2.2.2.2) (le_i (Ref_readSum_5_m hg s.2.1 s.2.2.2.1 s.2.2.1 s.2.2.2.2) (le_i (Ref_readSum_29_m hg s.2.1 s.2.2.2.1 s.2.2.1 s.2.2.2.2) (le_r _)))))))))))
def Ref_readPartG_P (s : (Nat × Nat × Int32 × Nat × am_H)) (r : am_H) : Prop := (s.1 = 0 → isO s.2.2.2.2 12 s.2.2.2.1 = true ∧ Sx (3 + s.2.1) mX12_readPart 0 (am_en [.ref s.2.2.2.1, .int s.2.2.1] 3) [] s.2.2.2.2 none r) ∧ (s.1 = 37 → Sx (3 + s.2.1) mX12_readPart 37 [.ref s.2.2.2.1, .int s.2.2.1, .retAddr 0] [] s.2.2.2.2 none r) ∧ (s.1 = 95 → Sx (3 + s.2.1) mX12_readPart 95 [.ref s.2.2.2.1, .retAddr 0, .int s.2.2.1] [] s.2.2.2.2 none r) ∧ (s.1 = 111 → Sx (3 + s.2.1) mX12_readPart 111 [.ref s.2.2.2.1, .retAddr 0, .int s.2.2.1] [] s.2.2.2.2 none r) ∧ (s.1 = 138 → Sx (3 + s.2.1) mX12_readPart 138 [.ref s.2.2.2.1, .retAddr 0, .retAddr 0] [] s.2.2.2.2 none r) ∧ (s.1 = 10000 → isO s.2.2.2.2 12 s.2.2.2.1 = true ∧ Sx (3 + s.2.1) mX12_readTerm 0 (am_en [.ref s.2.2.2.1, .int s.2.2.1] 2) [] s.2.2.2.2 none r) ∧ (s.1 = 10005 → Sx (3 + s.2.1) mX12_readTerm 5 [.ref s.2.2.2.1, .int s.2.2.1] [] s.2.2.2.2 none r) ∧ (s.1 = 10041 → Sx (3 + s.2.1) mX12_readTerm 41 [.ref s.2.2.2.1, .int s.2.2.1] [] s.2.2.2.2 none r) ∧ (s.1 = 20000 → isO s.2.2.2.2 12 s.2.2.2.1 = true ∧ Sx (3 + s.2.1) mX12_readSum 0 (am_en [.ref s.2.2.2.1, .int s.2.2.1] 2) [] s.2.2.2.2 none r) ∧ (s.1 = 20005 → Sx (3 + s.2.1) mX12_readSum 5 [.ref s.2.2.2.1, .int s.2.2.1] [] s.2.2.2.2 none r) ∧ (s.1 = 20029 → Sx (3 + s.2.1) mX12_readSum 29 [.ref s.2.2.2.1, .int s.2.2.1] [] s.2.2.2.2 none r) ∧ True
set_option maxHeartbeats 1000000 in
set_option maxRecDepth 100000 in
theorem Ref_readPart_t {g : (Nat × Nat × Int32 × Nat × am_H) → Option am_H} (hg : ∀ s r, g s = some r → Ref_readPartG_P s r) {dd : Nat} {v0 : Nat} {v1 : Int32} {h : am_H} {r : am_H} (hb : Ref_readPart_b g dd v0 v1 h = some r) : isO h 12 v0 = true ∧ Sx (3 + dd) mX12_readPart 0 (am_en [.ref v0, .int v1] 3) [] h none r := by
  unfold Ref_readPart_b at hb
  obtain ⟨ho, hb⟩ := iz hb
  refine ⟨ho, ?_⟩
  show Sx (3 + dd) mX12_readPart 0 [.ref v0, .int v1, .retAddr 0] [] h none r
  refine Sx.o (fun _ _ _ k => ex_aload_n dX12_readPart_0 rfl rfl k) ?_
  obtain ⟨x1, e_x1, hb2⟩ := ob2 hb
  refine sx_callV (dc := 0) (as := []) (stq := [.int x1]) (by omega) dX12_readPart_1 MX12_fine kX12_171 iX12_fine sX12_fine rfl rfl (Ref_fine_o e_x1) rfl rfl (Nat.le_of_ble_eq_true rfl) (Nat.le_of_ble_eq_true rfl) (Ref_fine_s e_x1) rfl ?_
  refine Sx.bn (fun _ _ _ k1 k2 => ex_if_ne 8 dX12_readPart_4 (by decide) k1 k2) (fun q => ?_) (fun q => ?_)
  · have hb3 := iq q hb2
    refine Sx.o (fun _ _ _ k => ex_aload_n dX12_readPart_8 rfl rfl k) ?_
    obtain ⟨x5, e_x5, hb6⟩ := ob2 hb3
    refine Sx.o (fun _ _ _ k => op_getR fX12_50 dX12_readPart_9 e_x5 k) ?_
    refine Sx.o (fun _ _ _ k => ex_aload_n dX12_readPart_12 rfl rfl k) ?_
    obtain ⟨x7, e_x7, hb8⟩ := ob2 hb6
    refine Sx.o (fun _ _ _ k => op_getI fX12_174 dX12_readPart_13 e_x7 k) ?_
    obtain ⟨x9, e_x9, hb10⟩ := ob2 hb8
    refine Sx.o (fun _ _ _ k => op_iald dX12_readPart_16 e_x9 k) ?_
    refine Sx.o (L' := [.ref v0, .int v1, .int x9]) (fun _ _ _ k => ex_istore_n dX12_readPart_17 (by decide) k) ?_
    refine Sx.o (fun _ _ _ k => ex_iload_n dX12_readPart_18 rfl k) ?_
    refine Sx.o (fun _ _ _ k => op_bipush (91 : Int32) dX12_readPart_19 (by decide) k) ?_
    obtain ⟨x11, e_x11, hb12⟩ := ob2 hb10
    refine sx_callS (dc := 0) (as := [.int (91 : Int32)]) (stq := [.int x11, .int x9]) (by omega) dX12_readPart_21 MX12_sign kX12_215 tX12_sign rfl rfl (Nat.le_of_ble_eq_true rfl) (Nat.le_of_ble_eq_true rfl) (Ref_sign_s e_x11) rfl ?_
    refine Sx.bn (fun _ _ _ k1 k2 => ex_icmp_ne 74 dX12_readPart_24 (by decide) k1 k2) (fun q => ?_) (fun q => ?_)
    · have hb13 := iq q hb12
      refine Sx.o (fun _ _ _ k => ex_iload_n dX12_readPart_74 rfl k) ?_
      refine Sx.o (fun _ _ _ k => op_bipush (50 : Int32) dX12_readPart_75 (by decide) k) ?_
      refine Sx.bn (fun _ _ _ k1 k2 => ex_icmp_ne 95 dX12_readPart_77 (by decide) k1 k2) (fun q => ?_) (fun q => ?_)
      · have hb15 := iq q hb13
        refine Sx.fg [true, false, true] ?_
        exact (hg _ _ hb15).2.2.1 rfl
      · have hb16 := ip q hb13
        refine Sx.o (fun _ _ _ k => ex_aload_n dX12_readPart_80 rfl rfl k) ?_
        obtain ⟨x17, e_x17, hb18⟩ := ob2 hb16
        refine Sx.o (fun _ _ _ k => op_getR fX12_53 dX12_readPart_81 e_x17 k) ?_
        refine Sx.o (fun _ _ _ k => ex_aload_n dX12_readPart_84 rfl rfl k) ?_
        obtain ⟨x19, e_x19, hb20⟩ := ob2 hb18
        refine Sx.o (fun _ _ _ k => op_getI fX12_174 dX12_readPart_85 e_x19 k) ?_
        obtain ⟨x21, e_x21, hb22⟩ := ob2 hb20
        refine Sx.o (fun _ _ _ k => op_iald dX12_readPart_88 e_x21 k) ?_
        refine Sx.o (fun _ _ _ k => op_sipush (1000 : Int32) dX12_readPart_89 (by decide) k) ?_
        refine Sx.b (fun _ _ _ k1 k2 => ex_icmp_le 111 dX12_readPart_92 (by decide) k1 k2) (fun q => ?_) (fun q => ?_)
        · have hb23 := ip q hb22
          refine Sx.fg [true, false, true] ?_
          exact (hg _ _ hb23).2.2.2.1 rfl
        · have hb24 := iq q hb22
          refine Sx.fg [true, false, true] ?_
          exact (hg _ _ hb24).2.2.1 rfl
    · have hb14 := ip q hb12
      refine Sx.o (fun _ _ _ k => ex_iload_n dX12_readPart_27 rfl k) ?_
      refine Sx.o (fun _ _ _ k => op_bipush (8 : Int32) dX12_readPart_28 (by decide) k) ?_
      refine Sx.bn (fun _ _ _ k1 k2 => ex_icmp_ne 37 dX12_readPart_30 (by decide) k1 k2) (fun q => ?_) (fun q => ?_)
      · have hb25 := iq q hb14
        refine Sx.fg [true, true, false] ?_
        exact (hg _ _ hb25).2.1 rfl
      · have hb26 := ip q hb14
        refine Sx.o (fun _ _ _ k => ex_aload_n dX12_readPart_33 rfl rfl k) ?_
        obtain ⟨h27, e_h27, hb28⟩ := ob2 hb26
        refine sx_callV (dc := 1) (as := []) (stq := []) (by omega) dX12_readPart_34 MX12_faults kX12_180 iX12_faults sX12_faults rfl rfl (Ref_faults_o e_h27) rfl rfl (Nat.le_of_ble_eq_true rfl) (Nat.le_of_ble_eq_true rfl) (Ref_faults_s e_h27) rfl ?_
        refine Sx.fg [true, true, false] ?_
        exact (hg _ _ hb28).2.1 rfl
  · have hb4 := ip q hb2
    obtain rfl := Option.some.inj hb4
    exact Sx.r (fun _ _ _ k => ex_vret rfl dX12_readPart_7 k)
set_option maxHeartbeats 1000000 in
set_option maxRecDepth 100000 in
theorem Ref_readPart_37_t {g : (Nat × Nat × Int32 × Nat × am_H) → Option am_H} (hg : ∀ s r, g s = some r → Ref_readPartG_P s r) {dd : Nat} {v0 : Nat} {v1 : Int32} {h : am_H} {r : am_H} (hb : Ref_readPart_37_b g dd v0 v1 h = some r) : Sx (3 + dd) mX12_readPart 37 [.ref v0, .int v1, .retAddr 0] [] h none r := by
  unfold Ref_readPart_37_b at hb
  refine Sx.o (fun _ _ _ k => ex_aload_n dX12_readPart_37 rfl rfl k) ?_
  obtain ⟨x30, e_x30, hb31⟩ := ob2 hb
  refine sx_callV (dc := 0) (as := []) (stq := [.int x30]) (by omega) dX12_readPart_38 MX12_fine kX12_171 iX12_fine sX12_fine rfl rfl (Ref_fine_o e_x30) rfl rfl (Nat.le_of_ble_eq_true rfl) (Nat.le_of_ble_eq_true rfl) (Ref_fine_s e_x30) rfl ?_
  refine Sx.bn (fun _ _ _ k1 k2 => ex_if_ne 45 dX12_readPart_41 (by decide) k1 k2) (fun q => ?_) (fun q => ?_)
  · have hb32 := iq q hb31
    refine Sx.o (fun _ _ _ k => ex_aload_n dX12_readPart_45 rfl rfl k) ?_
    refine Sx.o (fun _ _ _ k => ex_dup dX12_readPart_46 rfl k) ?_
    obtain ⟨x34, e_x34, hb35⟩ := ob2 hb32
    refine Sx.o (fun _ _ _ k => op_getI fX12_174 dX12_readPart_47 e_x34 k) ?_
    refine Sx.o (fun _ _ _ k => op_iconst (1 : Int32) dX12_readPart_50 (by decide) k) ?_
    refine Sx.o (fun _ _ _ k => ex_iadd dX12_readPart_51 k) ?_
    obtain ⟨h36, e_h36, hb37⟩ := ob2 hb35
    refine Sx.p (pV_q e_h36) (fun _ _ _ k => op_put pX12_174 dX12_readPart_52 e_h36 (fun _ => rfl) (fun _ => rfl) k) ?_
    refine Sx.o (fun _ _ _ k => ex_aload_n dX12_readPart_55 rfl rfl k) ?_
    refine Sx.o (fun _ _ _ k => ex_iload_n dX12_readPart_56 rfl k) ?_
    refine Sx.o (fun _ _ _ k => op_iconst (1 : Int32) dX12_readPart_57 (by decide) k) ?_
    refine Sx.o (fun _ _ _ k => ex_iadd dX12_readPart_58 k) ?_
    obtain ⟨r39, e_r39, hb40⟩ := ob2 hb37
    obtain ⟨hdd_r39, e_r39⟩ := iz e_r39
    refine sx_callV (dc := (3 + (dd - 1))) (as := [.int (v1 + (1 : Int32))]) (stq := []) (by omega) dX12_readPart_59 MX12_readSum kX12_186 iX12_readSum sX12_readSum rfl rfl ((fun e => ((hg _ _ e).2.2.2.2.2.2.2.2.1 rfl).1) e_r39) rfl rfl (Nat.le_of_ble_eq_true rfl) (Nat.le_of_ble_eq_true rfl) ((fun e => ((hg _ _ e).2.2.2.2.2.2.2.2.1 rfl).2) e_r39) rfl ?_
    refine Sx.o (fun _ _ _ k => ex_aload_n dX12_readPart_62 rfl rfl k) ?_
    refine Sx.o (fun _ _ _ k => op_bipush (93 : Int32) dX12_readPart_63 (by decide) k) ?_
    obtain ⟨x42, e_x42, hb43⟩ := ob2 hb40
    refine sx_callS (dc := 0) (as := [.int (93 : Int32)]) (stq := [.int x42, .ref v0]) (by omega) dX12_readPart_65 MX12_sign kX12_215 tX12_sign rfl rfl (Nat.le_of_ble_eq_true rfl) (Nat.le_of_ble_eq_true rfl) (Ref_sign_s e_x42) rfl ?_
    obtain ⟨h44, e_h44, hb45⟩ := ob2 hb43
    refine sx_callV (dc := 2) (as := [.int x42]) (stq := []) (by omega) dX12_readPart_68 MX12_must kX12_189 iX12_must sX12_must rfl rfl (Ref_must_o e_h44) rfl rfl (Nat.le_of_ble_eq_true rfl) (Nat.le_of_ble_eq_true rfl) (Ref_must_s e_h44) rfl ?_
    refine Sx.o (fun _ _ _ k => ex_goto 142 dX12_readPart_71 (by decide) k) ?_
    obtain rfl := Option.some.inj hb45
    exact Sx.r (fun _ _ _ k => ex_vret rfl dX12_readPart_142 k)
  · have hb33 := ip q hb31
    obtain rfl := Option.some.inj hb33
    exact Sx.r (fun _ _ _ k => ex_vret rfl dX12_readPart_44 k)
set_option maxHeartbeats 1000000 in
set_option maxRecDepth 100000 in
theorem Ref_readPart_95_t {g : (Nat × Nat × Int32 × Nat × am_H) → Option am_H} (hg : ∀ s r, g s = some r → Ref_readPartG_P s r) {dd : Nat} {v0 : Nat} {v2 : Int32} {h : am_H} {r : am_H} (hb : Ref_readPart_95_b g dd v0 v2 h = some r) : Sx (3 + dd) mX12_readPart 95 [.ref v0, .retAddr 0, .int v2] [] h none r := by
  unfold Ref_readPart_95_b at hb
  refine Sx.o (fun _ _ _ k => ex_iload_n dX12_readPart_95 rfl k) ?_
  refine Sx.o (fun _ _ _ k => ex_aload_n dX12_readPart_96 rfl rfl k) ?_
  obtain ⟨x47, e_x47, hb48⟩ := ob2 hb
  refine Sx.o (fun _ _ _ k => op_getI fX12_225 dX12_readPart_97 e_x47 k) ?_
  refine Sx.b (fun _ _ _ k1 k2 => ex_icmp_lt 138 dX12_readPart_100 (by decide) k1 k2) (fun q => ?_) (fun q => ?_)
  · have hb49 := ip q hb48
    refine Sx.fg [true, true, false] ?_
    exact (hg _ _ hb49).2.2.2.2.1 rfl
  · have hb50 := iq q hb48
    refine Sx.o (fun _ _ _ k => ex_iload_n dX12_readPart_103 rfl k) ?_
    refine Sx.o (fun _ _ _ k => ex_aload_n dX12_readPart_104 rfl rfl k) ?_
    obtain ⟨x51, e_x51, hb52⟩ := ob2 hb50
    refine Sx.o (fun _ _ _ k => op_getI fX12_228 dX12_readPart_105 e_x51 k) ?_
    refine Sx.b (fun _ _ _ k1 k2 => ex_icmp_gt 138 dX12_readPart_108 (by decide) k1 k2) (fun q => ?_) (fun q => ?_)
    · have hb53 := ip q hb52
      refine Sx.fg [true, true, false] ?_
      exact (hg _ _ hb53).2.2.2.2.1 rfl
    · have hb54 := iq q hb52
      exact (hg _ _ hb54).2.2.2.1 rfl
set_option maxHeartbeats 1000000 in
set_option maxRecDepth 100000 in
theorem Ref_readPart_111_t {g : (Nat × Nat × Int32 × Nat × am_H) → Option am_H} (hg : ∀ s r, g s = some r → Ref_readPartG_P s r) {dd : Nat} {v0 : Nat} {v2 : Int32} {h : am_H} {r : am_H} (hb : Ref_readPart_111_b g dd v0 v2 h = some r) : Sx (3 + dd) mX12_readPart 111 [.ref v0, .retAddr 0, .int v2] [] h none r := by
  unfold Ref_readPart_111_b at hb
  refine Sx.o (fun _ _ _ k => ex_aload_n dX12_readPart_111 rfl rfl k) ?_
  obtain ⟨h55, e_h55, hb56⟩ := ob2 hb
  refine sx_callV (dc := 2) (as := []) (stq := []) (by omega) dX12_readPart_112 MX12_leaf kX12_231 iX12_leaf sX12_leaf rfl rfl (Ref_leaf_o e_h55) rfl rfl (Nat.le_of_ble_eq_true rfl) (Nat.le_of_ble_eq_true rfl) (Ref_leaf_s e_h55) rfl ?_
  refine Sx.o (fun _ _ _ k => ex_aload_n dX12_readPart_115 rfl rfl k) ?_
  obtain ⟨x58, e_x58, hb59⟩ := ob2 hb56
  refine Sx.o (fun _ _ _ k => op_getI fX12_199 dX12_readPart_116 e_x58 k) ?_
  refine Sx.b (fun _ _ _ k1 k2 => ex_if_eq 142 dX12_readPart_119 (by decide) k1 k2) (fun q => ?_) (fun q => ?_)
  · have hb60 := ip q hb59
    obtain rfl := Option.some.inj hb60
    exact Sx.r (fun _ _ _ k => ex_vret rfl dX12_readPart_142 k)
  · have hb61 := iq q hb59
    refine Sx.o (fun _ _ _ k => ex_iload_n dX12_readPart_122 rfl k) ?_
    obtain ⟨x62, e_x62, hb63⟩ := ob2 hb61
    refine sx_callS (dc := 0) (as := [.int v2]) (stq := [.int x62]) (by omega) dX12_readPart_123 MX12_isOfHeap kX12_234 tX12_isOfHeap rfl rfl (Nat.le_of_ble_eq_true rfl) (Nat.le_of_ble_eq_true rfl) (Ref_isOfHeap_s e_x62) rfl ?_
    refine Sx.b (fun _ _ _ k1 k2 => ex_if_eq 142 dX12_readPart_126 (by decide) k1 k2) (fun q => ?_) (fun q => ?_)
    · have hb64 := ip q hb63
      obtain rfl := Option.some.inj hb64
      exact Sx.r (fun _ _ _ k => ex_vret rfl dX12_readPart_142 k)
    · have hb65 := iq q hb63
      refine Sx.o (fun _ _ _ k => ex_aload_n dX12_readPart_129 rfl rfl k) ?_
      refine Sx.o (fun _ _ _ k => op_iconst (0 : Int32) dX12_readPart_130 (by decide) k) ?_
      refine Sx.o (fun _ _ _ k => op_iconst (5 : Int32) dX12_readPart_131 (by decide) k) ?_
      obtain ⟨h66, e_h66, hb67⟩ := ob2 hb65
      refine sx_callV (dc := 2) (as := [.int (0 : Int32), .int (5 : Int32)]) (stq := []) (by omega) dX12_readPart_132 MX12_mustNumber kX12_195 iX12_mustNumber sX12_mustNumber rfl rfl (Ref_mustNumber_o e_h66) rfl rfl (Nat.le_of_ble_eq_true rfl) (Nat.le_of_ble_eq_true rfl) (Ref_mustNumber_s e_h66) rfl ?_
      refine Sx.o (fun _ _ _ k => ex_goto 142 dX12_readPart_135 (by decide) k) ?_
      obtain rfl := Option.some.inj hb67
      exact Sx.r (fun _ _ _ k => ex_vret rfl dX12_readPart_142 k)
set_option maxHeartbeats 1000000 in
set_option maxRecDepth 100000 in
theorem Ref_readPart_138_t {g : (Nat × Nat × Int32 × Nat × am_H) → Option am_H} (hg : ∀ s r, g s = some r → Ref_readPartG_P s r) {dd : Nat} {v0 : Nat} {h : am_H} {r : am_H} (hb : Ref_readPart_138_b g dd v0 h = some r) : Sx (3 + dd) mX12_readPart 138 [.ref v0, .retAddr 0, .retAddr 0] [] h none r := by
  unfold Ref_readPart_138_b at hb
  refine Sx.o (fun _ _ _ k => ex_aload_n dX12_readPart_138 rfl rfl k) ?_
  obtain ⟨h69, e_h69, hb70⟩ := ob2 hb
  refine sx_callV (dc := 1) (as := []) (stq := []) (by omega) dX12_readPart_139 MX12_faults kX12_180 iX12_faults sX12_faults rfl rfl (Ref_faults_o e_h69) rfl rfl (Nat.le_of_ble_eq_true rfl) (Nat.le_of_ble_eq_true rfl) (Ref_faults_s e_h69) rfl ?_
  obtain rfl := Option.some.inj hb70
  exact Sx.r (fun _ _ _ k => ex_vret rfl dX12_readPart_142 k)
set_option maxHeartbeats 1000000 in
set_option maxRecDepth 100000 in
theorem Ref_readTerm_t {g : (Nat × Nat × Int32 × Nat × am_H) → Option am_H} (hg : ∀ s r, g s = some r → Ref_readPartG_P s r) {dd : Nat} {v0 : Nat} {v1 : Int32} {h : am_H} {r : am_H} (hb : Ref_readTerm_b g dd v0 v1 h = some r) : isO h 12 v0 = true ∧ Sx (3 + dd) mX12_readTerm 0 (am_en [.ref v0, .int v1] 2) [] h none r := by
  unfold Ref_readTerm_b at hb
  obtain ⟨ho, hb⟩ := iz hb
  refine ⟨ho, ?_⟩
  show Sx (3 + dd) mX12_readTerm 0 [.ref v0, .int v1] [] h none r
  refine Sx.o (fun _ _ _ k => ex_aload_n dX12_readTerm_0 rfl rfl k) ?_
  refine Sx.o (fun _ _ _ k => ex_iload_n dX12_readTerm_1 rfl k) ?_
  obtain ⟨r72, e_r72, hb73⟩ := ob2 hb
  obtain ⟨hdd_r72, e_r72⟩ := iz e_r72
  refine sx_callV (dc := (3 + (dd - 1))) (as := [.int v1]) (stq := []) (by omega) dX12_readTerm_2 MX12_readPart kX12_222 iX12_readPart sX12_readPart rfl rfl ((fun e => ((hg _ _ e).1 rfl).1) e_r72) rfl rfl (Nat.le_of_ble_eq_true rfl) (Nat.le_of_ble_eq_true rfl) ((fun e => ((hg _ _ e).1 rfl).2) e_r72) rfl ?_
  exact (hg _ _ hb73).2.2.2.2.2.2.1 rfl
set_option maxHeartbeats 1000000 in
set_option maxRecDepth 100000 in
theorem Ref_readTerm_5_t {g : (Nat × Nat × Int32 × Nat × am_H) → Option am_H} (hg : ∀ s r, g s = some r → Ref_readPartG_P s r) {dd : Nat} {v0 : Nat} {v1 : Int32} {h : am_H} {r : am_H} (hb : Ref_readTerm_5_b g dd v0 v1 h = some r) : Sx (3 + dd) mX12_readTerm 5 [.ref v0, .int v1] [] h none r := by
  unfold Ref_readTerm_5_b at hb
  refine Sx.o (fun _ _ _ k => ex_aload_n dX12_readTerm_5 rfl rfl k) ?_
  refine Sx.o (fun _ _ _ k => op_bipush (42 : Int32) dX12_readTerm_6 (by decide) k) ?_
  obtain ⟨x75, e_x75, hb76⟩ := ob2 hb
  refine sx_callS (dc := 0) (as := [.int (42 : Int32)]) (stq := [.int x75, .ref v0]) (by omega) dX12_readTerm_8 MX12_sign kX12_215 tX12_sign rfl rfl (Nat.le_of_ble_eq_true rfl) (Nat.le_of_ble_eq_true rfl) (Ref_sign_s e_x75) rfl ?_
  obtain ⟨r77, e_r77, hb78⟩ := ob2 hb76
  refine sx_callV (dc := 1) (as := [.int x75]) (stq := [.int r77.1]) (by omega) dX12_readTerm_11 MX12_takes0 kX12_177 iX12_takes0 sX12_takes0 rfl rfl (Ref_takes0_o e_r77) rfl rfl (Nat.le_of_ble_eq_true rfl) (Nat.le_of_ble_eq_true rfl) (Ref_takes0_s e_r77) rfl ?_
  refine Sx.bn (fun _ _ _ k1 k2 => ex_if_ne 41 dX12_readTerm_14 (by decide) k1 k2) (fun q => ?_) (fun q => ?_)
  · have hb80 := iq q hb78
    exact (hg _ _ hb80).2.2.2.2.2.2.2.1 rfl
  · have hb81 := ip q hb78
    refine Sx.o (fun _ _ _ k => ex_aload_n dX12_readTerm_17 rfl rfl k) ?_
    refine Sx.o (fun _ _ _ k => op_bipush (47 : Int32) dX12_readTerm_18 (by decide) k) ?_
    obtain ⟨x82, e_x82, hb83⟩ := ob2 hb81
    refine sx_callS (dc := 0) (as := [.int (47 : Int32)]) (stq := [.int x82, .ref v0]) (by omega) dX12_readTerm_20 MX12_sign kX12_215 tX12_sign rfl rfl (Nat.le_of_ble_eq_true rfl) (Nat.le_of_ble_eq_true rfl) (Ref_sign_s e_x82) rfl ?_
    obtain ⟨r84, e_r84, hb85⟩ := ob2 hb83
    refine sx_callV (dc := 1) (as := [.int x82]) (stq := [.int r84.1]) (by omega) dX12_readTerm_23 MX12_takes0 kX12_177 iX12_takes0 sX12_takes0 rfl rfl (Ref_takes0_o e_r84) rfl rfl (Nat.le_of_ble_eq_true rfl) (Nat.le_of_ble_eq_true rfl) (Ref_takes0_s e_r84) rfl ?_
    refine Sx.bn (fun _ _ _ k1 k2 => ex_if_ne 41 dX12_readTerm_26 (by decide) k1 k2) (fun q => ?_) (fun q => ?_)
    · have hb87 := iq q hb85
      exact (hg _ _ hb87).2.2.2.2.2.2.2.1 rfl
    · have hb88 := ip q hb85
      refine Sx.o (fun _ _ _ k => ex_aload_n dX12_readTerm_29 rfl rfl k) ?_
      refine Sx.o (fun _ _ _ k => op_bipush (37 : Int32) dX12_readTerm_30 (by decide) k) ?_
      obtain ⟨x89, e_x89, hb90⟩ := ob2 hb88
      refine sx_callS (dc := 0) (as := [.int (37 : Int32)]) (stq := [.int x89, .ref v0]) (by omega) dX12_readTerm_32 MX12_sign kX12_215 tX12_sign rfl rfl (Nat.le_of_ble_eq_true rfl) (Nat.le_of_ble_eq_true rfl) (Ref_sign_s e_x89) rfl ?_
      obtain ⟨r91, e_r91, hb92⟩ := ob2 hb90
      refine sx_callV (dc := 1) (as := [.int x89]) (stq := [.int r91.1]) (by omega) dX12_readTerm_35 MX12_takes0 kX12_177 iX12_takes0 sX12_takes0 rfl rfl (Ref_takes0_o e_r91) rfl rfl (Nat.le_of_ble_eq_true rfl) (Nat.le_of_ble_eq_true rfl) (Ref_takes0_s e_r91) rfl ?_
      refine Sx.b (fun _ _ _ k1 k2 => ex_if_eq 49 dX12_readTerm_38 (by decide) k1 k2) (fun q => ?_) (fun q => ?_)
      · have hb94 := ip q hb92
        obtain rfl := Option.some.inj hb94
        exact Sx.r (fun _ _ _ k => ex_vret rfl dX12_readTerm_49 k)
      · have hb95 := iq q hb92
        exact (hg _ _ hb95).2.2.2.2.2.2.2.1 rfl
set_option maxHeartbeats 1000000 in
set_option maxRecDepth 100000 in
theorem Ref_readTerm_41_t {g : (Nat × Nat × Int32 × Nat × am_H) → Option am_H} (hg : ∀ s r, g s = some r → Ref_readPartG_P s r) {dd : Nat} {v0 : Nat} {v1 : Int32} {h : am_H} {r : am_H} (hb : Ref_readTerm_41_b g dd v0 v1 h = some r) : Sx (3 + dd) mX12_readTerm 41 [.ref v0, .int v1] [] h none r := by
  unfold Ref_readTerm_41_b at hb
  refine Sx.o (fun _ _ _ k => ex_aload_n dX12_readTerm_41 rfl rfl k) ?_
  refine Sx.o (fun _ _ _ k => ex_iload_n dX12_readTerm_42 rfl k) ?_
  obtain ⟨r96, e_r96, hb97⟩ := ob2 hb
  obtain ⟨hdd_r96, e_r96⟩ := iz e_r96
  refine sx_callV (dc := (3 + (dd - 1))) (as := [.int v1]) (stq := []) (by omega) dX12_readTerm_43 MX12_readPart kX12_222 iX12_readPart sX12_readPart rfl rfl ((fun e => ((hg _ _ e).1 rfl).1) e_r96) rfl rfl (Nat.le_of_ble_eq_true rfl) (Nat.le_of_ble_eq_true rfl) ((fun e => ((hg _ _ e).1 rfl).2) e_r96) rfl ?_
  refine Sx.o (fun _ _ _ k => ex_goto 5 dX12_readTerm_46 (by decide) k) ?_
  exact (hg _ _ hb97).2.2.2.2.2.2.1 rfl
set_option maxHeartbeats 1000000 in
set_option maxRecDepth 100000 in
theorem Ref_readSum_t {g : (Nat × Nat × Int32 × Nat × am_H) → Option am_H} (hg : ∀ s r, g s = some r → Ref_readPartG_P s r) {dd : Nat} {v0 : Nat} {v1 : Int32} {h : am_H} {r : am_H} (hb : Ref_readSum_b g dd v0 v1 h = some r) : isO h 12 v0 = true ∧ Sx (3 + dd) mX12_readSum 0 (am_en [.ref v0, .int v1] 2) [] h none r := by
  unfold Ref_readSum_b at hb
  obtain ⟨ho, hb⟩ := iz hb
  refine ⟨ho, ?_⟩
  show Sx (3 + dd) mX12_readSum 0 [.ref v0, .int v1] [] h none r
  refine Sx.o (fun _ _ _ k => ex_aload_n dX12_readSum_0 rfl rfl k) ?_
  refine Sx.o (fun _ _ _ k => ex_iload_n dX12_readSum_1 rfl k) ?_
  obtain ⟨r99, e_r99, hb100⟩ := ob2 hb
  obtain ⟨hdd_r99, e_r99⟩ := iz e_r99
  refine sx_callV (dc := (3 + (dd - 1))) (as := [.int v1]) (stq := []) (by omega) dX12_readSum_2 MX12_readTerm kX12_219 iX12_readTerm sX12_readTerm rfl rfl ((fun e => ((hg _ _ e).2.2.2.2.2.1 rfl).1) e_r99) rfl rfl (Nat.le_of_ble_eq_true rfl) (Nat.le_of_ble_eq_true rfl) ((fun e => ((hg _ _ e).2.2.2.2.2.1 rfl).2) e_r99) rfl ?_
  exact (hg _ _ hb100).2.2.2.2.2.2.2.2.2.1 rfl
set_option maxHeartbeats 1000000 in
set_option maxRecDepth 100000 in
theorem Ref_readSum_5_t {g : (Nat × Nat × Int32 × Nat × am_H) → Option am_H} (hg : ∀ s r, g s = some r → Ref_readPartG_P s r) {dd : Nat} {v0 : Nat} {v1 : Int32} {h : am_H} {r : am_H} (hb : Ref_readSum_5_b g dd v0 v1 h = some r) : Sx (3 + dd) mX12_readSum 5 [.ref v0, .int v1] [] h none r := by
  unfold Ref_readSum_5_b at hb
  refine Sx.o (fun _ _ _ k => ex_aload_n dX12_readSum_5 rfl rfl k) ?_
  refine Sx.o (fun _ _ _ k => op_bipush (43 : Int32) dX12_readSum_6 (by decide) k) ?_
  obtain ⟨x102, e_x102, hb103⟩ := ob2 hb
  refine sx_callS (dc := 0) (as := [.int (43 : Int32)]) (stq := [.int x102, .ref v0]) (by omega) dX12_readSum_8 MX12_sign kX12_215 tX12_sign rfl rfl (Nat.le_of_ble_eq_true rfl) (Nat.le_of_ble_eq_true rfl) (Ref_sign_s e_x102) rfl ?_
  obtain ⟨r104, e_r104, hb105⟩ := ob2 hb103
  refine sx_callV (dc := 1) (as := [.int x102]) (stq := [.int r104.1]) (by omega) dX12_readSum_11 MX12_takes0 kX12_177 iX12_takes0 sX12_takes0 rfl rfl (Ref_takes0_o e_r104) rfl rfl (Nat.le_of_ble_eq_true rfl) (Nat.le_of_ble_eq_true rfl) (Ref_takes0_s e_r104) rfl ?_
  refine Sx.bn (fun _ _ _ k1 k2 => ex_if_ne 29 dX12_readSum_14 (by decide) k1 k2) (fun q => ?_) (fun q => ?_)
  · have hb107 := iq q hb105
    exact (hg _ _ hb107).2.2.2.2.2.2.2.2.2.2.1 rfl
  · have hb108 := ip q hb105
    refine Sx.o (fun _ _ _ k => ex_aload_n dX12_readSum_17 rfl rfl k) ?_
    refine Sx.o (fun _ _ _ k => op_bipush (45 : Int32) dX12_readSum_18 (by decide) k) ?_
    obtain ⟨x109, e_x109, hb110⟩ := ob2 hb108
    refine sx_callS (dc := 0) (as := [.int (45 : Int32)]) (stq := [.int x109, .ref v0]) (by omega) dX12_readSum_20 MX12_sign kX12_215 tX12_sign rfl rfl (Nat.le_of_ble_eq_true rfl) (Nat.le_of_ble_eq_true rfl) (Ref_sign_s e_x109) rfl ?_
    obtain ⟨r111, e_r111, hb112⟩ := ob2 hb110
    refine sx_callV (dc := 1) (as := [.int x109]) (stq := [.int r111.1]) (by omega) dX12_readSum_23 MX12_takes0 kX12_177 iX12_takes0 sX12_takes0 rfl rfl (Ref_takes0_o e_r111) rfl rfl (Nat.le_of_ble_eq_true rfl) (Nat.le_of_ble_eq_true rfl) (Ref_takes0_s e_r111) rfl ?_
    refine Sx.b (fun _ _ _ k1 k2 => ex_if_eq 37 dX12_readSum_26 (by decide) k1 k2) (fun q => ?_) (fun q => ?_)
    · have hb114 := ip q hb112
      obtain rfl := Option.some.inj hb114
      exact Sx.r (fun _ _ _ k => ex_vret rfl dX12_readSum_37 k)
    · have hb115 := iq q hb112
      exact (hg _ _ hb115).2.2.2.2.2.2.2.2.2.2.1 rfl
set_option maxHeartbeats 1000000 in
set_option maxRecDepth 100000 in
theorem Ref_readSum_29_t {g : (Nat × Nat × Int32 × Nat × am_H) → Option am_H} (hg : ∀ s r, g s = some r → Ref_readPartG_P s r) {dd : Nat} {v0 : Nat} {v1 : Int32} {h : am_H} {r : am_H} (hb : Ref_readSum_29_b g dd v0 v1 h = some r) : Sx (3 + dd) mX12_readSum 29 [.ref v0, .int v1] [] h none r := by
  unfold Ref_readSum_29_b at hb
  refine Sx.o (fun _ _ _ k => ex_aload_n dX12_readSum_29 rfl rfl k) ?_
  refine Sx.o (fun _ _ _ k => ex_iload_n dX12_readSum_30 rfl k) ?_
  obtain ⟨r116, e_r116, hb117⟩ := ob2 hb
  obtain ⟨hdd_r116, e_r116⟩ := iz e_r116
  refine sx_callV (dc := (3 + (dd - 1))) (as := [.int v1]) (stq := []) (by omega) dX12_readSum_31 MX12_readTerm kX12_219 iX12_readTerm sX12_readTerm rfl rfl ((fun e => ((hg _ _ e).2.2.2.2.2.1 rfl).1) e_r116) rfl rfl (Nat.le_of_ble_eq_true rfl) (Nat.le_of_ble_eq_true rfl) ((fun e => ((hg _ _ e).2.2.2.2.2.1 rfl).2) e_r116) rfl ?_
  refine Sx.o (fun _ _ _ k => ex_goto 5 dX12_readSum_34 (by decide) k) ?_
  exact (hg _ _ hb117).2.2.2.2.2.2.2.2.2.1 rfl
theorem Ref_readPartG_T : ∀ s r, fx Ref_readPartG_F Ref_readPartG_M s = some r → Ref_readPartG_P s r := fx_ind Ref_readPartG_M Ref_readPartG_P (fun g hg s r hb => by
  unfold Ref_readPartG_F at hb
  exact ⟨fun q => Ref_readPart_t hg (ip q hb), fun q => Ref_readPart_37_t hg (ip q (iq (by rw [q]; decide) hb)), fun q => Ref_readPart_95_t hg (ip q (iq (by rw [q]; decide) (iq (by rw [q]; decide) hb))), fun q => Ref_readPart_111_t hg (ip q (iq (by rw [q]; decide) (iq (by rw [q]; decide) (iq (by rw [q]; decide) hb)))), fun q => Ref_readPart_138_t hg (ip q (iq (by rw [q]; decide) (iq (by rw [q]; decide) (iq (by rw [q]; decide) (iq (by rw [q]; decide) hb))))), fun q => Ref_readTerm_t hg (ip q (iq (by rw [q]; decide) (iq (by rw [q]; decide) (iq (by rw [q]; decide) (iq (by rw [q]; decide) (iq (by rw [q]; decide) hb)))))), fun q => Ref_readTerm_5_t hg (ip q (iq (by rw [q]; decide) (iq (by rw [q]; decide) (iq (by rw [q]; decide) (iq (by rw [q]; decide) (iq (by rw [q]; decide) (iq (by rw [q]; decide) hb))))))), fun q => Ref_readTerm_41_t hg (ip q (iq (by rw [q]; decide) (iq (by rw [q]; decide) (iq (by rw [q]; decide) (iq (by rw [q]; decide) (iq (by rw [q]; decide) (iq (by rw [q]; decide) (iq (by rw [q]; decide) hb)))))))), fun q => Ref_readSum_t hg (ip q (iq (by rw [q]; decide) (iq (by rw [q]; decide) (iq (by rw [q]; decide) (iq (by rw [q]; decide) (iq (by rw [q]; decide) (iq (by rw [q]; decide) (iq (by rw [q]; decide) (iq (by rw [q]; decide) hb))))))))), fun q => Ref_readSum_5_t hg (ip q (iq (by rw [q]; decide) (iq (by rw [q]; decide) (iq (by rw [q]; decide) (iq (by rw [q]; decide) (iq (by rw [q]; decide) (iq (by rw [q]; decide) (iq (by rw [q]; decide) (iq (by rw [q]; decide) (iq (by rw [q]; decide) hb)))))))))), fun q => Ref_readSum_29_t hg (ip q (iq (by rw [q]; decide) (iq (by rw [q]; decide) (iq (by rw [q]; decide) (iq (by rw [q]; decide) (iq (by rw [q]; decide) (iq (by rw [q]; decide) (iq (by rw [q]; decide) (iq (by rw [q]; decide) (iq (by rw [q]; decide) (iq (by rw [q]; decide) hb))))))))))), trivial⟩)
set_option maxHeartbeats 1000000 in
set_option maxRecDepth 100000 in
theorem Ref_readPart_r {g : (Nat × Nat × Int32 × Nat × am_H) → Option am_H} (hg : ∀ s r, g s = some r → Eqs s.2.2.2.2 r) {dd : Nat} {v0 : Nat} {v1 : Int32} {h : am_H} {r : am_H} (hb : Ref_readPart_b g dd v0 v1 h = some r) : Eqs h r := by
  unfold Ref_readPart_b at hb
  have w0 := Eqs.rf h
  obtain ⟨ho, hb⟩ := iz hb
  obtain ⟨x1, e_x1, hb2⟩ := ob2 hb
  by_cases q : x1 = (0 : Int32)
  · have hb4 := ip q hb2
    obtain rfl := Option.some.inj hb4
    exact w0
  · have hb3 := iq q hb2
    obtain ⟨x5, e_x5, hb6⟩ := ob2 hb3
    obtain ⟨x7, e_x7, hb8⟩ := ob2 hb6
    obtain ⟨x9, e_x9, hb10⟩ := ob2 hb8
    obtain ⟨x11, e_x11, hb12⟩ := ob2 hb10
    by_cases q : x9 = x11
    · have hb14 := ip q hb12
      by_cases q : v1 = (8 : Int32)
      · have hb26 := ip q hb14
        obtain ⟨h27, e_h27, hb28⟩ := ob2 hb26
        have w29 := w0.tr (Ref_faults_q e_h27)
        exact w29.tr (hg _ _ hb28)
      · have hb25 := iq q hb14
        exact w0.tr (hg _ _ hb25)
    · have hb13 := iq q hb12
      by_cases q : x9 = (50 : Int32)
      · have hb16 := ip q hb13
        obtain ⟨x17, e_x17, hb18⟩ := ob2 hb16
        obtain ⟨x19, e_x19, hb20⟩ := ob2 hb18
        obtain ⟨x21, e_x21, hb22⟩ := ob2 hb20
        by_cases q : x21 ≤ (1000 : Int32)
        · have hb23 := ip q hb22
          exact w0.tr (hg _ _ hb23)
        · have hb24 := iq q hb22
          exact w0.tr (hg _ _ hb24)
      · have hb15 := iq q hb13
        exact w0.tr (hg _ _ hb15)
set_option maxHeartbeats 1000000 in
set_option maxRecDepth 100000 in
theorem Ref_readPart_37_r {g : (Nat × Nat × Int32 × Nat × am_H) → Option am_H} (hg : ∀ s r, g s = some r → Eqs s.2.2.2.2 r) {dd : Nat} {v0 : Nat} {v1 : Int32} {h : am_H} {r : am_H} (hb : Ref_readPart_37_b g dd v0 v1 h = some r) : Eqs h r := by
  unfold Ref_readPart_37_b at hb
  have w0 := Eqs.rf h
  obtain ⟨x30, e_x30, hb31⟩ := ob2 hb
  by_cases q : x30 = (0 : Int32)
  · have hb33 := ip q hb31
    obtain rfl := Option.some.inj hb33
    exact w0
  · have hb32 := iq q hb31
    obtain ⟨x34, e_x34, hb35⟩ := ob2 hb32
    obtain ⟨h36, e_h36, hb37⟩ := ob2 hb35
    have w38 := w0.tr (pV_q e_h36)
    obtain ⟨r39, e_r39, hb40⟩ := ob2 hb37
    obtain ⟨hdd_r39, e_r39⟩ := iz e_r39
    have w41 := w38.tr (hg _ _ e_r39)
    obtain ⟨x42, e_x42, hb43⟩ := ob2 hb40
    obtain ⟨h44, e_h44, hb45⟩ := ob2 hb43
    have w46 := w41.tr (Ref_must_q e_h44)
    obtain rfl := Option.some.inj hb45
    exact w46
set_option maxHeartbeats 1000000 in
set_option maxRecDepth 100000 in
theorem Ref_readPart_95_r {g : (Nat × Nat × Int32 × Nat × am_H) → Option am_H} (hg : ∀ s r, g s = some r → Eqs s.2.2.2.2 r) {dd : Nat} {v0 : Nat} {v2 : Int32} {h : am_H} {r : am_H} (hb : Ref_readPart_95_b g dd v0 v2 h = some r) : Eqs h r := by
  unfold Ref_readPart_95_b at hb
  have w0 := Eqs.rf h
  obtain ⟨x47, e_x47, hb48⟩ := ob2 hb
  by_cases q : v2 < x47
  · have hb49 := ip q hb48
    exact w0.tr (hg _ _ hb49)
  · have hb50 := iq q hb48
    obtain ⟨x51, e_x51, hb52⟩ := ob2 hb50
    by_cases q : x51 < v2
    · have hb53 := ip q hb52
      exact w0.tr (hg _ _ hb53)
    · have hb54 := iq q hb52
      exact w0.tr (hg _ _ hb54)
set_option maxHeartbeats 1000000 in
set_option maxRecDepth 100000 in
theorem Ref_readPart_111_r {g : (Nat × Nat × Int32 × Nat × am_H) → Option am_H} (hg : ∀ s r, g s = some r → Eqs s.2.2.2.2 r) {dd : Nat} {v0 : Nat} {v2 : Int32} {h : am_H} {r : am_H} (hb : Ref_readPart_111_b g dd v0 v2 h = some r) : Eqs h r := by
  unfold Ref_readPart_111_b at hb
  have w0 := Eqs.rf h
  obtain ⟨h55, e_h55, hb56⟩ := ob2 hb
  have w57 := w0.tr (Ref_leaf_q e_h55)
  obtain ⟨x58, e_x58, hb59⟩ := ob2 hb56
  by_cases q : x58 = (0 : Int32)
  · have hb60 := ip q hb59
    obtain rfl := Option.some.inj hb60
    exact w57
  · have hb61 := iq q hb59
    obtain ⟨x62, e_x62, hb63⟩ := ob2 hb61
    by_cases q : x62 = (0 : Int32)
    · have hb64 := ip q hb63
      obtain rfl := Option.some.inj hb64
      exact w57
    · have hb65 := iq q hb63
      obtain ⟨h66, e_h66, hb67⟩ := ob2 hb65
      have w68 := w57.tr (Ref_mustNumber_q e_h66)
      obtain rfl := Option.some.inj hb67
      exact w68
set_option maxHeartbeats 1000000 in
set_option maxRecDepth 100000 in
theorem Ref_readPart_138_r {g : (Nat × Nat × Int32 × Nat × am_H) → Option am_H} (hg : ∀ s r, g s = some r → Eqs s.2.2.2.2 r) {dd : Nat} {v0 : Nat} {h : am_H} {r : am_H} (hb : Ref_readPart_138_b g dd v0 h = some r) : Eqs h r := by
  unfold Ref_readPart_138_b at hb
  have w0 := Eqs.rf h
  obtain ⟨h69, e_h69, hb70⟩ := ob2 hb
  have w71 := w0.tr (Ref_faults_q e_h69)
  obtain rfl := Option.some.inj hb70
  exact w71
set_option maxHeartbeats 1000000 in
set_option maxRecDepth 100000 in
theorem Ref_readTerm_r {g : (Nat × Nat × Int32 × Nat × am_H) → Option am_H} (hg : ∀ s r, g s = some r → Eqs s.2.2.2.2 r) {dd : Nat} {v0 : Nat} {v1 : Int32} {h : am_H} {r : am_H} (hb : Ref_readTerm_b g dd v0 v1 h = some r) : Eqs h r := by
  unfold Ref_readTerm_b at hb
  have w0 := Eqs.rf h
  obtain ⟨ho, hb⟩ := iz hb
  obtain ⟨r72, e_r72, hb73⟩ := ob2 hb
  obtain ⟨hdd_r72, e_r72⟩ := iz e_r72
  have w74 := w0.tr (hg _ _ e_r72)
  exact w74.tr (hg _ _ hb73)
set_option maxHeartbeats 1000000 in
set_option maxRecDepth 100000 in
theorem Ref_readTerm_5_r {g : (Nat × Nat × Int32 × Nat × am_H) → Option am_H} (hg : ∀ s r, g s = some r → Eqs s.2.2.2.2 r) {dd : Nat} {v0 : Nat} {v1 : Int32} {h : am_H} {r : am_H} (hb : Ref_readTerm_5_b g dd v0 v1 h = some r) : Eqs h r := by
  unfold Ref_readTerm_5_b at hb
  have w0 := Eqs.rf h
  obtain ⟨x75, e_x75, hb76⟩ := ob2 hb
  obtain ⟨r77, e_r77, hb78⟩ := ob2 hb76
  have w79 := w0.tr (Ref_takes0_q e_r77)
  by_cases q : r77.1 = (0 : Int32)
  · have hb81 := ip q hb78
    obtain ⟨x82, e_x82, hb83⟩ := ob2 hb81
    obtain ⟨r84, e_r84, hb85⟩ := ob2 hb83
    have w86 := w79.tr (Ref_takes0_q e_r84)
    by_cases q : r84.1 = (0 : Int32)
    · have hb88 := ip q hb85
      obtain ⟨x89, e_x89, hb90⟩ := ob2 hb88
      obtain ⟨r91, e_r91, hb92⟩ := ob2 hb90
      have w93 := w86.tr (Ref_takes0_q e_r91)
      by_cases q : r91.1 = (0 : Int32)
      · have hb94 := ip q hb92
        obtain rfl := Option.some.inj hb94
        exact w93
      · have hb95 := iq q hb92
        exact w93.tr (hg _ _ hb95)
    · have hb87 := iq q hb85
      exact w86.tr (hg _ _ hb87)
  · have hb80 := iq q hb78
    exact w79.tr (hg _ _ hb80)
set_option maxHeartbeats 1000000 in
set_option maxRecDepth 100000 in
theorem Ref_readTerm_41_r {g : (Nat × Nat × Int32 × Nat × am_H) → Option am_H} (hg : ∀ s r, g s = some r → Eqs s.2.2.2.2 r) {dd : Nat} {v0 : Nat} {v1 : Int32} {h : am_H} {r : am_H} (hb : Ref_readTerm_41_b g dd v0 v1 h = some r) : Eqs h r := by
  unfold Ref_readTerm_41_b at hb
  have w0 := Eqs.rf h
  obtain ⟨r96, e_r96, hb97⟩ := ob2 hb
  obtain ⟨hdd_r96, e_r96⟩ := iz e_r96
  have w98 := w0.tr (hg _ _ e_r96)
  exact w98.tr (hg _ _ hb97)
set_option maxHeartbeats 1000000 in
set_option maxRecDepth 100000 in
theorem Ref_readSum_r {g : (Nat × Nat × Int32 × Nat × am_H) → Option am_H} (hg : ∀ s r, g s = some r → Eqs s.2.2.2.2 r) {dd : Nat} {v0 : Nat} {v1 : Int32} {h : am_H} {r : am_H} (hb : Ref_readSum_b g dd v0 v1 h = some r) : Eqs h r := by
  unfold Ref_readSum_b at hb
  have w0 := Eqs.rf h
  obtain ⟨ho, hb⟩ := iz hb
  obtain ⟨r99, e_r99, hb100⟩ := ob2 hb
  obtain ⟨hdd_r99, e_r99⟩ := iz e_r99
  have w101 := w0.tr (hg _ _ e_r99)
  exact w101.tr (hg _ _ hb100)
set_option maxHeartbeats 1000000 in
set_option maxRecDepth 100000 in
theorem Ref_readSum_5_r {g : (Nat × Nat × Int32 × Nat × am_H) → Option am_H} (hg : ∀ s r, g s = some r → Eqs s.2.2.2.2 r) {dd : Nat} {v0 : Nat} {v1 : Int32} {h : am_H} {r : am_H} (hb : Ref_readSum_5_b g dd v0 v1 h = some r) : Eqs h r := by
  unfold Ref_readSum_5_b at hb
  have w0 := Eqs.rf h
  obtain ⟨x102, e_x102, hb103⟩ := ob2 hb
  obtain ⟨r104, e_r104, hb105⟩ := ob2 hb103
  have w106 := w0.tr (Ref_takes0_q e_r104)
  by_cases q : r104.1 = (0 : Int32)
  · have hb108 := ip q hb105
    obtain ⟨x109, e_x109, hb110⟩ := ob2 hb108
    obtain ⟨r111, e_r111, hb112⟩ := ob2 hb110
    have w113 := w106.tr (Ref_takes0_q e_r111)
    by_cases q : r111.1 = (0 : Int32)
    · have hb114 := ip q hb112
      obtain rfl := Option.some.inj hb114
      exact w113
    · have hb115 := iq q hb112
      exact w113.tr (hg _ _ hb115)
  · have hb107 := iq q hb105
    exact w106.tr (hg _ _ hb107)
set_option maxHeartbeats 1000000 in
set_option maxRecDepth 100000 in
theorem Ref_readSum_29_r {g : (Nat × Nat × Int32 × Nat × am_H) → Option am_H} (hg : ∀ s r, g s = some r → Eqs s.2.2.2.2 r) {dd : Nat} {v0 : Nat} {v1 : Int32} {h : am_H} {r : am_H} (hb : Ref_readSum_29_b g dd v0 v1 h = some r) : Eqs h r := by
  unfold Ref_readSum_29_b at hb
  have w0 := Eqs.rf h
  obtain ⟨r116, e_r116, hb117⟩ := ob2 hb
  obtain ⟨hdd_r116, e_r116⟩ := iz e_r116
  have w118 := w0.tr (hg _ _ e_r116)
  exact w118.tr (hg _ _ hb117)
theorem Ref_readPartG_Q : ∀ s r, fx Ref_readPartG_F Ref_readPartG_M s = some r → Eqs s.2.2.2.2 r := fx_ind Ref_readPartG_M (fun s r => Eqs s.2.2.2.2 r) (fun g hg s r hb => by
  unfold Ref_readPartG_F at hb
  by_cases q0 : s.1 = 0
  · exact Ref_readPart_r hg (ip q0 hb)
  · have hb0 := iq q0 hb
    by_cases q1 : s.1 = 37
    · exact Ref_readPart_37_r hg (ip q1 hb0)
    · have hb1 := iq q1 hb0
      by_cases q2 : s.1 = 95
      · exact Ref_readPart_95_r hg (ip q2 hb1)
      · have hb2 := iq q2 hb1
        by_cases q3 : s.1 = 111
        · exact Ref_readPart_111_r hg (ip q3 hb2)
        · have hb3 := iq q3 hb2
          by_cases q4 : s.1 = 138
          · exact Ref_readPart_138_r hg (ip q4 hb3)
          · have hb4 := iq q4 hb3
            by_cases q5 : s.1 = 10000
            · exact Ref_readTerm_r hg (ip q5 hb4)
            · have hb5 := iq q5 hb4
              by_cases q6 : s.1 = 10005
              · exact Ref_readTerm_5_r hg (ip q6 hb5)
              · have hb6 := iq q6 hb5
                by_cases q7 : s.1 = 10041
                · exact Ref_readTerm_41_r hg (ip q7 hb6)
                · have hb7 := iq q7 hb6
                  by_cases q8 : s.1 = 20000
                  · exact Ref_readSum_r hg (ip q8 hb7)
                  · have hb8 := iq q8 hb7
                    by_cases q9 : s.1 = 20005
                    · exact Ref_readSum_5_r hg (ip q9 hb8)
                    · have hb9 := iq q9 hb8
                      by_cases q10 : s.1 = 20029
                      · exact Ref_readSum_29_r hg (ip q10 hb9)
                      · have hb10 := iq q10 hb9
                        exact nomatch hb10)
noncomputable def Ref_readPart (dd : Nat) (v0 : Nat) (v1 : Int32) (h : am_H) : Option am_H := fx Ref_readPartG_F Ref_readPartG_M (0, dd, v1, v0, h)
noncomputable def Ref_readPart_37 (dd : Nat) (v0 : Nat) (v1 : Int32) (h : am_H) : Option am_H := fx Ref_readPartG_F Ref_readPartG_M (37, dd, v1, v0, h)
noncomputable def Ref_readPart_95 (dd : Nat) (v0 : Nat) (v2 : Int32) (h : am_H) : Option am_H := fx Ref_readPartG_F Ref_readPartG_M (95, dd, v2, v0, h)
noncomputable def Ref_readPart_111 (dd : Nat) (v0 : Nat) (v2 : Int32) (h : am_H) : Option am_H := fx Ref_readPartG_F Ref_readPartG_M (111, dd, v2, v0, h)
noncomputable def Ref_readPart_138 (dd : Nat) (v0 : Nat) (h : am_H) : Option am_H := fx Ref_readPartG_F Ref_readPartG_M (138, dd, 0, v0, h)
noncomputable def Ref_readTerm (dd : Nat) (v0 : Nat) (v1 : Int32) (h : am_H) : Option am_H := fx Ref_readPartG_F Ref_readPartG_M (10000, dd, v1, v0, h)
noncomputable def Ref_readTerm_5 (dd : Nat) (v0 : Nat) (v1 : Int32) (h : am_H) : Option am_H := fx Ref_readPartG_F Ref_readPartG_M (10005, dd, v1, v0, h)
noncomputable def Ref_readTerm_41 (dd : Nat) (v0 : Nat) (v1 : Int32) (h : am_H) : Option am_H := fx Ref_readPartG_F Ref_readPartG_M (10041, dd, v1, v0, h)
noncomputable def Ref_readSum (dd : Nat) (v0 : Nat) (v1 : Int32) (h : am_H) : Option am_H := fx Ref_readPartG_F Ref_readPartG_M (20000, dd, v1, v0, h)
noncomputable def Ref_readSum_5 (dd : Nat) (v0 : Nat) (v1 : Int32) (h : am_H) : Option am_H := fx Ref_readPartG_F Ref_readPartG_M (20005, dd, v1, v0, h)
noncomputable def Ref_readSum_29 (dd : Nat) (v0 : Nat) (v1 : Int32) (h : am_H) : Option am_H := fx Ref_readPartG_F Ref_readPartG_M (20029, dd, v1, v0, h)
set_option maxHeartbeats 1000000 in
set_option maxRecDepth 100000 in
theorem Ref_readPart_e (dd : Nat) (v0 : Nat) (v1 : Int32) (h : am_H) : Ref_readPart dd v0 v1 h = (if isO h 12 v0 = true then (Ref_fine v0 h).bind fun x1 => if x1 = (0 : Int32) then some h else (gR h 12 v0 14).bind fun x5 => (gI h 12 v0 18).bind fun x7 => (aI h 0 x5 x7).bind fun x9 => (Ref_sign (91 : Int32) h).bind fun x11 => if x9 = x11 then if v1 = (8 : Int32) then (Ref_faults v0 h).bind fun h27 => Ref_readPart_37 dd v0 v1 h27 else Ref_readPart_37 dd v0 v1 h else if x9 = (50 : Int32) then (gR h 12 v0 15).bind fun x17 => (gI h 12 v0 18).bind fun x19 => (aI h 0 x17 x19).bind fun x21 => if x21 ≤ (1000 : Int32) then Ref_readPart_111 dd v0 x9 h else Ref_readPart_95 dd v0 x9 h else Ref_readPart_95 dd v0 x9 h else none) := (fx_eq Ref_readPartG_M (0, dd, v1, v0, h)).trans (if_pos rfl)
theorem Ref_readPart_q {dd : Nat} {v0 : Nat} {v1 : Int32} {h : am_H} {r : am_H} (hb : Ref_readPart dd v0 v1 h = some r) : Eqs h r := Ref_readPartG_Q _ _ hb
theorem Ref_readPart_s {dd : Nat} {v0 : Nat} {v1 : Int32} {h : am_H} {r : am_H} (hb : Ref_readPart dd v0 v1 h = some r) : Sx (3 + dd) mX12_readPart 0 (am_en [.ref v0, .int v1] 3) [] h none r := ((Ref_readPartG_T _ _ hb).1 rfl).2
theorem Ref_readPart_o {dd : Nat} {v0 : Nat} {v1 : Int32} {h : am_H} {r : am_H} (hb : Ref_readPart dd v0 v1 h = some r) : isO h 12 v0 = true := ((Ref_readPartG_T _ _ hb).1 rfl).1
set_option maxHeartbeats 1000000 in
set_option maxRecDepth 100000 in
theorem Ref_readPart_37_e (dd : Nat) (v0 : Nat) (v1 : Int32) (h : am_H) : Ref_readPart_37 dd v0 v1 h = ((Ref_fine v0 h).bind fun x30 => if x30 = (0 : Int32) then some h else (gI h 12 v0 18).bind fun x34 => (pV h 12 v0 18 (.int (x34 + (1 : Int32)))).bind fun h36 => (if 0 < dd then Ref_readSum (dd - 1) v0 (v1 + (1 : Int32)) h36 else none).bind fun r39 => (Ref_sign (93 : Int32) r39).bind fun x42 => (Ref_must v0 x42 r39).bind fun h44 => some h44) := (fx_eq Ref_readPartG_M (37, dd, v1, v0, h)).trans ((if_neg (show ¬ (37 : Nat) = 0 by decide)).trans (if_pos rfl))
theorem Ref_readPart_37_q {dd : Nat} {v0 : Nat} {v1 : Int32} {h : am_H} {r : am_H} (hb : Ref_readPart_37 dd v0 v1 h = some r) : Eqs h r := Ref_readPartG_Q _ _ hb
theorem Ref_readPart_37_s {dd : Nat} {v0 : Nat} {v1 : Int32} {h : am_H} {r : am_H} (hb : Ref_readPart_37 dd v0 v1 h = some r) : Sx (3 + dd) mX12_readPart 37 [.ref v0, .int v1, .retAddr 0] [] h none r := (Ref_readPartG_T _ _ hb).2.1 rfl
set_option maxHeartbeats 1000000 in
set_option maxRecDepth 100000 in
theorem Ref_readPart_95_e (dd : Nat) (v0 : Nat) (v2 : Int32) (h : am_H) : Ref_readPart_95 dd v0 v2 h = ((gI h 12 v0 7).bind fun x47 => if v2 < x47 then Ref_readPart_138 dd v0 h else (gI h 12 v0 8).bind fun x51 => if x51 < v2 then Ref_readPart_138 dd v0 h else Ref_readPart_111 dd v0 v2 h) := (fx_eq Ref_readPartG_M (95, dd, v2, v0, h)).trans ((if_neg (show ¬ (95 : Nat) = 0 by decide)).trans ((if_neg (show ¬ (95 : Nat) = 37 by decide)).trans (if_pos rfl)))
theorem Ref_readPart_95_q {dd : Nat} {v0 : Nat} {v2 : Int32} {h : am_H} {r : am_H} (hb : Ref_readPart_95 dd v0 v2 h = some r) : Eqs h r := Ref_readPartG_Q _ _ hb
theorem Ref_readPart_95_s {dd : Nat} {v0 : Nat} {v2 : Int32} {h : am_H} {r : am_H} (hb : Ref_readPart_95 dd v0 v2 h = some r) : Sx (3 + dd) mX12_readPart 95 [.ref v0, .retAddr 0, .int v2] [] h none r := (Ref_readPartG_T _ _ hb).2.2.1 rfl
set_option maxHeartbeats 1000000 in
set_option maxRecDepth 100000 in
theorem Ref_readPart_111_e (dd : Nat) (v0 : Nat) (v2 : Int32) (h : am_H) : Ref_readPart_111 dd v0 v2 h = ((Ref_leaf v0 h).bind fun h55 => (gI h55 12 v0 9).bind fun x58 => if x58 = (0 : Int32) then some h55 else (Ref_isOfHeap v2 h55).bind fun x62 => if x62 = (0 : Int32) then some h55 else (Ref_mustNumber v0 (0 : Int32) (5 : Int32) h55).bind fun h66 => some h66) := (fx_eq Ref_readPartG_M (111, dd, v2, v0, h)).trans ((if_neg (show ¬ (111 : Nat) = 0 by decide)).trans ((if_neg (show ¬ (111 : Nat) = 37 by decide)).trans ((if_neg (show ¬ (111 : Nat) = 95 by decide)).trans (if_pos rfl))))
theorem Ref_readPart_111_q {dd : Nat} {v0 : Nat} {v2 : Int32} {h : am_H} {r : am_H} (hb : Ref_readPart_111 dd v0 v2 h = some r) : Eqs h r := Ref_readPartG_Q _ _ hb
theorem Ref_readPart_111_s {dd : Nat} {v0 : Nat} {v2 : Int32} {h : am_H} {r : am_H} (hb : Ref_readPart_111 dd v0 v2 h = some r) : Sx (3 + dd) mX12_readPart 111 [.ref v0, .retAddr 0, .int v2] [] h none r := (Ref_readPartG_T _ _ hb).2.2.2.1 rfl
set_option maxHeartbeats 1000000 in
set_option maxRecDepth 100000 in
theorem Ref_readPart_138_e (dd : Nat) (v0 : Nat) (h : am_H) : Ref_readPart_138 dd v0 h = ((Ref_faults v0 h).bind fun h69 => some h69) := (fx_eq Ref_readPartG_M (138, dd, 0, v0, h)).trans ((if_neg (show ¬ (138 : Nat) = 0 by decide)).trans ((if_neg (show ¬ (138 : Nat) = 37 by decide)).trans ((if_neg (show ¬ (138 : Nat) = 95 by decide)).trans ((if_neg (show ¬ (138 : Nat) = 111 by decide)).trans (if_pos rfl)))))
theorem Ref_readPart_138_q {dd : Nat} {v0 : Nat} {h : am_H} {r : am_H} (hb : Ref_readPart_138 dd v0 h = some r) : Eqs h r := Ref_readPartG_Q _ _ hb
theorem Ref_readPart_138_s {dd : Nat} {v0 : Nat} {h : am_H} {r : am_H} (hb : Ref_readPart_138 dd v0 h = some r) : Sx (3 + dd) mX12_readPart 138 [.ref v0, .retAddr 0, .retAddr 0] [] h none r := (Ref_readPartG_T _ _ hb).2.2.2.2.1 rfl
set_option maxHeartbeats 1000000 in
set_option maxRecDepth 100000 in
theorem Ref_readTerm_e (dd : Nat) (v0 : Nat) (v1 : Int32) (h : am_H) : Ref_readTerm dd v0 v1 h = (if isO h 12 v0 = true then (if 0 < dd then Ref_readPart (dd - 1) v0 v1 h else none).bind fun r72 => Ref_readTerm_5 dd v0 v1 r72 else none) := (fx_eq Ref_readPartG_M (10000, dd, v1, v0, h)).trans ((if_neg (show ¬ (10000 : Nat) = 0 by decide)).trans ((if_neg (show ¬ (10000 : Nat) = 37 by decide)).trans ((if_neg (show ¬ (10000 : Nat) = 95 by decide)).trans ((if_neg (show ¬ (10000 : Nat) = 111 by decide)).trans ((if_neg (show ¬ (10000 : Nat) = 138 by decide)).trans (if_pos rfl))))))
theorem Ref_readTerm_q {dd : Nat} {v0 : Nat} {v1 : Int32} {h : am_H} {r : am_H} (hb : Ref_readTerm dd v0 v1 h = some r) : Eqs h r := Ref_readPartG_Q _ _ hb
theorem Ref_readTerm_s {dd : Nat} {v0 : Nat} {v1 : Int32} {h : am_H} {r : am_H} (hb : Ref_readTerm dd v0 v1 h = some r) : Sx (3 + dd) mX12_readTerm 0 (am_en [.ref v0, .int v1] 2) [] h none r := ((Ref_readPartG_T _ _ hb).2.2.2.2.2.1 rfl).2
theorem Ref_readTerm_o {dd : Nat} {v0 : Nat} {v1 : Int32} {h : am_H} {r : am_H} (hb : Ref_readTerm dd v0 v1 h = some r) : isO h 12 v0 = true := ((Ref_readPartG_T _ _ hb).2.2.2.2.2.1 rfl).1
set_option maxHeartbeats 1000000 in
set_option maxRecDepth 100000 in
theorem Ref_readTerm_5_e (dd : Nat) (v0 : Nat) (v1 : Int32) (h : am_H) : Ref_readTerm_5 dd v0 v1 h = ((Ref_sign (42 : Int32) h).bind fun x75 => (Ref_takes0 v0 x75 h).bind fun r77 => if r77.1 = (0 : Int32) then (Ref_sign (47 : Int32) r77.2).bind fun x82 => (Ref_takes0 v0 x82 r77.2).bind fun r84 => if r84.1 = (0 : Int32) then (Ref_sign (37 : Int32) r84.2).bind fun x89 => (Ref_takes0 v0 x89 r84.2).bind fun r91 => if r91.1 = (0 : Int32) then some r91.2 else Ref_readTerm_41 dd v0 v1 r91.2 else Ref_readTerm_41 dd v0 v1 r84.2 else Ref_readTerm_41 dd v0 v1 r77.2) := (fx_eq Ref_readPartG_M (10005, dd, v1, v0, h)).trans ((if_neg (show ¬ (10005 : Nat) = 0 by decide)).trans ((if_neg (show ¬ (10005 : Nat) = 37 by decide)).trans ((if_neg (show ¬ (10005 : Nat) = 95 by decide)).trans ((if_neg (show ¬ (10005 : Nat) = 111 by decide)).trans ((if_neg (show ¬ (10005 : Nat) = 138 by decide)).trans ((if_neg (show ¬ (10005 : Nat) = 10000 by decide)).trans (if_pos rfl)))))))
theorem Ref_readTerm_5_q {dd : Nat} {v0 : Nat} {v1 : Int32} {h : am_H} {r : am_H} (hb : Ref_readTerm_5 dd v0 v1 h = some r) : Eqs h r := Ref_readPartG_Q _ _ hb
theorem Ref_readTerm_5_s {dd : Nat} {v0 : Nat} {v1 : Int32} {h : am_H} {r : am_H} (hb : Ref_readTerm_5 dd v0 v1 h = some r) : Sx (3 + dd) mX12_readTerm 5 [.ref v0, .int v1] [] h none r := (Ref_readPartG_T _ _ hb).2.2.2.2.2.2.1 rfl
set_option maxHeartbeats 1000000 in
set_option maxRecDepth 100000 in
theorem Ref_readTerm_41_e (dd : Nat) (v0 : Nat) (v1 : Int32) (h : am_H) : Ref_readTerm_41 dd v0 v1 h = ((if 0 < dd then Ref_readPart (dd - 1) v0 v1 h else none).bind fun r96 => Ref_readTerm_5 dd v0 v1 r96) := (fx_eq Ref_readPartG_M (10041, dd, v1, v0, h)).trans ((if_neg (show ¬ (10041 : Nat) = 0 by decide)).trans ((if_neg (show ¬ (10041 : Nat) = 37 by decide)).trans ((if_neg (show ¬ (10041 : Nat) = 95 by decide)).trans ((if_neg (show ¬ (10041 : Nat) = 111 by decide)).trans ((if_neg (show ¬ (10041 : Nat) = 138 by decide)).trans ((if_neg (show ¬ (10041 : Nat) = 10000 by decide)).trans ((if_neg (show ¬ (10041 : Nat) = 10005 by decide)).trans (if_pos rfl))))))))
theorem Ref_readTerm_41_q {dd : Nat} {v0 : Nat} {v1 : Int32} {h : am_H} {r : am_H} (hb : Ref_readTerm_41 dd v0 v1 h = some r) : Eqs h r := Ref_readPartG_Q _ _ hb
theorem Ref_readTerm_41_s {dd : Nat} {v0 : Nat} {v1 : Int32} {h : am_H} {r : am_H} (hb : Ref_readTerm_41 dd v0 v1 h = some r) : Sx (3 + dd) mX12_readTerm 41 [.ref v0, .int v1] [] h none r := (Ref_readPartG_T _ _ hb).2.2.2.2.2.2.2.1 rfl
set_option maxHeartbeats 1000000 in
set_option maxRecDepth 100000 in
theorem Ref_readSum_e (dd : Nat) (v0 : Nat) (v1 : Int32) (h : am_H) : Ref_readSum dd v0 v1 h = (if isO h 12 v0 = true then (if 0 < dd then Ref_readTerm (dd - 1) v0 v1 h else none).bind fun r99 => Ref_readSum_5 dd v0 v1 r99 else none) := (fx_eq Ref_readPartG_M (20000, dd, v1, v0, h)).trans ((if_neg (show ¬ (20000 : Nat) = 0 by decide)).trans ((if_neg (show ¬ (20000 : Nat) = 37 by decide)).trans ((if_neg (show ¬ (20000 : Nat) = 95 by decide)).trans ((if_neg (show ¬ (20000 : Nat) = 111 by decide)).trans ((if_neg (show ¬ (20000 : Nat) = 138 by decide)).trans ((if_neg (show ¬ (20000 : Nat) = 10000 by decide)).trans ((if_neg (show ¬ (20000 : Nat) = 10005 by decide)).trans ((if_neg (show ¬ (20000 : Nat) = 10041 by decide)).trans (if_pos rfl)))))))))
theorem Ref_readSum_q {dd : Nat} {v0 : Nat} {v1 : Int32} {h : am_H} {r : am_H} (hb : Ref_readSum dd v0 v1 h = some r) : Eqs h r := Ref_readPartG_Q _ _ hb
theorem Ref_readSum_s {dd : Nat} {v0 : Nat} {v1 : Int32} {h : am_H} {r : am_H} (hb : Ref_readSum dd v0 v1 h = some r) : Sx (3 + dd) mX12_readSum 0 (am_en [.ref v0, .int v1] 2) [] h none r := ((Ref_readPartG_T _ _ hb).2.2.2.2.2.2.2.2.1 rfl).2
theorem Ref_readSum_o {dd : Nat} {v0 : Nat} {v1 : Int32} {h : am_H} {r : am_H} (hb : Ref_readSum dd v0 v1 h = some r) : isO h 12 v0 = true := ((Ref_readPartG_T _ _ hb).2.2.2.2.2.2.2.2.1 rfl).1
set_option maxHeartbeats 1000000 in
set_option maxRecDepth 100000 in
theorem Ref_readSum_5_e (dd : Nat) (v0 : Nat) (v1 : Int32) (h : am_H) : Ref_readSum_5 dd v0 v1 h = ((Ref_sign (43 : Int32) h).bind fun x102 => (Ref_takes0 v0 x102 h).bind fun r104 => if r104.1 = (0 : Int32) then (Ref_sign (45 : Int32) r104.2).bind fun x109 => (Ref_takes0 v0 x109 r104.2).bind fun r111 => if r111.1 = (0 : Int32) then some r111.2 else Ref_readSum_29 dd v0 v1 r111.2 else Ref_readSum_29 dd v0 v1 r104.2) := (fx_eq Ref_readPartG_M (20005, dd, v1, v0, h)).trans ((if_neg (show ¬ (20005 : Nat) = 0 by decide)).trans ((if_neg (show ¬ (20005 : Nat) = 37 by decide)).trans ((if_neg (show ¬ (20005 : Nat) = 95 by decide)).trans ((if_neg (show ¬ (20005 : Nat) = 111 by decide)).trans ((if_neg (show ¬ (20005 : Nat) = 138 by decide)).trans ((if_neg (show ¬ (20005 : Nat) = 10000 by decide)).trans ((if_neg (show ¬ (20005 : Nat) = 10005 by decide)).trans ((if_neg (show ¬ (20005 : Nat) = 10041 by decide)).trans ((if_neg (show ¬ (20005 : Nat) = 20000 by decide)).trans (if_pos rfl))))))))))
theorem Ref_readSum_5_q {dd : Nat} {v0 : Nat} {v1 : Int32} {h : am_H} {r : am_H} (hb : Ref_readSum_5 dd v0 v1 h = some r) : Eqs h r := Ref_readPartG_Q _ _ hb
theorem Ref_readSum_5_s {dd : Nat} {v0 : Nat} {v1 : Int32} {h : am_H} {r : am_H} (hb : Ref_readSum_5 dd v0 v1 h = some r) : Sx (3 + dd) mX12_readSum 5 [.ref v0, .int v1] [] h none r := (Ref_readPartG_T _ _ hb).2.2.2.2.2.2.2.2.2.1 rfl
set_option maxHeartbeats 1000000 in
set_option maxRecDepth 100000 in
theorem Ref_readSum_29_e (dd : Nat) (v0 : Nat) (v1 : Int32) (h : am_H) : Ref_readSum_29 dd v0 v1 h = ((if 0 < dd then Ref_readTerm (dd - 1) v0 v1 h else none).bind fun r116 => Ref_readSum_5 dd v0 v1 r116) := (fx_eq Ref_readPartG_M (20029, dd, v1, v0, h)).trans ((if_neg (show ¬ (20029 : Nat) = 0 by decide)).trans ((if_neg (show ¬ (20029 : Nat) = 37 by decide)).trans ((if_neg (show ¬ (20029 : Nat) = 95 by decide)).trans ((if_neg (show ¬ (20029 : Nat) = 111 by decide)).trans ((if_neg (show ¬ (20029 : Nat) = 138 by decide)).trans ((if_neg (show ¬ (20029 : Nat) = 10000 by decide)).trans ((if_neg (show ¬ (20029 : Nat) = 10005 by decide)).trans ((if_neg (show ¬ (20029 : Nat) = 10041 by decide)).trans ((if_neg (show ¬ (20029 : Nat) = 20000 by decide)).trans ((if_neg (show ¬ (20029 : Nat) = 20005 by decide)).trans (if_pos rfl)))))))))))
theorem Ref_readSum_29_q {dd : Nat} {v0 : Nat} {v1 : Int32} {h : am_H} {r : am_H} (hb : Ref_readSum_29 dd v0 v1 h = some r) : Eqs h r := Ref_readPartG_Q _ _ hb
theorem Ref_readSum_29_s {dd : Nat} {v0 : Nat} {v1 : Int32} {h : am_H} {r : am_H} (hb : Ref_readSum_29 dd v0 v1 h = some r) : Sx (3 + dd) mX12_readSum 29 [.ref v0, .int v1] [] h none r := (Ref_readPartG_T _ _ hb).2.2.2.2.2.2.2.2.2.2.1 rfl
