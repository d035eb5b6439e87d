/-! the reference: its methods as functions (by wip/whole/dec.py) -/
set_option maxHeartbeats 1000000 in
set_option maxRecDepth 100000 in
noncomputable def Ref_readPlain_b (g : (Nat × Nat × Int32 × Int32 × Nat × am_H) → Option am_H) (dd : Nat) (v0 : Nat) (v1 : Int32) (h : am_H) : Option am_H := if isO h 12 v0 = true then g (2, dd, v1, (1 : Int32), v0, h) else none
set_option maxHeartbeats 1000000 in
set_option maxRecDepth 100000 in
theorem Ref_readPlain_m {g g2 : (Nat × Nat × Int32 × Int32 × Nat × am_H) → Option am_H} (hg : ∀ s, Le (g s) (g2 s)) (dd : Nat) (v0 : Nat) (v1 : Int32) (h : am_H) : Le (Ref_readPlain_b g dd v0 v1 h) (Ref_readPlain_b g2 dd v0 v1 h) := by unfold Ref_readPlain_b; exact le_i (hg _) (le_r _)
set_option maxHeartbeats 1000000 in
set_option maxRecDepth 100000 in
noncomputable def Ref_readPlain_2_b (g : (Nat × Nat × Int32 × Int32 × Nat × am_H) → Option am_H) (dd : Nat) (v0 : Nat) (v1 : Int32) (v2 : Int32) (h : am_H) : Option am_H := if v2 = (0 : Int32) then (Ref_fine v0 h).bind fun x3 => if x3 = (0 : Int32) then some h else (gR h 12 v0 14).bind fun x7 => (gI h 12 v0 18).bind fun x9 => (aI h 0 x7 x9).bind fun x11 => (Ref_sign (40 : Int32) h).bind fun x13 => if x11 = x13 then if v1 = (8 : Int32) then (Ref_faults v0 h).bind fun h41 => g (53, dd, v1, 0, v0, h41) else g (53, dd, v1, 0, v0, h) else (Ref_readSum 40 v0 v1 h).bind fun h17 => (Ref_sign (60 : Int32) h17).bind fun x20 => (Ref_takes0 v0 x20 h17).bind fun r22 => if r22.1 = (0 : Int32) then (Ref_sign (62 : Int32) r22.2).bind fun x27 => (Ref_takes0 v0 x27 r22.2).bind fun r29 => if r29.1 = (0 : Int32) then (Ref_sign (61 : Int32) r29.2).bind fun x34 => (Ref_must v0 x34 r29.2).bind fun h36 => g (128, dd, v1, 0, v0, h36) else g (128, dd, v1, 0, v0, r29.2) else g (128, dd, v1, 0, v0, r22.2) else (Ref_takes0 v0 (7 : Int32) h).bind fun r44 => g (2, dd, v1, r44.1, v0, r44.2)
set_option maxHeartbeats 1000000 in
set_option maxRecDepth 100000 in
theorem Ref_readPlain_2_m {g g2 : (Nat × Nat × Int32 × Int32 × Nat × am_H) → Option am_H} (hg : ∀ s, Le (g s) (g2 s)) (dd : Nat) (v0 : Nat) (v1 : Int32) (v2 : Int32) (h : am_H) : Le (Ref_readPlain_2_b g dd v0 v1 v2 h) (Ref_readPlain_2_b g2 dd v0 v1 v2 h) := by unfold Ref_readPlain_2_b; exact le_i (le_b (le_r _) fun x3 => le_i (le_r _) (le_b (le_r _) fun x7 => le_b (le_r _) fun x9 => le_b (le_r _) fun x11 => le_b (le_r _) fun x13 => le_i (le_i (le_b (le_r _) fun h41 => hg _) (hg _)) (le_b (le_r _) fun h17 => le_b (le_r _) fun x20 => le_b (le_r _) fun r22 => le_i (le_b (le_r _) fun x27 => le_b (le_r _) fun r29 => le_i (le_b (le_r _) fun x34 => le_b (le_r _) fun h36 => hg _) (hg _)) (hg _)))) (le_b (le_r _) fun r44 => hg _)
set_option maxHeartbeats 1000000 in
set_option maxRecDepth 100000 in
noncomputable def Ref_readPlain_53_b (g : (Nat × Nat × Int32 × Int32 × Nat × am_H) → Option am_H) (dd : Nat) (v0 : Nat) (v1 : Int32) (h : am_H) : Option am_H := (Ref_fine v0 h).bind fun x47 => if x47 = (0 : Int32) then some h else (gI h 12 v0 18).bind fun x51 => (pV h 12 v0 18 (.int (x51 + (1 : Int32)))).bind fun h53 => (if 0 < dd then g (20000, dd - 1, (v1 + (1 : Int32)), 0, v0, h53) else none).bind fun r56 => (Ref_sign (41 : Int32) r56).bind fun x59 => (Ref_must v0 x59 r56).bind fun h61 => some h61
set_option maxHeartbeats 1000000 in
set_option maxRecDepth 100000 in
theorem Ref_readPlain_53_m {g g2 : (Nat × Nat × Int32 × Int32 × Nat × am_H) → Option am_H} (hg : ∀ s, Le (g s) (g2 s)) (dd : Nat) (v0 : Nat) (v1 : Int32) (h : am_H) : Le (Ref_readPlain_53_b g dd v0 v1 h) (Ref_readPlain_53_b g2 dd v0 v1 h) := by unfold Ref_readPlain_53_b; exact le_b (le_r _) fun x47 => le_i (le_r _) (le_b (le_r _) fun x51 => le_b (le_r _) fun h53 => le_b (le_i (hg _) (le_r _)) fun r56 => le_r _)
set_option maxHeartbeats 1000000 in
set_option maxRecDepth 100000 in
noncomputable def Ref_readPlain_128_b (g : (Nat × Nat × Int32 × Int32 × Nat × am_H) → Option am_H) (dd : Nat) (v0 : Nat) (v1 : Int32) (h : am_H) : Option am_H := (Ref_readSum 40 v0 v1 h).bind fun h64 => some h64
set_option maxHeartbeats 1000000 in
set_option maxRecDepth 100000 in
theorem Ref_readPlain_128_m {g g2 : (Nat × Nat × Int32 × Int32 × Nat × am_H) → Option am_H} (hg : ∀ s, Le (g s) (g2 s)) (dd : Nat) (v0 : Nat) (v1 : Int32) (h : am_H) : Le (Ref_readPlain_128_b g dd v0 v1 h) (Ref_readPlain_128_b g2 dd v0 v1 h) := by unfold Ref_readPlain_128_b; exact le_r _
set_option maxHeartbeats 1000000 in
set_option maxRecDepth 100000 in
noncomputable def Ref_readBoth_b (g : (Nat × Nat × Int32 × Int32 × Nat × am_H) → Option am_H) (dd : Nat) (v0 : Nat) (v1 : Int32) (h : am_H) : Option am_H := if isO h 12 v0 = true then (if 0 < dd then g (0, dd - 1, v1, 0, v0, h) else none).bind fun r67 => g (10005, dd, v1, 0, v0, r67) else none
set_option maxHeartbeats 1000000 in
set_option maxRecDepth 100000 in
theorem Ref_readBoth_m {g g2 : (Nat × Nat × Int32 × Int32 × Nat × am_H) → Option am_H} (hg : ∀ s, Le (g s) (g2 s)) (dd : Nat) (v0 : Nat) (v1 : Int32) (h : am_H) : Le (Ref_readBoth_b g dd v0 v1 h) (Ref_readBoth_b g2 dd v0 v1 h) := by unfold Ref_readBoth_b; exact le_i (le_b (le_i (hg _) (le_r _)) fun r67 => hg _) (le_r _)
set_option maxHeartbeats 1000000 in
set_option maxRecDepth 100000 in
noncomputable def Ref_readBoth_5_b (g : (Nat × Nat × Int32 × Int32 × Nat × am_H) → Option am_H) (dd : Nat) (v0 : Nat) (v1 : Int32) (h : am_H) : Option am_H := (Ref_takes0 v0 (6 : Int32) h).bind fun r70 => if r70.1 = (0 : Int32) then some r70.2 else (if 0 < dd then g (0, dd - 1, v1, 0, v0, r70.2) else none).bind fun r75 => g (10005, dd, v1, 0, v0, r75)
set_option maxHeartbeats 1000000 in
set_option maxRecDepth 100000 in
theorem Ref_readBoth_5_m {g g2 : (Nat × Nat × Int32 × Int32 × Nat × am_H) → Option am_H} (hg : ∀ s, Le (g s) (g2 s)) (dd : Nat) (v0 : Nat) (v1 : Int32) (h : am_H) : Le (Ref_readBoth_5_b g dd v0 v1 h) (Ref_readBoth_5_b g2 dd v0 v1 h) := by unfold Ref_readBoth_5_b; exact le_b (le_r _) fun r70 => le_i (le_r _) (le_b (le_i (hg _) (le_r _)) fun r75 => hg _)
set_option maxHeartbeats 1000000 in
set_option maxRecDepth 100000 in
noncomputable def Ref_readTest_b (g : (Nat × Nat × Int32 × Int32 × Nat × am_H) → Option am_H) (dd : Nat) (v0 : Nat) (v1 : Int32) (h : am_H) : Option am_H := if isO h 12 v0 = true then (if 0 < dd then g (10000, dd - 1, v1, 0, v0, h) else none).bind fun r78 => g (20005, dd, v1, 0, v0, r78) else none
set_option maxHeartbeats 1000000 in
set_option maxRecDepth 100000 in
theorem Ref_readTest_m {g g2 : (Nat × Nat × Int32 × Int32 × Nat × am_H) → Option am_H} (hg : ∀ s, Le (g s) (g2 s)) (dd : Nat) (v0 : Nat) (v1 : Int32) (h : am_H) : Le (Ref_readTest_b g dd v0 v1 h) (Ref_readTest_b g2 dd v0 v1 h) := by unfold Ref_readTest_b; exact le_i (le_b (le_i (hg _) (le_r _)) fun r78 => hg _) (le_r _)
set_option maxHeartbeats 1000000 in
set_option maxRecDepth 100000 in
noncomputable def Ref_readTest_5_b (g : (Nat × Nat × Int32 × Int32 × Nat × am_H) → Option am_H) (dd : Nat) (v0 : Nat) (v1 : Int32) (h : am_H) : Option am_H := (Ref_takes0 v0 (5 : Int32) h).bind fun r81 => if r81.1 = (0 : Int32) then some r81.2 else (if 0 < dd then g (10000, dd - 1, v1, 0, v0, r81.2) else none).bind fun r86 => g (20005, dd, v1, 0, v0, r86)
set_option maxHeartbeats 1000000 in
set_option maxRecDepth 100000 in
theorem Ref_readTest_5_m {g g2 : (Nat × Nat × Int32 × Int32 × Nat × am_H) → Option am_H} (hg : ∀ s, Le (g s) (g2 s)) (dd : Nat) (v0 : Nat) (v1 : Int32) (h : am_H) : Le (Ref_readTest_5_b g dd v0 v1 h) (Ref_readTest_5_b g2 dd v0 v1 h) := by unfold Ref_readTest_5_b; exact le_b (le_r _) fun r81 => le_i (le_r _) (le_b (le_i (hg _) (le_r _)) fun r86 => hg _)
noncomputable def Ref_readPlainG_F (g : (Nat × Nat × Int32 × Int32 × Nat × am_H) → Option am_H) (s : (Nat × Nat × Int32 × Int32 × Nat × am_H)) : Option am_H := if s.1 = 0 then Ref_readPlain_b g s.2.1 s.2.2.2.2.1 s.2.2.1 s.2.2.2.2.2 else if s.1 = 2 then Ref_readPlain_2_b g s.2.1 s.2.2.2.2.1 s.2.2.1 s.2.2.2.1 s.2.2.2.2.2 else if s.1 = 53 then Ref_readPlain_53_b g s.2.1 s.2.2.2.2.1 s.2.2.1 s.2.2.2.2.2 else if s.1 = 128 then Ref_readPlain_128_b g s.2.1 s.2.2.2.2.1 s.2.2.1 s.2.2.2.2.2 else if s.1 = 10000 then Ref_readBoth_b g s.2.1 s.2.2.2.2.1 s.2.2.1 s.2.2.2.2.2 else if s.1 = 10005 then Ref_readBoth_5_b g s.2.1 s.2.2.2.2.1 s.2.2.1 s.2.2.2.2.2 else if s.1 = 20000 then Ref_readTest_b g s.2.1 s.2.2.2.2.1 s.2.2.1 s.2.2.2.2.2 else if s.1 = 20005 then Ref_readTest_5_b g s.2.1 s.2.2.2.2.1 s.2.2.1 s.2.2.2.2.2 else none
theorem Ref_readPlainG_M : Mn Ref_readPlainG_F := fun g g2 hg s => by unfold Ref_readPlainG_F; exact le_i (Ref_readPlain_m hg s.2.1 s.2.2.2.2.1 s.2.2.1 s.2.2.2.2.2) (le_i (Ref_readPlain_2_m hg s.2.1 s.2.2.2.2.1 s.2.2.1 s.2.2.2.1 s.2.2.2.2.2) (le_i (Ref_readPlain_53_m hg s.2.1 s.2.2.2.2.1 s.2.2.1 s.2.2.2.2.2) (le_i (Ref_readPlain_128_m hg s.2.1 s.2.2.2.2.1 s.2.2.1 s.2.2.2.2.2) (le_i (Ref_readBoth_m hg s.2.1 s.2.2.2.2.1 s.2.2.1 s.2.2.2.2.2) (le_i (Ref_readBoth_5_m hg s.2.1 s.2.2.2.2.1 s.2.2.1 s.2.2.2.2.2) (le_i (Ref_readTest_m hg s.2.1 s.2.2.2.2.1 s.2.2.1 s.2.2.2.2.2) (le_i (Ref_readTest_5_m hg s.2.1 s.2.2.2.2.1 s.2.2.1 s.2.2.2.2.2) (le_r _))))))))
def Ref_readPlainG_P (s : (Nat × Nat × Int32 × Int32 × Nat × am_H)) (r : am_H) : Prop := (s.1 = 0 → isO s.2.2.2.2.2 12 s.2.2.2.2.1 = true ∧ Sx (44 + s.2.1) mX12_readPlain 0 (am_en [.ref s.2.2.2.2.1, .int s.2.2.1] 4) [] s.2.2.2.2.2 none r) ∧ (s.1 = 2 → Sx (44 + s.2.1) mX12_readPlain 2 [.ref s.2.2.2.2.1, .int s.2.2.1, .int s.2.2.2.1, .retAddr 0] [] s.2.2.2.2.2 none r) ∧ (s.1 = 53 → Sx (44 + s.2.1) mX12_readPlain 53 [.ref s.2.2.2.2.1, .int s.2.2.1, .retAddr 0, .retAddr 0] [] s.2.2.2.2.2 none r) ∧ (s.1 = 128 → Sx (44 + s.2.1) mX12_readPlain 128 [.ref s.2.2.2.2.1, .int s.2.2.1, .retAddr 0, .retAddr 0] [] s.2.2.2.2.2 none r) ∧ (s.1 = 10000 → isO s.2.2.2.2.2 12 s.2.2.2.2.1 = true ∧ Sx (44 + s.2.1) mX12_readBoth 0 (am_en [.ref s.2.2.2.2.1, .int s.2.2.1] 2) [] s.2.2.2.2.2 none r) ∧ (s.1 = 10005 → Sx (44 + s.2.1) mX12_readBoth 5 [.ref s.2.2.2.2.1, .int s.2.2.1] [] s.2.2.2.2.2 none r) ∧ (s.1 = 20000 → isO s.2.2.2.2.2 12 s.2.2.2.2.1 = true ∧ Sx (44 + s.2.1) mX12_readTest 0 (am_en [.ref s.2.2.2.2.1, .int s.2.2.1] 2) [] s.2.2.2.2.2 none r) ∧ (s.1 = 20005 → Sx (44 + s.2.1) mX12_readTest 5 [.ref s.2.2.2.2.1, .int s.2.2.1] [] s.2.2.2.2.2 none r) ∧ True
set_option maxHeartbeats 1000000 in
set_option maxRecDepth 100000 in
theorem Ref_readPlain_t {g : (Nat × Nat × Int32 × Int32 × Nat × am_H) → Option am_H} (hg : ∀ s r, g s = some r → Ref_readPlainG_P s r) {dd : Nat} {v0 : Nat} {v1 : Int32} {h : am_H} {r : am_H} (hb : Ref_readPlain_b g dd v0 v1 h = some r) : isO h 12 v0 = true ∧ Sx (44 + dd) mX12_readPlain 0 (am_en [.ref v0, .int v1] 4) [] h none r := by
  unfold Ref_readPlain_b at hb
  obtain ⟨ho, hb⟩ := iz hb
  refine ⟨ho, ?_⟩
  show Sx (44 + dd) mX12_readPlain 0 [.ref v0, .int v1, .retAddr 0, .retAddr 0] [] h none r
  refine Sx.o (fun _ _ _ k => op_iconst (1 : Int32) dX12_readPlain_0 (by decide) k) ?_
  refine Sx.o (L' := [.ref v0, .int v1, .int (1 : Int32), .retAddr 0]) (fun _ _ _ k => ex_istore_n dX12_readPlain_1 (by decide) k) ?_
  exact (hg _ _ hb).2.1 rfl
set_option maxHeartbeats 1000000 in
set_option maxRecDepth 100000 in
theorem Ref_readPlain_2_t {g : (Nat × Nat × Int32 × Int32 × Nat × am_H) → Option am_H} (hg : ∀ s r, g s = some r → Ref_readPlainG_P s r) {dd : Nat} {v0 : Nat} {v1 : Int32} {v2 : Int32} {h : am_H} {r : am_H} (hb : Ref_readPlain_2_b g dd v0 v1 v2 h = some r) : Sx (44 + dd) mX12_readPlain 2 [.ref v0, .int v1, .int v2, .retAddr 0] [] h none r := by
  unfold Ref_readPlain_2_b at hb
  refine Sx.o (fun _ _ _ k => ex_iload_n dX12_readPlain_2 rfl k) ?_
  refine Sx.b (fun _ _ _ k1 k2 => ex_if_eq 16 dX12_readPlain_3 (by decide) k1 k2) (fun q => ?_) (fun q => ?_)
  · have hb1 := ip q hb
    refine Sx.o (fun _ _ _ k => ex_aload_n dX12_readPlain_16 rfl rfl k) ?_
    obtain ⟨x3, e_x3, hb4⟩ := ob2 hb1
    refine sx_callV (dc := 0) (as := []) (stq := [.int x3]) (by omega) dX12_readPlain_17 MX12_fine kX12_171 iX12_fine sX12_fine rfl rfl (Ref_fine_o e_x3) rfl rfl (Nat.le_of_ble_eq_true rfl) (Nat.le_of_ble_eq_true rfl) (Ref_fine_s e_x3) rfl ?_
    refine Sx.bn (fun _ _ _ k1 k2 => ex_if_ne 24 dX12_readPlain_20 (by decide) k1 k2) (fun q => ?_) (fun q => ?_)
    · have hb5 := iq q hb4
      refine Sx.o (fun _ _ _ k => ex_aload_n dX12_readPlain_24 rfl rfl k) ?_
      obtain ⟨x7, e_x7, hb8⟩ := ob2 hb5
      refine Sx.o (fun _ _ _ k => op_getR fX12_50 dX12_readPlain_25 e_x7 k) ?_
      refine Sx.o (fun _ _ _ k => ex_aload_n dX12_readPlain_28 rfl rfl k) ?_
      obtain ⟨x9, e_x9, hb10⟩ := ob2 hb8
      refine Sx.o (fun _ _ _ k => op_getI fX12_174 dX12_readPlain_29 e_x9 k) ?_
      obtain ⟨x11, e_x11, hb12⟩ := ob2 hb10
      refine Sx.o (fun _ _ _ k => op_iald dX12_readPlain_32 e_x11 k) ?_
      refine Sx.o (L' := [.ref v0, .int v1, .int v2, .int x11]) (fun _ _ _ k => ex_istore_n dX12_readPlain_33 (by decide) k) ?_
      refine Sx.o (fun _ _ _ k => ex_iload_n dX12_readPlain_34 rfl k) ?_
      refine Sx.o (fun _ _ _ k => op_bipush (40 : Int32) dX12_readPlain_35 (by decide) k) ?_
      obtain ⟨x13, e_x13, hb14⟩ := ob2 hb12
      refine sx_callS (dc := 0) (as := [.int (40 : Int32)]) (stq := [.int x13, .int x11]) (by omega) dX12_readPlain_37 MX12_sign kX12_215 tX12_sign rfl rfl (Nat.le_of_ble_eq_true rfl) (Nat.le_of_ble_eq_true rfl) (Ref_sign_s e_x13) rfl ?_
      refine Sx.bn (fun _ _ _ k1 k2 => ex_icmp_ne 90 dX12_readPlain_40 (by decide) k1 k2) (fun q => ?_) (fun q => ?_)
      · have hb15 := iq q hb14
        refine Sx.o (fun _ _ _ k => ex_aload_n dX12_readPlain_90 rfl rfl k) ?_
        refine Sx.o (fun _ _ _ k => ex_iload_n dX12_readPlain_91 rfl k) ?_
        obtain ⟨h17, e_h17, hb18⟩ := ob2 hb15
        refine sx_callV (dc := (3 + 40)) (as := [.int v1]) (stq := []) (by omega) dX12_readPlain_92 MX12_readSum kX12_186 iX12_readSum sX12_readSum rfl rfl (Ref_readSum_o e_h17) rfl rfl (Nat.le_of_ble_eq_true rfl) (Nat.le_of_ble_eq_true rfl) (Ref_readSum_s e_h17) rfl ?_
        refine Sx.o (fun _ _ _ k => ex_aload_n dX12_readPlain_95 rfl rfl k) ?_
        refine Sx.o (fun _ _ _ k => op_bipush (60 : Int32) dX12_readPlain_96 (by decide) k) ?_
        obtain ⟨x20, e_x20, hb21⟩ := ob2 hb18
        refine sx_callS (dc := 0) (as := [.int (60 : Int32)]) (stq := [.int x20, .ref v0]) (by omega) dX12_readPlain_98 MX12_sign kX12_215 tX12_sign rfl rfl (Nat.le_of_ble_eq_true rfl) (Nat.le_of_ble_eq_true rfl) (Ref_sign_s e_x20) rfl ?_
        obtain ⟨r22, e_r22, hb23⟩ := ob2 hb21
        refine sx_callV (dc := 1) (as := [.int x20]) (stq := [.int r22.1]) (by omega) dX12_readPlain_101 MX12_takes0 kX12_177 iX12_takes0 sX12_takes0 rfl rfl (Ref_takes0_o e_r22) rfl rfl (Nat.le_of_ble_eq_true rfl) (Nat.le_of_ble_eq_true rfl) (Ref_takes0_s e_r22) rfl ?_
        refine Sx.bn (fun _ _ _ k1 k2 => ex_if_ne 128 dX12_readPlain_104 (by decide) k1 k2) (fun q => ?_) (fun q => ?_)
        · have hb25 := iq q hb23
          refine Sx.fg [true, true, false, false] ?_
          exact (hg _ _ hb25).2.2.2.1 rfl
        · have hb26 := ip q hb23
          refine Sx.o (fun _ _ _ k => ex_aload_n dX12_readPlain_107 rfl rfl k) ?_
          refine Sx.o (fun _ _ _ k => op_bipush (62 : Int32) dX12_readPlain_108 (by decide) k) ?_
          obtain ⟨x27, e_x27, hb28⟩ := ob2 hb26
          refine sx_callS (dc := 0) (as := [.int (62 : Int32)]) (stq := [.int x27, .ref v0]) (by omega) dX12_readPlain_110 MX12_sign kX12_215 tX12_sign rfl rfl (Nat.le_of_ble_eq_true rfl) (Nat.le_of_ble_eq_true rfl) (Ref_sign_s e_x27) rfl ?_
          obtain ⟨r29, e_r29, hb30⟩ := ob2 hb28
          refine sx_callV (dc := 1) (as := [.int x27]) (stq := [.int r29.1]) (by omega) dX12_readPlain_113 MX12_takes0 kX12_177 iX12_takes0 sX12_takes0 rfl rfl (Ref_takes0_o e_r29) rfl rfl (Nat.le_of_ble_eq_true rfl) (Nat.le_of_ble_eq_true rfl) (Ref_takes0_s e_r29) rfl ?_
          refine Sx.bn (fun _ _ _ k1 k2 => ex_if_ne 128 dX12_readPlain_116 (by decide) k1 k2) (fun q => ?_) (fun q => ?_)
          · have hb32 := iq q hb30
            refine Sx.fg [true, true, false, false] ?_
            exact (hg _ _ hb32).2.2.2.1 rfl
          · have hb33 := ip q hb30
            refine Sx.o (fun _ _ _ k => ex_aload_n dX12_readPlain_119 rfl rfl k) ?_
            refine Sx.o (fun _ _ _ k => op_bipush (61 : Int32) dX12_readPlain_120 (by decide) k) ?_
            obtain ⟨x34, e_x34, hb35⟩ := ob2 hb33
            refine sx_callS (dc := 0) (as := [.int (61 : Int32)]) (stq := [.int x34, .ref v0]) (by omega) dX12_readPlain_122 MX12_sign kX12_215 tX12_sign rfl rfl (Nat.le_of_ble_eq_true rfl) (Nat.le_of_ble_eq_true rfl) (Ref_sign_s e_x34) rfl ?_
            obtain ⟨h36, e_h36, hb37⟩ := ob2 hb35
            refine sx_callV (dc := 2) (as := [.int x34]) (stq := []) (by omega) dX12_readPlain_125 MX12_must kX12_189 iX12_must sX12_must rfl rfl (Ref_must_o e_h36) rfl rfl (Nat.le_of_ble_eq_true rfl) (Nat.le_of_ble_eq_true rfl) (Ref_must_s e_h36) rfl ?_
            refine Sx.fg [true, true, false, false] ?_
            exact (hg _ _ hb37).2.2.2.1 rfl
      · have hb16 := ip q hb14
        refine Sx.o (fun _ _ _ k => ex_iload_n dX12_readPlain_43 rfl k) ?_
        refine Sx.o (fun _ _ _ k => op_bipush (8 : Int32) dX12_readPlain_44 (by decide) k) ?_
        refine Sx.bn (fun _ _ _ k1 k2 => ex_icmp_ne 53 dX12_readPlain_46 (by decide) k1 k2) (fun q => ?_) (fun q => ?_)
        · have hb39 := iq q hb16
          refine Sx.fg [true, true, false, false] ?_
          exact (hg _ _ hb39).2.2.1 rfl
        · have hb40 := ip q hb16
          refine Sx.o (fun _ _ _ k => ex_aload_n dX12_readPlain_49 rfl rfl k) ?_
          obtain ⟨h41, e_h41, hb42⟩ := ob2 hb40
          refine sx_callV (dc := 1) (as := []) (stq := []) (by omega) dX12_readPlain_50 MX12_faults kX12_180 iX12_faults sX12_faults rfl rfl (Ref_faults_o e_h41) rfl rfl (Nat.le_of_ble_eq_true rfl) (Nat.le_of_ble_eq_true rfl) (Ref_faults_s e_h41) rfl ?_
          refine Sx.fg [true, true, false, false] ?_
          exact (hg _ _ hb42).2.2.1 rfl
    · have hb6 := ip q hb4
      obtain rfl := Option.some.inj hb6
      exact Sx.r (fun _ _ _ k => ex_vret rfl dX12_readPlain_23 k)
  · have hb2 := iq q hb
    refine Sx.o (fun _ _ _ k => ex_aload_n dX12_readPlain_6 rfl rfl k) ?_
    refine Sx.o (fun _ _ _ k => op_bipush (7 : Int32) dX12_readPlain_7 (by decide) k) ?_
    obtain ⟨r44, e_r44, hb45⟩ := ob2 hb2
    refine sx_callV (dc := 1) (as := [.int (7 : Int32)]) (stq := [.int r44.1]) (by omega) dX12_readPlain_9 MX12_takes0 kX12_177 iX12_takes0 sX12_takes0 rfl rfl (Ref_takes0_o e_r44) rfl rfl (Nat.le_of_ble_eq_true rfl) (Nat.le_of_ble_eq_true rfl) (Ref_takes0_s e_r44) rfl ?_
    refine Sx.o (L' := [.ref v0, .int v1, .int r44.1, .retAddr 0]) (fun _ _ _ k => ex_istore_n dX12_readPlain_12 (by decide) k) ?_
    refine Sx.o (fun _ _ _ k => ex_goto 2 dX12_readPlain_13 (by decide) k) ?_
    exact (hg _ _ hb45).2.1 rfl
set_option maxHeartbeats 1000000 in
set_option maxRecDepth 100000 in
theorem Ref_readPlain_53_t {g : (Nat × Nat × Int32 × Int32 × Nat × am_H) → Option am_H} (hg : ∀ s r, g s = some r → Ref_readPlainG_P s r) {dd : Nat} {v0 : Nat} {v1 : Int32} {h : am_H} {r : am_H} (hb : Ref_readPlain_53_b g dd v0 v1 h = some r) : Sx (44 + dd) mX12_readPlain 53 [.ref v0, .int v1, .retAddr 0, .retAddr 0] [] h none r := by
  unfold Ref_readPlain_53_b at hb
  refine Sx.o (fun _ _ _ k => ex_aload_n dX12_readPlain_53 rfl rfl k) ?_
  obtain ⟨x47, e_x47, hb48⟩ := ob2 hb
  refine sx_callV (dc := 0) (as := []) (stq := [.int x47]) (by omega) dX12_readPlain_54 MX12_fine kX12_171 iX12_fine sX12_fine rfl rfl (Ref_fine_o e_x47) rfl rfl (Nat.le_of_ble_eq_true rfl) (Nat.le_of_ble_eq_true rfl) (Ref_fine_s e_x47) rfl ?_
  refine Sx.bn (fun _ _ _ k1 k2 => ex_if_ne 61 dX12_readPlain_57 (by decide) k1 k2) (fun q => ?_) (fun q => ?_)
  · have hb49 := iq q hb48
    refine Sx.o (fun _ _ _ k => ex_aload_n dX12_readPlain_61 rfl rfl k) ?_
    refine Sx.o (fun _ _ _ k => ex_dup dX12_readPlain_62 rfl k) ?_
    obtain ⟨x51, e_x51, hb52⟩ := ob2 hb49
    refine Sx.o (fun _ _ _ k => op_getI fX12_174 dX12_readPlain_63 e_x51 k) ?_
    refine Sx.o (fun _ _ _ k => op_iconst (1 : Int32) dX12_readPlain_66 (by decide) k) ?_
    refine Sx.o (fun _ _ _ k => ex_iadd dX12_readPlain_67 k) ?_
    obtain ⟨h53, e_h53, hb54⟩ := ob2 hb52
    refine Sx.p (pV_q e_h53) (fun _ _ _ k => op_put pX12_174 dX12_readPlain_68 e_h53 (fun _ => rfl) (fun _ => rfl) k) ?_
    refine Sx.o (fun _ _ _ k => ex_aload_n dX12_readPlain_71 rfl rfl k) ?_
    refine Sx.o (fun _ _ _ k => ex_iload_n dX12_readPlain_72 rfl k) ?_
    refine Sx.o (fun _ _ _ k => op_iconst (1 : Int32) dX12_readPlain_73 (by decide) k) ?_
    refine Sx.o (fun _ _ _ k => ex_iadd dX12_readPlain_74 k) ?_
    obtain ⟨r56, e_r56, hb57⟩ := ob2 hb54
    obtain ⟨hdd_r56, e_r56⟩ := iz e_r56
    refine sx_callV (dc := (44 + (dd - 1))) (as := [.int (v1 + (1 : Int32))]) (stq := []) (by omega) dX12_readPlain_75 MX12_readTest kX12_192 iX12_readTest sX12_readTest rfl rfl ((fun e => ((hg _ _ e).2.2.2.2.2.2.1 rfl).1) e_r56) rfl rfl (Nat.le_of_ble_eq_true rfl) (Nat.le_of_ble_eq_true rfl) ((fun e => ((hg _ _ e).2.2.2.2.2.2.1 rfl).2) e_r56) rfl ?_
    refine Sx.o (fun _ _ _ k => ex_aload_n dX12_readPlain_78 rfl rfl k) ?_
    refine Sx.o (fun _ _ _ k => op_bipush (41 : Int32) dX12_readPlain_79 (by decide) k) ?_
    obtain ⟨x59, e_x59, hb60⟩ := ob2 hb57
    refine sx_callS (dc := 0) (as := [.int (41 : Int32)]) (stq := [.int x59, .ref v0]) (by omega) dX12_readPlain_81 MX12_sign kX12_215 tX12_sign rfl rfl (Nat.le_of_ble_eq_true rfl) (Nat.le_of_ble_eq_true rfl) (Ref_sign_s e_x59) rfl ?_
    obtain ⟨h61, e_h61, hb62⟩ := ob2 hb60
    refine sx_callV (dc := 2) (as := [.int x59]) (stq := []) (by omega) dX12_readPlain_84 MX12_must kX12_189 iX12_must sX12_must rfl rfl (Ref_must_o e_h61) rfl rfl (Nat.le_of_ble_eq_true rfl) (Nat.le_of_ble_eq_true rfl) (Ref_must_s e_h61) rfl ?_
    refine Sx.o (fun _ _ _ k => ex_goto 133 dX12_readPlain_87 (by decide) k) ?_
    obtain rfl := Option.some.inj hb62
    exact Sx.r (fun _ _ _ k => ex_vret rfl dX12_readPlain_133 k)
  · have hb50 := ip q hb48
    obtain rfl := Option.some.inj hb50
    exact Sx.r (fun _ _ _ k => ex_vret rfl dX12_readPlain_60 k)
set_option maxHeartbeats 1000000 in
set_option maxRecDepth 100000 in
theorem Ref_readPlain_128_t {g : (Nat × Nat × Int32 × Int32 × Nat × am_H) → Option am_H} (hg : ∀ s r, g s = some r → Ref_readPlainG_P s r) {dd : Nat} {v0 : Nat} {v1 : Int32} {h : am_H} {r : am_H} (hb : Ref_readPlain_128_b g dd v0 v1 h = some r) : Sx (44 + dd) mX12_readPlain 128 [.ref v0, .int v1, .retAddr 0, .retAddr 0] [] h none r := by
  unfold Ref_readPlain_128_b at hb
  refine Sx.o (fun _ _ _ k => ex_aload_n dX12_readPlain_128 rfl rfl k) ?_
  refine Sx.o (fun _ _ _ k => ex_iload_n dX12_readPlain_129 rfl k) ?_
  obtain ⟨h64, e_h64, hb65⟩ := ob2 hb
  refine sx_callV (dc := (3 + 40)) (as := [.int v1]) (stq := []) (by omega) dX12_readPlain_130 MX12_readSum kX12_186 iX12_readSum sX12_readSum rfl rfl (Ref_readSum_o e_h64) rfl rfl (Nat.le_of_ble_eq_true rfl) (Nat.le_of_ble_eq_true rfl) (Ref_readSum_s e_h64) rfl ?_
  obtain rfl := Option.some.inj hb65
  exact Sx.r (fun _ _ _ k => ex_vret rfl dX12_readPlain_133 k)
set_option maxHeartbeats 1000000 in
set_option maxRecDepth 100000 in
theorem Ref_readBoth_t {g : (Nat × Nat × Int32 × Int32 × Nat × am_H) → Option am_H} (hg : ∀ s r, g s = some r → Ref_readPlainG_P s r) {dd : Nat} {v0 : Nat} {v1 : Int32} {h : am_H} {r : am_H} (hb : Ref_readBoth_b g dd v0 v1 h = some r) : isO h 12 v0 = true ∧ Sx (44 + dd) mX12_readBoth 0 (am_en [.ref v0, .int v1] 2) [] h none r := by
  unfold Ref_readBoth_b at hb
  obtain ⟨ho, hb⟩ := iz hb
  refine ⟨ho, ?_⟩
  show Sx (44 + dd) mX12_readBoth 0 [.ref v0, .int v1] [] h none r
  refine Sx.o (fun _ _ _ k => ex_aload_n dX12_readBoth_0 rfl rfl k) ?_
  refine Sx.o (fun _ _ _ k => ex_iload_n dX12_readBoth_1 rfl k) ?_
  obtain ⟨r67, e_r67, hb68⟩ := ob2 hb
  obtain ⟨hdd_r67, e_r67⟩ := iz e_r67
  refine sx_callV (dc := (44 + (dd - 1))) (as := [.int v1]) (stq := []) (by omega) dX12_readBoth_2 MX12_readPlain kX12_212 iX12_readPlain sX12_readPlain rfl rfl ((fun e => ((hg _ _ e).1 rfl).1) e_r67) rfl rfl (Nat.le_of_ble_eq_true rfl) (Nat.le_of_ble_eq_true rfl) ((fun e => ((hg _ _ e).1 rfl).2) e_r67) rfl ?_
  exact (hg _ _ hb68).2.2.2.2.2.1 rfl
set_option maxHeartbeats 1000000 in
set_option maxRecDepth 100000 in
theorem Ref_readBoth_5_t {g : (Nat × Nat × Int32 × Int32 × Nat × am_H) → Option am_H} (hg : ∀ s r, g s = some r → Ref_readPlainG_P s r) {dd : Nat} {v0 : Nat} {v1 : Int32} {h : am_H} {r : am_H} (hb : Ref_readBoth_5_b g dd v0 v1 h = some r) : Sx (44 + dd) mX12_readBoth 5 [.ref v0, .int v1] [] h none r := by
  unfold Ref_readBoth_5_b at hb
  refine Sx.o (fun _ _ _ k => ex_aload_n dX12_readBoth_5 rfl rfl k) ?_
  refine Sx.o (fun _ _ _ k => op_bipush (6 : Int32) dX12_readBoth_6 (by decide) k) ?_
  obtain ⟨r70, e_r70, hb71⟩ := ob2 hb
  refine sx_callV (dc := 1) (as := [.int (6 : Int32)]) (stq := [.int r70.1]) (by omega) dX12_readBoth_8 MX12_takes0 kX12_177 iX12_takes0 sX12_takes0 rfl rfl (Ref_takes0_o e_r70) rfl rfl (Nat.le_of_ble_eq_true rfl) (Nat.le_of_ble_eq_true rfl) (Ref_takes0_s e_r70) rfl ?_
  refine Sx.b (fun _ _ _ k1 k2 => ex_if_eq 22 dX12_readBoth_11 (by decide) k1 k2) (fun q => ?_) (fun q => ?_)
  · have hb73 := ip q hb71
    obtain rfl := Option.some.inj hb73
    exact Sx.r (fun _ _ _ k => ex_vret rfl dX12_readBoth_22 k)
  · have hb74 := iq q hb71
    refine Sx.o (fun _ _ _ k => ex_aload_n dX12_readBoth_14 rfl rfl k) ?_
    refine Sx.o (fun _ _ _ k => ex_iload_n dX12_readBoth_15 rfl k) ?_
    obtain ⟨r75, e_r75, hb76⟩ := ob2 hb74
    obtain ⟨hdd_r75, e_r75⟩ := iz e_r75
    refine sx_callV (dc := (44 + (dd - 1))) (as := [.int v1]) (stq := []) (by omega) dX12_readBoth_16 MX12_readPlain kX12_212 iX12_readPlain sX12_readPlain rfl rfl ((fun e => ((hg _ _ e).1 rfl).1) e_r75) rfl rfl (Nat.le_of_ble_eq_true rfl) (Nat.le_of_ble_eq_true rfl) ((fun e => ((hg _ _ e).1 rfl).2) e_r75) rfl ?_
    refine Sx.o (fun _ _ _ k => ex_goto 5 dX12_readBoth_19 (by decide) k) ?_
    exact (hg _ _ hb76).2.2.2.2.2.1 rfl
set_option maxHeartbeats 1000000 in
set_option maxRecDepth 100000 in
theorem Ref_readTest_t {g : (Nat × Nat × Int32 × Int32 × Nat × am_H) → Option am_H} (hg : ∀ s r, g s = some r → Ref_readPlainG_P s r) {dd : Nat} {v0 : Nat} {v1 : Int32} {h : am_H} {r : am_H} (hb : Ref_readTest_b g dd v0 v1 h = some r) : isO h 12 v0 = true ∧ Sx (44 + dd) mX12_readTest 0 (am_en [.ref v0, .int v1] 2) [] h none r := by
  unfold Ref_readTest_b at hb
  obtain ⟨ho, hb⟩ := iz hb
  refine ⟨ho, ?_⟩
  show Sx (44 + dd) mX12_readTest 0 [.ref v0, .int v1] [] h none r
  refine Sx.o (fun _ _ _ k => ex_aload_n dX12_readTest_0 rfl rfl k) ?_
  refine Sx.o (fun _ _ _ k => ex_iload_n dX12_readTest_1 rfl k) ?_
  obtain ⟨r78, e_r78, hb79⟩ := ob2 hb
  obtain ⟨hdd_r78, e_r78⟩ := iz e_r78
  refine sx_callV (dc := (44 + (dd - 1))) (as := [.int v1]) (stq := []) (by omega) dX12_readTest_2 MX12_readBoth kX12_209 iX12_readBoth sX12_readBoth rfl rfl ((fun e => ((hg _ _ e).2.2.2.2.1 rfl).1) e_r78) rfl rfl (Nat.le_of_ble_eq_true rfl) (Nat.le_of_ble_eq_true rfl) ((fun e => ((hg _ _ e).2.2.2.2.1 rfl).2) e_r78) rfl ?_
  exact (hg _ _ hb79).2.2.2.2.2.2.2.1 rfl
set_option maxHeartbeats 1000000 in
set_option maxRecDepth 100000 in
theorem Ref_readTest_5_t {g : (Nat × Nat × Int32 × Int32 × Nat × am_H) → Option am_H} (hg : ∀ s r, g s = some r → Ref_readPlainG_P s r) {dd : Nat} {v0 : Nat} {v1 : Int32} {h : am_H} {r : am_H} (hb : Ref_readTest_5_b g dd v0 v1 h = some r) : Sx (44 + dd) mX12_readTest 5 [.ref v0, .int v1] [] h none r := by
  unfold Ref_readTest_5_b at hb
  refine Sx.o (fun _ _ _ k => ex_aload_n dX12_readTest_5 rfl rfl k) ?_
  refine Sx.o (fun _ _ _ k => op_iconst (5 : Int32) dX12_readTest_6 (by decide) k) ?_
  obtain ⟨r81, e_r81, hb82⟩ := ob2 hb
  refine sx_callV (dc := 1) (as := [.int (5 : Int32)]) (stq := [.int r81.1]) (by omega) dX12_readTest_7 MX12_takes0 kX12_177 iX12_takes0 sX12_takes0 rfl rfl (Ref_takes0_o e_r81) rfl rfl (Nat.le_of_ble_eq_true rfl) (Nat.le_of_ble_eq_true rfl) (Ref_takes0_s e_r81) rfl ?_
  refine Sx.b (fun _ _ _ k1 k2 => ex_if_eq 21 dX12_readTest_10 (by decide) k1 k2) (fun q => ?_) (fun q => ?_)
  · have hb84 := ip q hb82
    obtain rfl := Option.some.inj hb84
    exact Sx.r (fun _ _ _ k => ex_vret rfl dX12_readTest_21 k)
  · have hb85 := iq q hb82
    refine Sx.o (fun _ _ _ k => ex_aload_n dX12_readTest_13 rfl rfl k) ?_
    refine Sx.o (fun _ _ _ k => ex_iload_n dX12_readTest_14 rfl k) ?_
    obtain ⟨r86, e_r86, hb87⟩ := ob2 hb85
    obtain ⟨hdd_r86, e_r86⟩ := iz e_r86
    refine sx_callV (dc := (44 + (dd - 1))) (as := [.int v1]) (stq := []) (by omega) dX12_readTest_15 MX12_readBoth kX12_209 iX12_readBoth sX12_readBoth rfl rfl ((fun e => ((hg _ _ e).2.2.2.2.1 rfl).1) e_r86) rfl rfl (Nat.le_of_ble_eq_true rfl) (Nat.le_of_ble_eq_true rfl) ((fun e => ((hg _ _ e).2.2.2.2.1 rfl).2) e_r86) rfl ?_
    refine Sx.o (fun _ _ _ k => ex_goto 5 dX12_readTest_18 (by decide) k) ?_
    exact (hg _ _ hb87).2.2.2.2.2.2.2.1 rfl
theorem Ref_readPlainG_T : ∀ s r, fx Ref_readPlainG_F Ref_readPlainG_M s = some r → Ref_readPlainG_P s r := fx_ind Ref_readPlainG_M Ref_readPlainG_P (fun g hg s r hb => by
  unfold Ref_readPlainG_F at hb
  exact ⟨fun q => Ref_readPlain_t hg (ip q hb), fun q => Ref_readPlain_2_t hg (ip q (iq (by rw [q]; decide) hb)), fun q => Ref_readPlain_53_t hg (ip q (iq (by rw [q]; decide) (iq (by rw [q]; decide) hb))), fun q => Ref_readPlain_128_t hg (ip q (iq (by rw [q]; decide) (iq (by rw [q]; decide) (iq (by rw [q]; decide) hb)))), fun q => Ref_readBoth_t hg (ip q (iq (by rw [q]; decide) (iq (by rw [q]; decide) (iq (by rw [q]; decide) (iq (by rw [q]; decide) hb))))), fun q => Ref_readBoth_5_t hg (ip q (iq (by rw [q]; decide) (iq (by rw [q]; decide) (iq (by rw [q]; decide) (iq (by rw [q]; decide) (iq (by rw [q]; decide) hb)))))), fun q => Ref_readTest_t hg (ip q (iq (by rw [q]; decide) (iq (by rw [q]; decide) (iq (by rw [q]; decide) (iq (by rw [q]; decide) (iq (by rw [q]; decide) (iq (by rw [q]; decide) hb))))))), fun q => Ref_readTest_5_t hg (ip q (iq (by rw [q]; decide) (iq (by rw [q]; decide) (iq (by rw [q]; decide) (iq (by rw [q]; decide) (iq (by rw [q]; decide) (iq (by rw [q]; decide) (iq (by rw [q]; decide) hb)))))))), trivial⟩)
set_option maxHeartbeats 1000000 in
set_option maxRecDepth 100000 in
theorem Ref_readPlain_r {g : (Nat × Nat × Int32 × Int32 × Nat × am_H) → Option am_H} (hg : ∀ s r, g s = some r → Eqs s.2.2.2.2.2 r) {dd : Nat} {v0 : Nat} {v1 : Int32} {h : am_H} {r : am_H} (hb : Ref_readPlain_b g dd v0 v1 h = some r) : Eqs h r := by
  unfold Ref_readPlain_b at hb
  have w0 := Eqs.rf h
  obtain ⟨ho, hb⟩ := iz hb
  exact w0.tr (hg _ _ hb)
set_option maxHeartbeats 1000000 in
set_option maxRecDepth 100000 in
theorem Ref_readPlain_2_r {g : (Nat × Nat × Int32 × Int32 × Nat × am_H) → Option am_H} (hg : ∀ s r, g s = some r → Eqs s.2.2.2.2.2 r) {dd : Nat} {v0 : Nat} {v1 : Int32} {v2 : Int32} {h : am_H} {r : am_H} (hb : Ref_readPlain_2_b g dd v0 v1 v2 h = some r) : Eqs h r := by
  unfold Ref_readPlain_2_b at hb
  have w0 := Eqs.rf h
  by_cases q : v2 = (0 : Int32)
  · have hb1 := ip q hb
    obtain ⟨x3, e_x3, hb4⟩ := ob2 hb1
    by_cases q : x3 = (0 : Int32)
    · have hb6 := ip q hb4
      obtain rfl := Option.some.inj hb6
      exact w0
    · have hb5 := iq q hb4
      obtain ⟨x7, e_x7, hb8⟩ := ob2 hb5
      obtain ⟨x9, e_x9, hb10⟩ := ob2 hb8
      obtain ⟨x11, e_x11, hb12⟩ := ob2 hb10
      obtain ⟨x13, e_x13, hb14⟩ := ob2 hb12
      by_cases q : x11 = x13
      · have hb16 := ip q hb14
        by_cases q : v1 = (8 : Int32)
        · have hb40 := ip q hb16
          obtain ⟨h41, e_h41, hb42⟩ := ob2 hb40
          have w43 := w0.tr (Ref_faults_q e_h41)
          exact w43.tr (hg _ _ hb42)
        · have hb39 := iq q hb16
          exact w0.tr (hg _ _ hb39)
      · have hb15 := iq q hb14
        obtain ⟨h17, e_h17, hb18⟩ := ob2 hb15
        have w19 := w0.tr (Ref_readSum_q e_h17)
        obtain ⟨x20, e_x20, hb21⟩ := ob2 hb18
        obtain ⟨r22, e_r22, hb23⟩ := ob2 hb21
        have w24 := w19.tr (Ref_takes0_q e_r22)
        by_cases q : r22.1 = (0 : Int32)
        · have hb26 := ip q hb23
          obtain ⟨x27, e_x27, hb28⟩ := ob2 hb26
          obtain ⟨r29, e_r29, hb30⟩ := ob2 hb28
          have w31 := w24.tr (Ref_takes0_q e_r29)
          by_cases q : r29.1 = (0 : Int32)
          · have hb33 := ip q hb30
            obtain ⟨x34, e_x34, hb35⟩ := ob2 hb33
            obtain ⟨h36, e_h36, hb37⟩ := ob2 hb35
            have w38 := w31.tr (Ref_must_q e_h36)
            exact w38.tr (hg _ _ hb37)
          · have hb32 := iq q hb30
            exact w31.tr (hg _ _ hb32)
        · have hb25 := iq q hb23
          exact w24.tr (hg _ _ hb25)
  · have hb2 := iq q hb
    obtain ⟨r44, e_r44, hb45⟩ := ob2 hb2
    have w46 := w0.tr (Ref_takes0_q e_r44)
    exact w46.tr (hg _ _ hb45)
set_option maxHeartbeats 1000000 in
set_option maxRecDepth 100000 in
theorem Ref_readPlain_53_r {g : (Nat × Nat × Int32 × Int32 × Nat × am_H) → Option am_H} (hg : ∀ s r, g s = some r → Eqs s.2.2.2.2.2 r) {dd : Nat} {v0 : Nat} {v1 : Int32} {h : am_H} {r : am_H} (hb : Ref_readPlain_53_b g dd v0 v1 h = some r) : Eqs h r := by
  unfold Ref_readPlain_53_b at hb
  have w0 := Eqs.rf h
  obtain ⟨x47, e_x47, hb48⟩ := ob2 hb
  by_cases q : x47 = (0 : Int32)
  · have hb50 := ip q hb48
    obtain rfl := Option.some.inj hb50
    exact w0
  · have hb49 := iq q hb48
    obtain ⟨x51, e_x51, hb52⟩ := ob2 hb49
    obtain ⟨h53, e_h53, hb54⟩ := ob2 hb52
    have w55 := w0.tr (pV_q e_h53)
    obtain ⟨r56, e_r56, hb57⟩ := ob2 hb54
    obtain ⟨hdd_r56, e_r56⟩ := iz e_r56
    have w58 := w55.tr (hg _ _ e_r56)
    obtain ⟨x59, e_x59, hb60⟩ := ob2 hb57
    obtain ⟨h61, e_h61, hb62⟩ := ob2 hb60
    have w63 := w58.tr (Ref_must_q e_h61)
    obtain rfl := Option.some.inj hb62
    exact w63
set_option maxHeartbeats 1000000 in
set_option maxRecDepth 100000 in
theorem Ref_readPlain_128_r {g : (Nat × Nat × Int32 × Int32 × Nat × am_H) → Option am_H} (hg : ∀ s r, g s = some r → Eqs s.2.2.2.2.2 r) {dd : Nat} {v0 : Nat} {v1 : Int32} {h : am_H} {r : am_H} (hb : Ref_readPlain_128_b g dd v0 v1 h = some r) : Eqs h r := by
  unfold Ref_readPlain_128_b at hb
  have w0 := Eqs.rf h
  obtain ⟨h64, e_h64, hb65⟩ := ob2 hb
  have w66 := w0.tr (Ref_readSum_q e_h64)
  obtain rfl := Option.some.inj hb65
  exact w66
set_option maxHeartbeats 1000000 in
set_option maxRecDepth 100000 in
theorem Ref_readBoth_r {g : (Nat × Nat × Int32 × Int32 × Nat × am_H) → Option am_H} (hg : ∀ s r, g s = some r → Eqs s.2.2.2.2.2 r) {dd : Nat} {v0 : Nat} {v1 : Int32} {h : am_H} {r : am_H} (hb : Ref_readBoth_b g dd v0 v1 h = some r) : Eqs h r := by
  unfold Ref_readBoth_b at hb
  have w0 := Eqs.rf h
  obtain ⟨ho, hb⟩ := iz hb
  obtain ⟨r67, e_r67, hb68⟩ := ob2 hb
  obtain ⟨hdd_r67, e_r67⟩ := iz e_r67
  have w69 := w0.tr (hg _ _ e_r67)
  exact w69.tr (hg _ _ hb68)
set_option maxHeartbeats 1000000 in
set_option maxRecDepth 100000 in
theorem Ref_readBoth_5_r {g : (Nat × Nat × Int32 × Int32 × Nat × am_H) → Option am_H} (hg : ∀ s r, g s = some r → Eqs s.2.2.2.2.2 r) {dd : Nat} {v0 : Nat} {v1 : Int32} {h : am_H} {r : am_H} (hb : Ref_readBoth_5_b g dd v0 v1 h = some r) : Eqs h r := by
  unfold Ref_readBoth_5_b at hb
  have w0 := Eqs.rf h
  obtain ⟨r70, e_r70, hb71⟩ := ob2 hb
  have w72 := w0.tr (Ref_takes0_q e_r70)
  by_cases q : r70.1 = (0 : Int32)
  · have hb73 := ip q hb71
    obtain rfl := Option.some.inj hb73
    exact w72
  · have hb74 := iq q hb71
    obtain ⟨r75, e_r75, hb76⟩ := ob2 hb74
    obtain ⟨hdd_r75, e_r75⟩ := iz e_r75
    have w77 := w72.tr (hg _ _ e_r75)
    exact w77.tr (hg _ _ hb76)
set_option maxHeartbeats 1000000 in
set_option maxRecDepth 100000 in
theorem Ref_readTest_r {g : (Nat × Nat × Int32 × Int32 × Nat × am_H) → Option am_H} (hg : ∀ s r, g s = some r → Eqs s.2.2.2.2.2 r) {dd : Nat} {v0 : Nat} {v1 : Int32} {h : am_H} {r : am_H} (hb : Ref_readTest_b g dd v0 v1 h = some r) : Eqs h r := by
  unfold Ref_readTest_b at hb
  have w0 := Eqs.rf h
  obtain ⟨ho, hb⟩ := iz hb
  obtain ⟨r78, e_r78, hb79⟩ := ob2 hb
  obtain ⟨hdd_r78, e_r78⟩ := iz e_r78
  have w80 := w0.tr (hg _ _ e_r78)
  exact w80.tr (hg _ _ hb79)
set_option maxHeartbeats 1000000 in
set_option maxRecDepth 100000 in
theorem Ref_readTest_5_r {g : (Nat × Nat × Int32 × Int32 × Nat × am_H) → Option am_H} (hg : ∀ s r, g s = some r → Eqs s.2.2.2.2.2 r) {dd : Nat} {v0 : Nat} {v1 : Int32} {h : am_H} {r : am_H} (hb : Ref_readTest_5_b g dd v0 v1 h = some r) : Eqs h r := by
  unfold Ref_readTest_5_b at hb
  have w0 := Eqs.rf h
  obtain ⟨r81, e_r81, hb82⟩ := ob2 hb
  have w83 := w0.tr (Ref_takes0_q e_r81)
  by_cases q : r81.1 = (0 : Int32)
  · have hb84 := ip q hb82
    obtain rfl := Option.some.inj hb84
    exact w83
  · have hb85 := iq q hb82
    obtain ⟨r86, e_r86, hb87⟩ := ob2 hb85
    obtain ⟨hdd_r86, e_r86⟩ := iz e_r86
    have w88 := w83.tr (hg _ _ e_r86)
    exact w88.tr (hg _ _ hb87)
theorem Ref_readPlainG_Q : ∀ s r, fx Ref_readPlainG_F Ref_readPlainG_M s = some r → Eqs s.2.2.2.2.2 r := fx_ind Ref_readPlainG_M (fun s r => Eqs s.2.2.2.2.2 r) (fun g hg s r hb => by
  unfold Ref_readPlainG_F at hb
  by_cases q0 : s.1 = 0
  · exact Ref_readPlain_r hg (ip q0 hb)
  · have hb0 := iq q0 hb
    by_cases q1 : s.1 = 2
    · exact Ref_readPlain_2_r hg (ip q1 hb0)
    · have hb1 := iq q1 hb0
      by_cases q2 : s.1 = 53
      · exact Ref_readPlain_53_r hg (ip q2 hb1)
      · have hb2 := iq q2 hb1
        by_cases q3 : s.1 = 128
        · exact Ref_readPlain_128_r hg (ip q3 hb2)
        · have hb3 := iq q3 hb2
          by_cases q4 : s.1 = 10000
          · exact Ref_readBoth_r hg (ip q4 hb3)
          · have hb4 := iq q4 hb3
            by_cases q5 : s.1 = 10005
            · exact Ref_readBoth_5_r hg (ip q5 hb4)
            · have hb5 := iq q5 hb4
              by_cases q6 : s.1 = 20000
              · exact Ref_readTest_r hg (ip q6 hb5)
              · have hb6 := iq q6 hb5
                by_cases q7 : s.1 = 20005
                · exact Ref_readTest_5_r hg (ip q7 hb6)
                · have hb7 := iq q7 hb6
                  exact nomatch hb7)
noncomputable def Ref_readPlain (dd : Nat) (v0 : Nat) (v1 : Int32) (h : am_H) : Option am_H := fx Ref_readPlainG_F Ref_readPlainG_M (0, dd, v1, 0, v0, h)
noncomputable def Ref_readPlain_2 (dd : Nat) (v0 : Nat) (v1 : Int32) (v2 : Int32) (h : am_H) : Option am_H := fx Ref_readPlainG_F Ref_readPlainG_M (2, dd, v1, v2, v0, h)
noncomputable def Ref_readPlain_53 (dd : Nat) (v0 : Nat) (v1 : Int32) (h : am_H) : Option am_H := fx Ref_readPlainG_F Ref_readPlainG_M (53, dd, v1, 0, v0, h)
noncomputable def Ref_readPlain_128 (dd : Nat) (v0 : Nat) (v1 : Int32) (h : am_H) : Option am_H := fx Ref_readPlainG_F Ref_readPlainG_M (128, dd, v1, 0, v0, h)
noncomputable def Ref_readBoth (dd : Nat) (v0 : Nat) (v1 : Int32) (h : am_H) : Option am_H := fx Ref_readPlainG_F Ref_readPlainG_M (10000, dd, v1, 0, v0, h)
noncomputable def Ref_readBoth_5 (dd : Nat) (v0 : Nat) (v1 : Int32) (h : am_H) : Option am_H := fx Ref_readPlainG_F Ref_readPlainG_M (10005, dd, v1, 0, v0, h)
noncomputable def Ref_readTest (dd : Nat) (v0 : Nat) (v1 : Int32) (h : am_H) : Option am_H := fx Ref_readPlainG_F Ref_readPlainG_M (20000, dd, v1, 0, v0, h)
noncomputable def Ref_readTest_5 (dd : Nat) (v0 : Nat) (v1 : Int32) (h : am_H) : Option am_H := fx Ref_readPlainG_F Ref_readPlainG_M (20005, dd, v1, 0, v0, h)
set_option maxHeartbeats 1000000 in
set_option maxRecDepth 100000 in
theorem Ref_readPlain_e (dd : Nat) (v0 : Nat) (v1 : Int32) (h : am_H) : Ref_readPlain dd v0 v1 h = (if isO h 12 v0 = true then Ref_readPlain_2 dd v0 v1 (1 : Int32) h else none) := (fx_eq Ref_readPlainG_M (0, dd, v1, 0, v0, h)).trans (if_pos rfl)
theorem Ref_readPlain_q {dd : Nat} {v0 : Nat} {v1 : Int32} {h : am_H} {r : am_H} (hb : Ref_readPlain dd v0 v1 h = some r) : Eqs h r := Ref_readPlainG_Q _ _ hb
theorem Ref_readPlain_s {dd : Nat} {v0 : Nat} {v1 : Int32} {h : am_H} {r : am_H} (hb : Ref_readPlain dd v0 v1 h = some r) : Sx (44 + dd) mX12_readPlain 0 (am_en [.ref v0, .int v1] 4) [] h none r := ((Ref_readPlainG_T _ _ hb).1 rfl).2
theorem Ref_readPlain_o {dd : Nat} {v0 : Nat} {v1 : Int32} {h : am_H} {r : am_H} (hb : Ref_readPlain dd v0 v1 h = some r) : isO h 12 v0 = true := ((Ref_readPlainG_T _ _ hb).1 rfl).1
set_option maxHeartbeats 1000000 in
set_option maxRecDepth 100000 in
theorem Ref_readPlain_2_e (dd : Nat) (v0 : Nat) (v1 : Int32) (v2 : Int32) (h : am_H) : Ref_readPlain_2 dd v0 v1 v2 h = (if v2 = (0 : Int32) then (Ref_fine v0 h).bind fun x3 => if x3 = (0 : Int32) then some h else (gR h 12 v0 14).bind fun x7 => (gI h 12 v0 18).bind fun x9 => (aI h 0 x7 x9).bind fun x11 => (Ref_sign (40 : Int32) h).bind fun x13 => if x11 = x13 then if v1 = (8 : Int32) then (Ref_faults v0 h).bind fun h41 => Ref_readPlain_53 dd v0 v1 h41 else Ref_readPlain_53 dd v0 v1 h else (Ref_readSum 40 v0 v1 h).bind fun h17 => (Ref_sign (60 : Int32) h17).bind fun x20 => (Ref_takes0 v0 x20 h17).bind fun r22 => if r22.1 = (0 : Int32) then (Ref_sign (62 : Int32) r22.2).bind fun x27 => (Ref_takes0 v0 x27 r22.2).bind fun r29 => if r29.1 = (0 : Int32) then (Ref_sign (61 : Int32) r29.2).bind fun x34 => (Ref_must v0 x34 r29.2).bind fun h36 => Ref_readPlain_128 dd v0 v1 h36 else Ref_readPlain_128 dd v0 v1 r29.2 else Ref_readPlain_128 dd v0 v1 r22.2 else (Ref_takes0 v0 (7 : Int32) h).bind fun r44 => Ref_readPlain_2 dd v0 v1 r44.1 r44.2) := (fx_eq Ref_readPlainG_M (2, dd, v1, v2, v0, h)).trans ((if_neg (show ¬ (2 : Nat) = 0 by decide)).trans (if_pos rfl))
theorem Ref_readPlain_2_q {dd : Nat} {v0 : Nat} {v1 : Int32} {v2 : Int32} {h : am_H} {r : am_H} (hb : Ref_readPlain_2 dd v0 v1 v2 h = some r) : Eqs h r := Ref_readPlainG_Q _ _ hb
theorem Ref_readPlain_2_s {dd : Nat} {v0 : Nat} {v1 : Int32} {v2 : Int32} {h : am_H} {r : am_H} (hb : Ref_readPlain_2 dd v0 v1 v2 h = some r) : Sx (44 + dd) mX12_readPlain 2 [.ref v0, .int v1, .int v2, .retAddr 0] [] h none r := (Ref_readPlainG_T _ _ hb).2.1 rfl
set_option maxHeartbeats 1000000 in
set_option maxRecDepth 100000 in
theorem Ref_readPlain_53_e (dd : Nat) (v0 : Nat) (v1 : Int32) (h : am_H) : Ref_readPlain_53 dd v0 v1 h = ((Ref_fine v0 h).bind fun x47 => if x47 = (0 : Int32) then some h else (gI h 12 v0 18).bind fun x51 => (pV h 12 v0 18 (.int (x51 + (1 : Int32)))).bind fun h53 => (if 0 < dd then Ref_readTest (dd - 1) v0 (v1 + (1 : Int32)) h53 else none).bind fun r56 => (Ref_sign (41 : Int32) r56).bind fun x59 => (Ref_must v0 x59 r56).bind fun h61 => some h61) := (fx_eq Ref_readPlainG_M (53, dd, v1, 0, v0, h)).trans ((if_neg (show ¬ (53 : Nat) = 0 by decide)).trans ((if_neg (show ¬ (53 : Nat) = 2 by decide)).trans (if_pos rfl)))
theorem Ref_readPlain_53_q {dd : Nat} {v0 : Nat} {v1 : Int32} {h : am_H} {r : am_H} (hb : Ref_readPlain_53 dd v0 v1 h = some r) : Eqs h r := Ref_readPlainG_Q _ _ hb
theorem Ref_readPlain_53_s {dd : Nat} {v0 : Nat} {v1 : Int32} {h : am_H} {r : am_H} (hb : Ref_readPlain_53 dd v0 v1 h = some r) : Sx (44 + dd) mX12_readPlain 53 [.ref v0, .int v1, .retAddr 0, .retAddr 0] [] h none r := (Ref_readPlainG_T _ _ hb).2.2.1 rfl
set_option maxHeartbeats 1000000 in
set_option maxRecDepth 100000 in
theorem Ref_readPlain_128_e (dd : Nat) (v0 : Nat) (v1 : Int32) (h : am_H) : Ref_readPlain_128 dd v0 v1 h = ((Ref_readSum 40 v0 v1 h).bind fun h64 => some h64) := (fx_eq Ref_readPlainG_M (128, dd, v1, 0, v0, h)).trans ((if_neg (show ¬ (128 : Nat) = 0 by decide)).trans ((if_neg (show ¬ (128 : Nat) = 2 by decide)).trans ((if_neg (show ¬ (128 : Nat) = 53 by decide)).trans (if_pos rfl))))
theorem Ref_readPlain_128_q {dd : Nat} {v0 : Nat} {v1 : Int32} {h : am_H} {r : am_H} (hb : Ref_readPlain_128 dd v0 v1 h = some r) : Eqs h r := Ref_readPlainG_Q _ _ hb
theorem Ref_readPlain_128_s {dd : Nat} {v0 : Nat} {v1 : Int32} {h : am_H} {r : am_H} (hb : Ref_readPlain_128 dd v0 v1 h = some r) : Sx (44 + dd) mX12_readPlain 128 [.ref v0, .int v1, .retAddr 0, .retAddr 0] [] h none r := (Ref_readPlainG_T _ _ hb).2.2.2.1 rfl
set_option maxHeartbeats 1000000 in
set_option maxRecDepth 100000 in
theorem Ref_readBoth_e (dd : Nat) (v0 : Nat) (v1 : Int32) (h : am_H) : Ref_readBoth dd v0 v1 h = (if isO h 12 v0 = true then (if 0 < dd then Ref_readPlain (dd - 1) v0 v1 h else none).bind fun r67 => Ref_readBoth_5 dd v0 v1 r67 else none) := (fx_eq Ref_readPlainG_M (10000, dd, v1, 0, v0, h)).trans ((if_neg (show ¬ (10000 : Nat) = 0 by decide)).trans ((if_neg (show ¬ (10000 : Nat) = 2 by decide)).trans ((if_neg (show ¬ (10000 : Nat) = 53 by decide)).trans ((if_neg (show ¬ (10000 : Nat) = 128 by decide)).trans (if_pos rfl)))))
theorem Ref_readBoth_q {dd : Nat} {v0 : Nat} {v1 : Int32} {h : am_H} {r : am_H} (hb : Ref_readBoth dd v0 v1 h = some r) : Eqs h r := Ref_readPlainG_Q _ _ hb
theorem Ref_readBoth_s {dd : Nat} {v0 : Nat} {v1 : Int32} {h : am_H} {r : am_H} (hb : Ref_readBoth dd v0 v1 h = some r) : Sx (44 + dd) mX12_readBoth 0 (am_en [.ref v0, .int v1] 2) [] h none r := ((Ref_readPlainG_T _ _ hb).2.2.2.2.1 rfl).2
theorem Ref_readBoth_o {dd : Nat} {v0 : Nat} {v1 : Int32} {h : am_H} {r : am_H} (hb : Ref_readBoth dd v0 v1 h = some r) : isO h 12 v0 = true := ((Ref_readPlainG_T _ _ hb).2.2.2.2.1 rfl).1
set_option maxHeartbeats 1000000 in
set_option maxRecDepth 100000 in
theorem Ref_readBoth_5_e (dd : Nat) (v0 : Nat) (v1 : Int32) (h : am_H) : Ref_readBoth_5 dd v0 v1 h = ((Ref_takes0 v0 (6 : Int32) h).bind fun r70 => if r70.1 = (0 : Int32) then some r70.2 else (if 0 < dd then Ref_readPlain (dd - 1) v0 v1 r70.2 else none).bind fun r75 => Ref_readBoth_5 dd v0 v1 r75) := (fx_eq Ref_readPlainG_M (10005, dd, v1, 0, v0, h)).trans ((if_neg (show ¬ (10005 : Nat) = 0 by decide)).trans ((if_neg (show ¬ (10005 : Nat) = 2 by decide)).trans ((if_neg (show ¬ (10005 : Nat) = 53 by decide)).trans ((if_neg (show ¬ (10005 : Nat) = 128 by decide)).trans ((if_neg (show ¬ (10005 : Nat) = 10000 by decide)).trans (if_pos rfl))))))
theorem Ref_readBoth_5_q {dd : Nat} {v0 : Nat} {v1 : Int32} {h : am_H} {r : am_H} (hb : Ref_readBoth_5 dd v0 v1 h = some r) : Eqs h r := Ref_readPlainG_Q _ _ hb
theorem Ref_readBoth_5_s {dd : Nat} {v0 : Nat} {v1 : Int32} {h : am_H} {r : am_H} (hb : Ref_readBoth_5 dd v0 v1 h = some r) : Sx (44 + dd) mX12_readBoth 5 [.ref v0, .int v1] [] h none r := (Ref_readPlainG_T _ _ hb).2.2.2.2.2.1 rfl
set_option maxHeartbeats 1000000 in
set_option maxRecDepth 100000 in
theorem Ref_readTest_e (dd : Nat) (v0 : Nat) (v1 : Int32) (h : am_H) : Ref_readTest dd v0 v1 h = (if isO h 12 v0 = true then (if 0 < dd then Ref_readBoth (dd - 1) v0 v1 h else none).bind fun r78 => Ref_readTest_5 dd v0 v1 r78 else none) := (fx_eq Ref_readPlainG_M (20000, dd, v1, 0, v0, h)).trans ((if_neg (show ¬ (20000 : Nat) = 0 by decide)).trans ((if_neg (show ¬ (20000 : Nat) = 2 by decide)).trans ((if_neg (show ¬ (20000 : Nat) = 53 by decide)).trans ((if_neg (show ¬ (20000 : Nat) = 128 by decide)).trans ((if_neg (show ¬ (20000 : Nat) = 10000 by decide)).trans ((if_neg (show ¬ (20000 : Nat) = 10005 by decide)).trans (if_pos rfl)))))))
theorem Ref_readTest_q {dd : Nat} {v0 : Nat} {v1 : Int32} {h : am_H} {r : am_H} (hb : Ref_readTest dd v0 v1 h = some r) : Eqs h r := Ref_readPlainG_Q _ _ hb
theorem Ref_readTest_s {dd : Nat} {v0 : Nat} {v1 : Int32} {h : am_H} {r : am_H} (hb : Ref_readTest dd v0 v1 h = some r) : Sx (44 + dd) mX12_readTest 0 (am_en [.ref v0, .int v1] 2) [] h none r := ((Ref_readPlainG_T _ _ hb).2.2.2.2.2.2.1 rfl).2
theorem Ref_readTest_o {dd : Nat} {v0 : Nat} {v1 : Int32} {h : am_H} {r : am_H} (hb : Ref_readTest dd v0 v1 h = some r) : isO h 12 v0 = true := ((Ref_readPlainG_T _ _ hb).2.2.2.2.2.2.1 rfl).1
set_option maxHeartbeats 1000000 in
set_option maxRecDepth 100000 in
theorem Ref_readTest_5_e (dd : Nat) (v0 : Nat) (v1 : Int32) (h : am_H) : Ref_readTest_5 dd v0 v1 h = ((Ref_takes0 v0 (5 : Int32) h).bind fun r81 => if r81.1 = (0 : Int32) then some r81.2 else (if 0 < dd then Ref_readBoth (dd - 1) v0 v1 r81.2 else none).bind fun r86 => Ref_readTest_5 dd v0 v1 r86) := (fx_eq Ref_readPlainG_M (20005, dd, v1, 0, v0, h)).trans ((if_neg (show ¬ (20005 : Nat) = 0 by decide)).trans ((if_neg (show ¬ (20005 : Nat) = 2 by decide)).trans ((if_neg (show ¬ (20005 : Nat) = 53 by decide)).trans ((if_neg (show ¬ (20005 : Nat) = 128 by decide)).trans ((if_neg (show ¬ (20005 : Nat) = 10000 by decide)).trans ((if_neg (show ¬ (20005 : Nat) = 10005 by decide)).trans ((if_neg (show ¬ (20005 : Nat) = 20000 by decide)).trans (if_pos rfl))))))))
theorem Ref_readTest_5_q {dd : Nat} {v0 : Nat} {v1 : Int32} {h : am_H} {r : am_H} (hb : Ref_readTest_5 dd v0 v1 h = some r) : Eqs h r := Ref_readPlainG_Q _ _ hb
theorem Ref_readTest_5_s {dd : Nat} {v0 : Nat} {v1 : Int32} {h : am_H} {r : am_H} (hb : Ref_readTest_5 dd v0 v1 h = some r) : Sx (44 + dd) mX12_readTest 5 [.ref v0, .int v1] [] h none r := (Ref_readPlainG_T _ _ hb).2.2.2.2.2.2.2.1 rfl
set_option maxHeartbeats 1000000 in
set_option maxRecDepth 100000 in
noncomputable def Ref_readClause_29 (v0 : Nat) (h : am_H) : Option am_H := (Ref_takes0 v0 (4 : Int32) h).bind fun r1 => if r1.1 = (0 : Int32) then some r1.2 else (Ref_readTest 40 v0 (0 : Int32) r1.2).bind fun h6 => some h6
set_option maxHeartbeats 1000000 in
set_option maxRecDepth 100000 in
theorem Ref_readClause_29_s {v0 : Nat} {h : am_H} {r : am_H} (hb : Ref_readClause_29 v0 h = some r) : Sx 85 mX12_readClause 29 [.ref v0] [] h none r := by
  unfold Ref_readClause_29 at hb
  refine Sx.o (fun _ _ _ k => ex_aload_n dX12_readClause_29 rfl rfl k) ?_
  refine Sx.o (fun _ _ _ k => op_iconst (4 : Int32) dX12_readClause_30 (by decide) k) ?_
  obtain ⟨r1, e_r1, hb2⟩ := ob2 hb
  refine sx_callV (dc := 1) (as := [.int (4 : Int32)]) (stq := [.int r1.1]) (by omega) dX12_readClause_31 MX12_takes0 kX12_177 iX12_takes0 sX12_takes0 rfl rfl (Ref_takes0_o e_r1) rfl rfl (Nat.le_of_ble_eq_true rfl) (Nat.le_of_ble_eq_true rfl) (Ref_takes0_s e_r1) rfl ?_
  refine Sx.b (fun _ _ _ k1 k2 => ex_if_eq 42 dX12_readClause_34 (by decide) k1 k2) (fun q => ?_) (fun q => ?_)
  · have hb4 := ip q hb2
    obtain rfl := Option.some.inj hb4
    exact Sx.r (fun _ _ _ k => ex_vret rfl dX12_readClause_42 k)
  · have hb5 := iq q hb2
    refine Sx.o (fun _ _ _ k => ex_aload_n dX12_readClause_37 rfl rfl k) ?_
    refine Sx.o (fun _ _ _ k => op_iconst (0 : Int32) dX12_readClause_38 (by decide) k) ?_
    obtain ⟨h6, e_h6, hb7⟩ := ob2 hb5
    refine sx_callV (dc := (44 + 40)) (as := [.int (0 : Int32)]) (stq := []) (by omega) dX12_readClause_39 MX12_readTest kX12_192 iX12_readTest sX12_readTest rfl rfl (Ref_readTest_o e_h6) rfl rfl (Nat.le_of_ble_eq_true rfl) (Nat.le_of_ble_eq_true rfl) (Ref_readTest_s e_h6) rfl ?_
    obtain rfl := Option.some.inj hb7
    exact Sx.r (fun _ _ _ k => ex_vret rfl dX12_readClause_42 k)
set_option maxHeartbeats 1000000 in
set_option maxRecDepth 100000 in
theorem Ref_readClause_29_q {v0 : Nat} {h : am_H} {r : am_H} (hb : Ref_readClause_29 v0 h = some r) : Eqs h r := by
  unfold Ref_readClause_29 at hb
  have w0 := Eqs.rf h
  obtain ⟨r1, e_r1, hb2⟩ := ob2 hb
  have w3 := w0.tr (Ref_takes0_q e_r1)
  by_cases q : r1.1 = (0 : Int32)
  · have hb4 := ip q hb2
    obtain rfl := Option.some.inj hb4
    exact w3
  · have hb5 := iq q hb2
    obtain ⟨h6, e_h6, hb7⟩ := ob2 hb5
    have w8 := w3.tr (Ref_readTest_q e_h6)
    obtain rfl := Option.some.inj hb7
    exact w8
set_option maxHeartbeats 1000000 in
set_option maxRecDepth 100000 in
noncomputable def Ref_readClause_16 (v0 : Nat) (h : am_H) : Option am_H := (Ref_readSum 40 v0 (0 : Int32) h).bind fun h9 => Ref_readClause_29 v0 h9
set_option maxHeartbeats 1000000 in
set_option maxRecDepth 100000 in
theorem Ref_readClause_16_s {v0 : Nat} {h : am_H} {r : am_H} (hb : Ref_readClause_16 v0 h = some r) : Sx 85 mX12_readClause 16 [.ref v0] [] h none r := by
  unfold Ref_readClause_16 at hb
  refine Sx.o (fun _ _ _ k => ex_aload_n dX12_readClause_16 rfl rfl k) ?_
  refine Sx.o (fun _ _ _ k => op_iconst (0 : Int32) dX12_readClause_17 (by decide) k) ?_
  obtain ⟨h9, e_h9, hb10⟩ := ob2 hb
  refine sx_callV (dc := (3 + 40)) (as := [.int (0 : Int32)]) (stq := []) (by omega) dX12_readClause_18 MX12_readSum kX12_186 iX12_readSum sX12_readSum rfl rfl (Ref_readSum_o e_h9) rfl rfl (Nat.le_of_ble_eq_true rfl) (Nat.le_of_ble_eq_true rfl) (Ref_readSum_s e_h9) rfl ?_
  refine Sx.o (fun _ _ _ k => ex_goto 29 dX12_readClause_21 (by decide) k) ?_
  exact Ref_readClause_29_s hb10
set_option maxHeartbeats 1000000 in
set_option maxRecDepth 100000 in
theorem Ref_readClause_16_q {v0 : Nat} {h : am_H} {r : am_H} (hb : Ref_readClause_16 v0 h = some r) : Eqs h r := by
  unfold Ref_readClause_16 at hb
  have w0 := Eqs.rf h
  obtain ⟨h9, e_h9, hb10⟩ := ob2 hb
  have w11 := w0.tr (Ref_readSum_q e_h9)
  exact w11.tr (Ref_readClause_29_q hb10)
set_option maxHeartbeats 1000000 in
set_option maxRecDepth 100000 in
noncomputable def Ref_readClause (v0 : Nat) (h : am_H) : Option am_H := if isO h 12 v0 = true then (Ref_takes0 v0 (1 : Int32) h).bind fun r12 => if r12.1 = (0 : Int32) then (Ref_takes0 v0 (2 : Int32) r12.2).bind fun r17 => if r17.1 = (0 : Int32) then (Ref_must v0 (3 : Int32) r17.2).bind fun h22 => Ref_readClause_29 v0 h22 else Ref_readClause_16 v0 r17.2 else Ref_readClause_16 v0 r12.2 else none
set_option maxHeartbeats 1000000 in
set_option maxRecDepth 100000 in
theorem Ref_readClause_s {v0 : Nat} {h : am_H} {r : am_H} (hb : Ref_readClause v0 h = some r) : Sx 85 mX12_readClause 0 (am_en [.ref v0] 1) [] h none r := by
  unfold Ref_readClause at hb
  have hb := (iz hb).2
  show Sx 85 mX12_readClause 0 [.ref v0] [] h none r
  refine Sx.o (fun _ _ _ k => ex_aload_n dX12_readClause_0 rfl rfl k) ?_
  refine Sx.o (fun _ _ _ k => op_iconst (1 : Int32) dX12_readClause_1 (by decide) k) ?_
  obtain ⟨r12, e_r12, hb13⟩ := ob2 hb
  refine sx_callV (dc := 1) (as := [.int (1 : Int32)]) (stq := [.int r12.1]) (by omega) dX12_readClause_2 MX12_takes0 kX12_177 iX12_takes0 sX12_takes0 rfl rfl (Ref_takes0_o e_r12) rfl rfl (Nat.le_of_ble_eq_true rfl) (Nat.le_of_ble_eq_true rfl) (Ref_takes0_s e_r12) rfl ?_
  refine Sx.bn (fun _ _ _ k1 k2 => ex_if_ne 16 dX12_readClause_5 (by decide) k1 k2) (fun q => ?_) (fun q => ?_)
  · have hb15 := iq q hb13
    exact Ref_readClause_16_s hb15
  · have hb16 := ip q hb13
    refine Sx.o (fun _ _ _ k => ex_aload_n dX12_readClause_8 rfl rfl k) ?_
    refine Sx.o (fun _ _ _ k => op_iconst (2 : Int32) dX12_readClause_9 (by decide) k) ?_
    obtain ⟨r17, e_r17, hb18⟩ := ob2 hb16
    refine sx_callV (dc := 1) (as := [.int (2 : Int32)]) (stq := [.int r17.1]) (by omega) dX12_readClause_10 MX12_takes0 kX12_177 iX12_takes0 sX12_takes0 rfl rfl (Ref_takes0_o e_r17) rfl rfl (Nat.le_of_ble_eq_true rfl) (Nat.le_of_ble_eq_true rfl) (Ref_takes0_s e_r17) rfl ?_
    refine Sx.b (fun _ _ _ k1 k2 => ex_if_eq 24 dX12_readClause_13 (by decide) k1 k2) (fun q => ?_) (fun q => ?_)
    · have hb20 := ip q hb18
      refine Sx.o (fun _ _ _ k => ex_aload_n dX12_readClause_24 rfl rfl k) ?_
      refine Sx.o (fun _ _ _ k => op_iconst (3 : Int32) dX12_readClause_25 (by decide) k) ?_
      obtain ⟨h22, e_h22, hb23⟩ := ob2 hb20
      refine sx_callV (dc := 2) (as := [.int (3 : Int32)]) (stq := []) (by omega) dX12_readClause_26 MX12_must kX12_189 iX12_must sX12_must rfl rfl (Ref_must_o e_h22) rfl rfl (Nat.le_of_ble_eq_true rfl) (Nat.le_of_ble_eq_true rfl) (Ref_must_s e_h22) rfl ?_
      exact Ref_readClause_29_s hb23
    · have hb21 := iq q hb18
      exact Ref_readClause_16_s hb21
set_option maxHeartbeats 1000000 in
set_option maxRecDepth 100000 in
theorem Ref_readClause_q {v0 : Nat} {h : am_H} {r : am_H} (hb : Ref_readClause v0 h = some r) : Eqs h r := by
  unfold Ref_readClause at hb
  have hb := (iz hb).2
  have w0 := Eqs.rf h
  obtain ⟨r12, e_r12, hb13⟩ := ob2 hb
  have w14 := w0.tr (Ref_takes0_q e_r12)
  by_cases q : r12.1 = (0 : Int32)
  · have hb16 := ip q hb13
    obtain ⟨r17, e_r17, hb18⟩ := ob2 hb16
    have w19 := w14.tr (Ref_takes0_q e_r17)
    by_cases q : r17.1 = (0 : Int32)
    · have hb20 := ip q hb18
      obtain ⟨h22, e_h22, hb23⟩ := ob2 hb20
      have w24 := w19.tr (Ref_must_q e_h22)
      exact w24.tr (Ref_readClause_29_q hb23)
    · have hb21 := iq q hb18
      exact w19.tr (Ref_readClause_16_q hb21)
  · have hb15 := iq q hb13
    exact w14.tr (Ref_readClause_16_q hb15)
theorem Ref_readClause_o {v0 : Nat} {h : am_H} {r : am_H} (hb : Ref_readClause v0 h = some r) : isO h 12 v0 = true := by
  unfold Ref_readClause at hb
  exact (iz hb).1
set_option maxHeartbeats 1000000 in
set_option maxRecDepth 100000 in
noncomputable def Ref_readOrder_84 (v0 : Nat) (h : am_H) : Option am_H := (Ref_takes0 v0 (4 : Int32) h).bind fun r1 => if r1.1 = (0 : Int32) then some r1.2 else (Ref_readTest 40 v0 (0 : Int32) r1.2).bind fun h6 => some h6
set_option maxHeartbeats 1000000 in
set_option maxRecDepth 100000 in
theorem Ref_readOrder_84_s {v0 : Nat} {h : am_H} {r : am_H} (hb : Ref_readOrder_84 v0 h = some r) : Sx 85 mX12_readOrder 84 [.ref v0] [] h none r := by
  unfold Ref_readOrder_84 at hb
  refine Sx.o (fun _ _ _ k => ex_aload_n dX12_readOrder_84 rfl rfl k) ?_
  refine Sx.o (fun _ _ _ k => op_iconst (4 : Int32) dX12_readOrder_85 (by decide) k) ?_
  obtain ⟨r1, e_r1, hb2⟩ := ob2 hb
  refine sx_callV (dc := 1) (as := [.int (4 : Int32)]) (stq := [.int r1.1]) (by omega) dX12_readOrder_86 MX12_takes0 kX12_177 iX12_takes0 sX12_takes0 rfl rfl (Ref_takes0_o e_r1) rfl rfl (Nat.le_of_ble_eq_true rfl) (Nat.le_of_ble_eq_true rfl) (Ref_takes0_s e_r1) rfl ?_
  refine Sx.b (fun _ _ _ k1 k2 => ex_if_eq 97 dX12_readOrder_89 (by decide) k1 k2) (fun q => ?_) (fun q => ?_)
  · have hb4 := ip q hb2
    obtain rfl := Option.some.inj hb4
    exact Sx.r (fun _ _ _ k => ex_vret rfl dX12_readOrder_97 k)
  · have hb5 := iq q hb2
    refine Sx.o (fun _ _ _ k => ex_aload_n dX12_readOrder_92 rfl rfl k) ?_
    refine Sx.o (fun _ _ _ k => op_iconst (0 : Int32) dX12_readOrder_93 (by decide) k) ?_
    obtain ⟨h6, e_h6, hb7⟩ := ob2 hb5
    refine sx_callV (dc := (44 + 40)) (as := [.int (0 : Int32)]) (stq := []) (by omega) dX12_readOrder_94 MX12_readTest kX12_192 iX12_readTest sX12_readTest rfl rfl (Ref_readTest_o e_h6) rfl rfl (Nat.le_of_ble_eq_true rfl) (Nat.le_of_ble_eq_true rfl) (Ref_readTest_s e_h6) rfl ?_
    obtain rfl := Option.some.inj hb7
    exact Sx.r (fun _ _ _ k => ex_vret rfl dX12_readOrder_97 k)
set_option maxHeartbeats 1000000 in
set_option maxRecDepth 100000 in
theorem Ref_readOrder_84_q {v0 : Nat} {h : am_H} {r : am_H} (hb : Ref_readOrder_84 v0 h = some r) : Eqs h r := by
  unfold Ref_readOrder_84 at hb
  have w0 := Eqs.rf h
  obtain ⟨r1, e_r1, hb2⟩ := ob2 hb
  have w3 := w0.tr (Ref_takes0_q e_r1)
  by_cases q : r1.1 = (0 : Int32)
  · have hb4 := ip q hb2
    obtain rfl := Option.some.inj hb4
    exact w3
  · have hb5 := iq q hb2
    obtain ⟨h6, e_h6, hb7⟩ := ob2 hb5
    have w8 := w3.tr (Ref_readTest_q e_h6)
    obtain rfl := Option.some.inj hb7
    exact w8
set_option maxHeartbeats 1000000 in
set_option maxRecDepth 100000 in
noncomputable def Ref_readOrder_63 (v0 : Nat) (h : am_H) : Option am_H := (Ref_readSum 40 v0 (0 : Int32) h).bind fun h9 => (Ref_takes0 v0 (25 : Int32) h9).bind fun r12 => if r12.1 = (0 : Int32) then Ref_readOrder_84 v0 r12.2 else (Ref_mustNumber v0 (1 : Int32) (20 : Int32) r12.2).bind fun h17 => Ref_readOrder_84 v0 h17
set_option maxHeartbeats 1000000 in
set_option maxRecDepth 100000 in
theorem Ref_readOrder_63_s {v0 : Nat} {h : am_H} {r : am_H} (hb : Ref_readOrder_63 v0 h = some r) : Sx 85 mX12_readOrder 63 [.ref v0] [] h none r := by
  unfold Ref_readOrder_63 at hb
  refine Sx.o (fun _ _ _ k => ex_aload_n dX12_readOrder_63 rfl rfl k) ?_
  refine Sx.o (fun _ _ _ k => op_iconst (0 : Int32) dX12_readOrder_64 (by decide) k) ?_
  obtain ⟨h9, e_h9, hb10⟩ := ob2 hb
  refine sx_callV (dc := (3 + 40)) (as := [.int (0 : Int32)]) (stq := []) (by omega) dX12_readOrder_65 MX12_readSum kX12_186 iX12_readSum sX12_readSum rfl rfl (Ref_readSum_o e_h9) rfl rfl (Nat.le_of_ble_eq_true rfl) (Nat.le_of_ble_eq_true rfl) (Ref_readSum_s e_h9) rfl ?_
  refine Sx.o (fun _ _ _ k => ex_aload_n dX12_readOrder_68 rfl rfl k) ?_
  refine Sx.o (fun _ _ _ k => op_bipush (25 : Int32) dX12_readOrder_69 (by decide) k) ?_
  obtain ⟨r12, e_r12, hb13⟩ := ob2 hb10
  refine sx_callV (dc := 1) (as := [.int (25 : Int32)]) (stq := [.int r12.1]) (by omega) dX12_readOrder_71 MX12_takes0 kX12_177 iX12_takes0 sX12_takes0 rfl rfl (Ref_takes0_o e_r12) rfl rfl (Nat.le_of_ble_eq_true rfl) (Nat.le_of_ble_eq_true rfl) (Ref_takes0_s e_r12) rfl ?_
  refine Sx.b (fun _ _ _ k1 k2 => ex_if_eq 84 dX12_readOrder_74 (by decide) k1 k2) (fun q => ?_) (fun q => ?_)
  · have hb15 := ip q hb13
    exact Ref_readOrder_84_s hb15
  · have hb16 := iq q hb13
    refine Sx.o (fun _ _ _ k => ex_aload_n dX12_readOrder_77 rfl rfl k) ?_
    refine Sx.o (fun _ _ _ k => op_iconst (1 : Int32) dX12_readOrder_78 (by decide) k) ?_
    refine Sx.o (fun _ _ _ k => op_bipush (20 : Int32) dX12_readOrder_79 (by decide) k) ?_
    obtain ⟨h17, e_h17, hb18⟩ := ob2 hb16
    refine sx_callV (dc := 2) (as := [.int (1 : Int32), .int (20 : Int32)]) (stq := []) (by omega) dX12_readOrder_81 MX12_mustNumber kX12_195 iX12_mustNumber sX12_mustNumber rfl rfl (Ref_mustNumber_o e_h17) rfl rfl (Nat.le_of_ble_eq_true rfl) (Nat.le_of_ble_eq_true rfl) (Ref_mustNumber_s e_h17) rfl ?_
    exact Ref_readOrder_84_s hb18
set_option maxHeartbeats 1000000 in
set_option maxRecDepth 100000 in
theorem Ref_readOrder_63_q {v0 : Nat} {h : am_H} {r : am_H} (hb : Ref_readOrder_63 v0 h = some r) : Eqs h r := by
  unfold Ref_readOrder_63 at hb
  have w0 := Eqs.rf h
  obtain ⟨h9, e_h9, hb10⟩ := ob2 hb
  have w11 := w0.tr (Ref_readSum_q e_h9)
  obtain ⟨r12, e_r12, hb13⟩ := ob2 hb10
  have w14 := w11.tr (Ref_takes0_q e_r12)
  by_cases q : r12.1 = (0 : Int32)
  · have hb15 := ip q hb13
    exact w14.tr (Ref_readOrder_84_q hb15)
  · have hb16 := iq q hb13
    obtain ⟨h17, e_h17, hb18⟩ := ob2 hb16
    have w19 := w14.tr (Ref_mustNumber_q e_h17)
    exact w19.tr (Ref_readOrder_84_q hb18)
set_option maxHeartbeats 1000000 in
set_option maxRecDepth 100000 in
noncomputable def Ref_readOrder (v0 : Nat) (h : am_H) : Option am_H := if isO h 12 v0 = true then (Ref_takes0 v0 (21 : Int32) h).bind fun r20 => if r20.1 = (0 : Int32) then (Ref_takes0 v0 (24 : Int32) r20.2).bind fun r25 => if r25.1 = (0 : Int32) then (Ref_must v0 (20 : Int32) r25.2).bind fun h30 => Ref_readOrder_63 v0 h30 else (Ref_readSum 40 v0 (0 : Int32) r25.2).bind fun h33 => (Ref_must v0 (23 : Int32) h33).bind fun h36 => Ref_readOrder_63 v0 h36 else (Ref_readSum 40 v0 (0 : Int32) r20.2).bind fun h39 => (Ref_must v0 (22 : Int32) h39).bind fun h42 => (Ref_readSum 40 v0 (0 : Int32) h42).bind fun h45 => (Ref_must v0 (23 : Int32) h45).bind fun h48 => Ref_readOrder_63 v0 h48 else none
set_option maxHeartbeats 1000000 in
set_option maxRecDepth 100000 in
theorem Ref_readOrder_s {v0 : Nat} {h : am_H} {r : am_H} (hb : Ref_readOrder v0 h = some r) : Sx 85 mX12_readOrder 0 (am_en [.ref v0] 1) [] h none r := by
  unfold Ref_readOrder at hb
  have hb := (iz hb).2
  show Sx 85 mX12_readOrder 0 [.ref v0] [] h none r
  refine Sx.o (fun _ _ _ k => ex_aload_n dX12_readOrder_0 rfl rfl k) ?_
  refine Sx.o (fun _ _ _ k => op_bipush (21 : Int32) dX12_readOrder_1 (by decide) k) ?_
  obtain ⟨r20, e_r20, hb21⟩ := ob2 hb
  refine sx_callV (dc := 1) (as := [.int (21 : Int32)]) (stq := [.int r20.1]) (by omega) dX12_readOrder_3 MX12_takes0 kX12_177 iX12_takes0 sX12_takes0 rfl rfl (Ref_takes0_o e_r20) rfl rfl (Nat.le_of_ble_eq_true rfl) (Nat.le_of_ble_eq_true rfl) (Ref_takes0_s e_r20) rfl ?_
  refine Sx.b (fun _ _ _ k1 k2 => ex_if_eq 34 dX12_readOrder_6 (by decide) k1 k2) (fun q => ?_) (fun q => ?_)
  · have hb23 := ip q hb21
    refine Sx.o (fun _ _ _ k => ex_aload_n dX12_readOrder_34 rfl rfl k) ?_
    refine Sx.o (fun _ _ _ k => op_bipush (24 : Int32) dX12_readOrder_35 (by decide) k) ?_
    obtain ⟨r25, e_r25, hb26⟩ := ob2 hb23
    refine sx_callV (dc := 1) (as := [.int (24 : Int32)]) (stq := [.int r25.1]) (by omega) dX12_readOrder_37 MX12_takes0 kX12_177 iX12_takes0 sX12_takes0 rfl rfl (Ref_takes0_o e_r25) rfl rfl (Nat.le_of_ble_eq_true rfl) (Nat.le_of_ble_eq_true rfl) (Ref_takes0_s e_r25) rfl ?_
    refine Sx.b (fun _ _ _ k1 k2 => ex_if_eq 57 dX12_readOrder_40 (by decide) k1 k2) (fun q => ?_) (fun q => ?_)
    · have hb28 := ip q hb26
      refine Sx.o (fun _ _ _ k => ex_aload_n dX12_readOrder_57 rfl rfl k) ?_
      refine Sx.o (fun _ _ _ k => op_bipush (20 : Int32) dX12_readOrder_58 (by decide) k) ?_
      obtain ⟨h30, e_h30, hb31⟩ := ob2 hb28
      refine sx_callV (dc := 2) (as := [.int (20 : Int32)]) (stq := []) (by omega) dX12_readOrder_60 MX12_must kX12_189 iX12_must sX12_must rfl rfl (Ref_must_o e_h30) rfl rfl (Nat.le_of_ble_eq_true rfl) (Nat.le_of_ble_eq_true rfl) (Ref_must_s e_h30) rfl ?_
      exact Ref_readOrder_63_s hb31
    · have hb29 := iq q hb26
      refine Sx.o (fun _ _ _ k => ex_aload_n dX12_readOrder_43 rfl rfl k) ?_
      refine Sx.o (fun _ _ _ k => op_iconst (0 : Int32) dX12_readOrder_44 (by decide) k) ?_
      obtain ⟨h33, e_h33, hb34⟩ := ob2 hb29
      refine sx_callV (dc := (3 + 40)) (as := [.int (0 : Int32)]) (stq := []) (by omega) dX12_readOrder_45 MX12_readSum kX12_186 iX12_readSum sX12_readSum rfl rfl (Ref_readSum_o e_h33) rfl rfl (Nat.le_of_ble_eq_true rfl) (Nat.le_of_ble_eq_true rfl) (Ref_readSum_s e_h33) rfl ?_
      refine Sx.o (fun _ _ _ k => ex_aload_n dX12_readOrder_48 rfl rfl k) ?_
      refine Sx.o (fun _ _ _ k => op_bipush (23 : Int32) dX12_readOrder_49 (by decide) k) ?_
      obtain ⟨h36, e_h36, hb37⟩ := ob2 hb34
      refine sx_callV (dc := 2) (as := [.int (23 : Int32)]) (stq := []) (by omega) dX12_readOrder_51 MX12_must kX12_189 iX12_must sX12_must rfl rfl (Ref_must_o e_h36) rfl rfl (Nat.le_of_ble_eq_true rfl) (Nat.le_of_ble_eq_true rfl) (Ref_must_s e_h36) rfl ?_
      refine Sx.o (fun _ _ _ k => ex_goto 63 dX12_readOrder_54 (by decide) k) ?_
      exact Ref_readOrder_63_s hb37
  · have hb24 := iq q hb21
    refine Sx.o (fun _ _ _ k => ex_aload_n dX12_readOrder_9 rfl rfl k) ?_
    refine Sx.o (fun _ _ _ k => op_iconst (0 : Int32) dX12_readOrder_10 (by decide) k) ?_
    obtain ⟨h39, e_h39, hb40⟩ := ob2 hb24
    refine sx_callV (dc := (3 + 40)) (as := [.int (0 : Int32)]) (stq := []) (by omega) dX12_readOrder_11 MX12_readSum kX12_186 iX12_readSum sX12_readSum rfl rfl (Ref_readSum_o e_h39) rfl rfl (Nat.le_of_ble_eq_true rfl) (Nat.le_of_ble_eq_true rfl) (Ref_readSum_s e_h39) rfl ?_
    refine Sx.o (fun _ _ _ k => ex_aload_n dX12_readOrder_14 rfl rfl k) ?_
    refine Sx.o (fun _ _ _ k => op_bipush (22 : Int32) dX12_readOrder_15 (by decide) k) ?_
    obtain ⟨h42, e_h42, hb43⟩ := ob2 hb40
    refine sx_callV (dc := 2) (as := [.int (22 : Int32)]) (stq := []) (by omega) dX12_readOrder_17 MX12_must kX12_189 iX12_must sX12_must rfl rfl (Ref_must_o e_h42) rfl rfl (Nat.le_of_ble_eq_true rfl) (Nat.le_of_ble_eq_true rfl) (Ref_must_s e_h42) rfl ?_
    refine Sx.o (fun _ _ _ k => ex_aload_n dX12_readOrder_20 rfl rfl k) ?_
    refine Sx.o (fun _ _ _ k => op_iconst (0 : Int32) dX12_readOrder_21 (by decide) k) ?_
    obtain ⟨h45, e_h45, hb46⟩ := ob2 hb43
    refine sx_callV (dc := (3 + 40)) (as := [.int (0 : Int32)]) (stq := []) (by omega) dX12_readOrder_22 MX12_readSum kX12_186 iX12_readSum sX12_readSum rfl rfl (Ref_readSum_o e_h45) rfl rfl (Nat.le_of_ble_eq_true rfl) (Nat.le_of_ble_eq_true rfl) (Ref_readSum_s e_h45) rfl ?_
    refine Sx.o (fun _ _ _ k => ex_aload_n dX12_readOrder_25 rfl rfl k) ?_
    refine Sx.o (fun _ _ _ k => op_bipush (23 : Int32) dX12_readOrder_26 (by decide) k) ?_
    obtain ⟨h48, e_h48, hb49⟩ := ob2 hb46
    refine sx_callV (dc := 2) (as := [.int (23 : Int32)]) (stq := []) (by omega) dX12_readOrder_28 MX12_must kX12_189 iX12_must sX12_must rfl rfl (Ref_must_o e_h48) rfl rfl (Nat.le_of_ble_eq_true rfl) (Nat.le_of_ble_eq_true rfl) (Ref_must_s e_h48) rfl ?_
    refine Sx.o (fun _ _ _ k => ex_goto 63 dX12_readOrder_31 (by decide) k) ?_
    exact Ref_readOrder_63_s hb49
set_option maxHeartbeats 1000000 in
set_option maxRecDepth 100000 in
theorem Ref_readOrder_q {v0 : Nat} {h : am_H} {r : am_H} (hb : Ref_readOrder v0 h = some r) : Eqs h r := by
  unfold Ref_readOrder at hb
  have hb := (iz hb).2
  have w0 := Eqs.rf h
  obtain ⟨r20, e_r20, hb21⟩ := ob2 hb
  have w22 := w0.tr (Ref_takes0_q e_r20)
  by_cases q : r20.1 = (0 : Int32)
  · have hb23 := ip q hb21
    obtain ⟨r25, e_r25, hb26⟩ := ob2 hb23
    have w27 := w22.tr (Ref_takes0_q e_r25)
    by_cases q : r25.1 = (0 : Int32)
    · have hb28 := ip q hb26
      obtain ⟨h30, e_h30, hb31⟩ := ob2 hb28
      have w32 := w27.tr (Ref_must_q e_h30)
      exact w32.tr (Ref_readOrder_63_q hb31)
    · have hb29 := iq q hb26
      obtain ⟨h33, e_h33, hb34⟩ := ob2 hb29
      have w35 := w27.tr (Ref_readSum_q e_h33)
      obtain ⟨h36, e_h36, hb37⟩ := ob2 hb34
      have w38 := w35.tr (Ref_must_q e_h36)
      exact w38.tr (Ref_readOrder_63_q hb37)
  · have hb24 := iq q hb21
    obtain ⟨h39, e_h39, hb40⟩ := ob2 hb24
    have w41 := w22.tr (Ref_readSum_q e_h39)
    obtain ⟨h42, e_h42, hb43⟩ := ob2 hb40
    have w44 := w41.tr (Ref_must_q e_h42)
    obtain ⟨h45, e_h45, hb46⟩ := ob2 hb43
    have w47 := w44.tr (Ref_readSum_q e_h45)
    obtain ⟨h48, e_h48, hb49⟩ := ob2 hb46
    have w50 := w47.tr (Ref_must_q e_h48)
    exact w50.tr (Ref_readOrder_63_q hb49)
theorem Ref_readOrder_o {v0 : Nat} {h : am_H} {r : am_H} (hb : Ref_readOrder v0 h = some r) : isO h 12 v0 = true := by
  unfold Ref_readOrder at hb
  exact (iz hb).1
set_option maxHeartbeats 1000000 in
set_option maxRecDepth 100000 in
noncomputable def Ref_readOne (v0 : Nat) (h : am_H) : Option am_H := if isO h 12 v0 = true then (gI h 12 v0 9).bind fun x1 => if x1 = (0 : Int32) then (Ref_readClause v0 h).bind fun h5 => some h5 else (Ref_readOrder v0 h).bind fun h8 => some h8 else none
set_option maxHeartbeats 1000000 in
set_option maxRecDepth 100000 in
theorem Ref_readOne_s {v0 : Nat} {h : am_H} {r : am_H} (hb : Ref_readOne v0 h = some r) : Sx 86 mX12_readOne 0 (am_en [.ref v0] 1) [] h none r := by
  unfold Ref_readOne at hb
  have hb := (iz hb).2
  show Sx 86 mX12_readOne 0 [.ref v0] [] h none r
  refine Sx.o (fun _ _ _ k => ex_aload_n dX12_readOne_0 rfl rfl k) ?_
  obtain ⟨x1, e_x1, hb2⟩ := ob2 hb
  refine Sx.o (fun _ _ _ k => op_getI fX12_199 dX12_readOne_1 e_x1 k) ?_
  refine Sx.b (fun _ _ _ k1 k2 => ex_if_eq 14 dX12_readOne_4 (by decide) k1 k2) (fun q => ?_) (fun q => ?_)
  · have hb3 := ip q hb2
    refine Sx.o (fun _ _ _ k => ex_aload_n dX12_readOne_14 rfl rfl k) ?_
    obtain ⟨h5, e_h5, hb6⟩ := ob2 hb3
    refine sx_callV (dc := 85) (as := []) (stq := []) (by omega) dX12_readOne_15 MX12_readClause kX12_206 iX12_readClause sX12_readClause rfl rfl (Ref_readClause_o e_h5) rfl rfl (Nat.le_of_ble_eq_true rfl) (Nat.le_of_ble_eq_true rfl) (Ref_readClause_s e_h5) rfl ?_
    obtain rfl := Option.some.inj hb6
    exact Sx.r (fun _ _ _ k => ex_vret rfl dX12_readOne_18 k)
  · have hb4 := iq q hb2
    refine Sx.o (fun _ _ _ k => ex_aload_n dX12_readOne_7 rfl rfl k) ?_
    obtain ⟨h8, e_h8, hb9⟩ := ob2 hb4
    refine sx_callV (dc := 85) (as := []) (stq := []) (by omega) dX12_readOne_8 MX12_readOrder kX12_203 iX12_readOrder sX12_readOrder rfl rfl (Ref_readOrder_o e_h8) rfl rfl (Nat.le_of_ble_eq_true rfl) (Nat.le_of_ble_eq_true rfl) (Ref_readOrder_s e_h8) rfl ?_
    refine Sx.o (fun _ _ _ k => ex_goto 18 dX12_readOne_11 (by decide) k) ?_
    obtain rfl := Option.some.inj hb9
    exact Sx.r (fun _ _ _ k => ex_vret rfl dX12_readOne_18 k)
set_option maxHeartbeats 1000000 in
set_option maxRecDepth 100000 in
theorem Ref_readOne_q {v0 : Nat} {h : am_H} {r : am_H} (hb : Ref_readOne v0 h = some r) : Eqs h r := by
  unfold Ref_readOne at hb
  have hb := (iz hb).2
  have w0 := Eqs.rf h
  obtain ⟨x1, e_x1, hb2⟩ := ob2 hb
  by_cases q : x1 = (0 : Int32)
  · have hb3 := ip q hb2
    obtain ⟨h5, e_h5, hb6⟩ := ob2 hb3
    have w7 := w0.tr (Ref_readClause_q e_h5)
    obtain rfl := Option.some.inj hb6
    exact w7
  · have hb4 := iq q hb2
    obtain ⟨h8, e_h8, hb9⟩ := ob2 hb4
    have w10 := w0.tr (Ref_readOrder_q e_h8)
    obtain rfl := Option.some.inj hb9
    exact w10
theorem Ref_readOne_o {v0 : Nat} {h : am_H} {r : am_H} (hb : Ref_readOne v0 h = some r) : isO h 12 v0 = true := by
  unfold Ref_readOne at hb
  exact (iz hb).1
set_option maxHeartbeats 1000000 in
set_option maxRecDepth 100000 in
noncomputable def Ref_wordOf_5_b (g : (Nat × Int32 × Int32 × Int32 × Int32 × Int32 × Int32 × Int32 × Nat × am_H) → Option Int32) (v0 : Nat) (v1 : Int32) (v2 : Int32) (v3 : Int32) (v4 : Int32) (h : am_H) : Option Int32 := (gR h 12 v0 6).bind fun x1 => (aL h x1).bind fun x3 => if x3 ≤ v4 then some (0 : Int32) else g (18, v1, v2, v3, v4, (0 : Int32), 0, 0, v0, h)
set_option maxHeartbeats 1000000 in
set_option maxRecDepth 100000 in
theorem Ref_wordOf_5_m {g g2 : (Nat × Int32 × Int32 × Int32 × Int32 × Int32 × Int32 × Int32 × Nat × am_H) → Option Int32} (hg : ∀ s, Le (g s) (g2 s)) (v0 : Nat) (v1 : Int32) (v2 : Int32) (v3 : Int32) (v4 : Int32) (h : am_H) : Le (Ref_wordOf_5_b g v0 v1 v2 v3 v4 h) (Ref_wordOf_5_b g2 v0 v1 v2 v3 v4 h) := by unfold Ref_wordOf_5_b; exact le_b (le_r _) fun x1 => le_b (le_r _) fun x3 => le_i (le_r _) (hg _)
set_option maxHeartbeats 1000000 in
set_option maxRecDepth 100000 in
noncomputable def Ref_wordOf_18_b (g : (Nat × Int32 × Int32 × Int32 × Int32 × Int32 × Int32 × Int32 × Nat × am_H) → Option Int32) (v0 : Nat) (v1 : Int32) (v2 : Int32) (v3 : Int32) (v4 : Int32) (v5 : Int32) (h : am_H) : Option Int32 := (gR h 12 v0 6).bind fun x7 => (aI h 1 x7 (v4 + v5)).bind fun x9 => if x9 = (32 : Int32) then if v5 = (v2 - v1) then g (52, v1, v2, v3, v4, v5, (1 : Int32), 0, v0, h) else g (52, v1, v2, v3, v4, v5, (0 : Int32), 0, v0, h) else g (18, v1, v2, v3, v4, (v5 + (1 : Int32)), 0, 0, v0, h)
set_option maxHeartbeats 1000000 in
set_option maxRecDepth 100000 in
theorem Ref_wordOf_18_m {g g2 : (Nat × Int32 × Int32 × Int32 × Int32 × Int32 × Int32 × Int32 × Nat × am_H) → Option Int32} (hg : ∀ s, Le (g s) (g2 s)) (v0 : Nat) (v1 : Int32) (v2 : Int32) (v3 : Int32) (v4 : Int32) (v5 : Int32) (h : am_H) : Le (Ref_wordOf_18_b g v0 v1 v2 v3 v4 v5 h) (Ref_wordOf_18_b g2 v0 v1 v2 v3 v4 v5 h) := by unfold Ref_wordOf_18_b; exact le_b (le_r _) fun x7 => le_b (le_r _) fun x9 => le_i (le_i (hg _) (hg _)) (hg _)
set_option maxHeartbeats 1000000 in
set_option maxRecDepth 100000 in
noncomputable def Ref_wordOf_52_b (g : (Nat × Int32 × Int32 × Int32 × Int32 × Int32 × Int32 × Int32 × Nat × am_H) → Option Int32) (v0 : Nat) (v1 : Int32) (v2 : Int32) (v3 : Int32) (v4 : Int32) (v5 : Int32) (s0 : Int32) (h : am_H) : Option Int32 := g (57, v1, v2, v3, v4, v5, s0, (0 : Int32), v0, h)
set_option maxHeartbeats 1000000 in
set_option maxRecDepth 100000 in
theorem Ref_wordOf_52_m {g g2 : (Nat × Int32 × Int32 × Int32 × Int32 × Int32 × Int32 × Int32 × Nat × am_H) → Option Int32} (hg : ∀ s, Le (g s) (g2 s)) (v0 : Nat) (v1 : Int32) (v2 : Int32) (v3 : Int32) (v4 : Int32) (v5 : Int32) (s0 : Int32) (h : am_H) : Le (Ref_wordOf_52_b g v0 v1 v2 v3 v4 v5 s0 h) (Ref_wordOf_52_b g2 v0 v1 v2 v3 v4 v5 s0 h) := by unfold Ref_wordOf_52_b; exact hg _
set_option maxHeartbeats 1000000 in
set_option maxRecDepth 100000 in
noncomputable def Ref_wordOf_57_b (g : (Nat × Int32 × Int32 × Int32 × Int32 × Int32 × Int32 × Int32 × Nat × am_H) → Option Int32) (v0 : Nat) (v1 : Int32) (v2 : Int32) (v3 : Int32) (v4 : Int32) (v5 : Int32) (v6 : Int32) (v7 : Int32) (h : am_H) : Option Int32 := if v5 ≤ v7 then g (104, v1, v2, v3, v4, v5, v6, 0, v0, h) else if v6 = (0 : Int32) then g (104, v1, v2, v3, v4, v5, v6, 0, v0, h) else (gR h 12 v0 6).bind fun x19 => (aI h 1 x19 (v4 + v7)).bind fun x21 => (gR h 12 v0 10).bind fun x23 => (aI h 1 x23 (v1 + v7)).bind fun x25 => if x21 = x25 then g (96, v1, v2, v3, v4, v5, v7, (1 : Int32), v0, h) else g (96, v1, v2, v3, v4, v5, v7, (0 : Int32), v0, h)
set_option maxHeartbeats 1000000 in
set_option maxRecDepth 100000 in
theorem Ref_wordOf_57_m {g g2 : (Nat × Int32 × Int32 × Int32 × Int32 × Int32 × Int32 × Int32 × Nat × am_H) → Option Int32} (hg : ∀ s, Le (g s) (g2 s)) (v0 : Nat) (v1 : Int32) (v2 : Int32) (v3 : Int32) (v4 : Int32) (v5 : Int32) (v6 : Int32) (v7 : Int32) (h : am_H) : Le (Ref_wordOf_57_b g v0 v1 v2 v3 v4 v5 v6 v7 h) (Ref_wordOf_57_b g2 v0 v1 v2 v3 v4 v5 v6 v7 h) := by unfold Ref_wordOf_57_b; exact le_i (hg _) (le_i (hg _) (le_b (le_r _) fun x19 => le_b (le_r _) fun x21 => le_b (le_r _) fun x23 => le_b (le_r _) fun x25 => le_i (hg _) (hg _)))
set_option maxHeartbeats 1000000 in
set_option maxRecDepth 100000 in
noncomputable def Ref_wordOf_96_b (g : (Nat × Int32 × Int32 × Int32 × Int32 × Int32 × Int32 × Int32 × Nat × am_H) → Option Int32) (v0 : Nat) (v1 : Int32) (v2 : Int32) (v3 : Int32) (v4 : Int32) (v5 : Int32) (v7 : Int32) (s0 : Int32) (h : am_H) : Option Int32 := g (57, v1, v2, v3, v4, v5, s0, (v7 + (1 : Int32)), v0, h)
set_option maxHeartbeats 1000000 in
set_option maxRecDepth 100000 in
theorem Ref_wordOf_96_m {g g2 : (Nat × Int32 × Int32 × Int32 × Int32 × Int32 × Int32 × Int32 × Nat × am_H) → Option Int32} (hg : ∀ s, Le (g s) (g2 s)) (v0 : Nat) (v1 : Int32) (v2 : Int32) (v3 : Int32) (v4 : Int32) (v5 : Int32) (v7 : Int32) (s0 : Int32) (h : am_H) : Le (Ref_wordOf_96_b g v0 v1 v2 v3 v4 v5 v7 s0 h) (Ref_wordOf_96_b g2 v0 v1 v2 v3 v4 v5 v7 s0 h) := by unfold Ref_wordOf_96_b; exact hg _
set_option maxHeartbeats 1000000 in
set_option maxRecDepth 100000 in
noncomputable def Ref_wordOf_104_b (g : (Nat × Int32 × Int32 × Int32 × Int32 × Int32 × Int32 × Int32 × Nat × am_H) → Option Int32) (v0 : Nat) (v1 : Int32) (v2 : Int32) (v3 : Int32) (v4 : Int32) (v5 : Int32) (v6 : Int32) (h : am_H) : Option Int32 := if v6 = (0 : Int32) then g (5, v1, v2, (v3 + (1 : Int32)), (v4 + (v5 + (1 : Int32))), 0, 0, 0, v0, h) else some v3
set_option maxHeartbeats 1000000 in
set_option maxRecDepth 100000 in
theorem Ref_wordOf_104_m {g g2 : (Nat × Int32 × Int32 × Int32 × Int32 × Int32 × Int32 × Int32 × Nat × am_H) → Option Int32} (hg : ∀ s, Le (g s) (g2 s)) (v0 : Nat) (v1 : Int32) (v2 : Int32) (v3 : Int32) (v4 : Int32) (v5 : Int32) (v6 : Int32) (h : am_H) : Le (Ref_wordOf_104_b g v0 v1 v2 v3 v4 v5 v6 h) (Ref_wordOf_104_b g2 v0 v1 v2 v3 v4 v5 v6 h) := by unfold Ref_wordOf_104_b; exact le_i (hg _) (le_r _)
noncomputable def Ref_wordOf_5_F (g : (Nat × Int32 × Int32 × Int32 × Int32 × Int32 × Int32 × Int32 × Nat × am_H) → Option Int32) (s : (Nat × Int32 × Int32 × Int32 × Int32 × Int32 × Int32 × Int32 × Nat × am_H)) : Option Int32 := if s.1 = 5 then Ref_wordOf_5_b g s.2.2.2.2.2.2.2.2.1 s.2.1 s.2.2.1 s.2.2.2.1 s.2.2.2.2.1 s.2.2.2.2.2.2.2.2.2 else if s.1 = 18 then Ref_wordOf_18_b g s.2.2.2.2.2.2.2.2.1 s.2.1 s.2.2.1 s.2.2.2.1 s.2.2.2.2.1 s.2.2.2.2.2.1 s.2.2.2.2.2.2.2.2.2 else if s.1 = 52 then Ref_wordOf_52_b g s.2.2.2.2.2.2.2.2.1 s.2.1 s.2.2.1 s.2.2.2.1 s.2.2.2.2.1 s.2.2.2.2.2.1 s.2.2.2.2.2.2.1 s.2.2.2.2.2.2.2.2.2 else if s.1 = 57 then Ref_wordOf_57_b g s.2.2.2.2.2.2.2.2.1 s.2.1 s.2.2.1 s.2.2.2.1 s.2.2.2.2.1 s.2.2.2.2.2.1 s.2.2.2.2.2.2.1 s.2.2.2.2.2.2.2.1 s.2.2.2.2.2.2.2.2.2 else if s.1 = 96 then Ref_wordOf_96_b g s.2.2.2.2.2.2.2.2.1 s.2.1 s.2.2.1 s.2.2.2.1 s.2.2.2.2.1 s.2.2.2.2.2.1 s.2.2.2.2.2.2.1 s.2.2.2.2.2.2.2.1 s.2.2.2.2.2.2.2.2.2 else if s.1 = 104 then Ref_wordOf_104_b g s.2.2.2.2.2.2.2.2.1 s.2.1 s.2.2.1 s.2.2.2.1 s.2.2.2.2.1 s.2.2.2.2.2.1 s.2.2.2.2.2.2.1 s.2.2.2.2.2.2.2.2.2 else none
theorem Ref_wordOf_5_M : Mn Ref_wordOf_5_F := fun g g2 hg s => by unfold Ref_wordOf_5_F; exact le_i (Ref_wordOf_5_m hg s.2.2.2.2.2.2.2.2.1 s.2.1 s.2.2.1 s.2.2.2.1 s.2.2.2.2.1 s.2.2.2.2.2.2.2.2.2) (le_i (Ref_wordOf_18_m hg s.2.2.2.2.2.2.2.2.1 s.2.1 s.2.2.1 s.2.2.2.1 s.2.2.2.2.1 s.2.2.2.2.2.1 s.2.2.2.2.2.2.2.2.2) (le_i (Ref_wordOf_52_m hg s.2.2.2.2.2.2.2.2.1 s.2.1 s.2.2.1 s.2.2.2.1 s.2.2.2.2.1 s.2.2.2.2.2.1 s.2.2.2.2.2.2.1 s.2.2.2.2.2.2.2.2.2) (le_i (Ref_wordOf_57_m hg s.2.2.2.2.2.2.2.2.1 s.2.1 s.2.2.1 s.2.2.2.1 s.2.2.2.2.1 s.2.2.2.2.2.1 s.2.2.2.2.2.2.1 s.2.2.2.2.2.2.2.1 s.2.2.2.2.2.2.2.2.2) (le_i (Ref_wordOf_96_m hg s.2.2.2.2.2.2.2.2.1 s.2.1 s.2.2.1 s.2.2.2.1 s.2.2.2.2.1 s.2.2.2.2.2.1 s.2.2.2.2.2.2.1 s.2.2.2.2.2.2.2.1 s.2.2.2.2.2.2.2.2.2) (le_i (Ref_wordOf_104_m hg s.2.2.2.2.2.2.2.2.1 s.2.1 s.2.2.1 s.2.2.2.1 s.2.2.2.2.1 s.2.2.2.2.2.1 s.2.2.2.2.2.2.1 s.2.2.2.2.2.2.2.2.2) (le_r _))))))
def Ref_wordOf_5_P (s : (Nat × Int32 × Int32 × Int32 × Int32 × Int32 × Int32 × Int32 × Nat × am_H)) (r : Int32) : Prop := (s.1 = 5 → Sx 0 mX12_wordOf 5 [.ref s.2.2.2.2.2.2.2.2.1, .int s.2.1, .int s.2.2.1, .int s.2.2.2.1, .int s.2.2.2.2.1, .retAddr 0, .retAddr 0, .retAddr 0] [] s.2.2.2.2.2.2.2.2.2 (some (.int r)) s.2.2.2.2.2.2.2.2.2) ∧ (s.1 = 18 → Sx 0 mX12_wordOf 18 [.ref s.2.2.2.2.2.2.2.2.1, .int s.2.1, .int s.2.2.1, .int s.2.2.2.1, .int s.2.2.2.2.1, .int s.2.2.2.2.2.1, .retAddr 0, .retAddr 0] [] s.2.2.2.2.2.2.2.2.2 (some (.int r)) s.2.2.2.2.2.2.2.2.2) ∧ (s.1 = 52 → Sx 0 mX12_wordOf 52 [.ref s.2.2.2.2.2.2.2.2.1, .int s.2.1, .int s.2.2.1, .int s.2.2.2.1, .int s.2.2.2.2.1, .int s.2.2.2.2.2.1, .retAddr 0, .retAddr 0] [.int s.2.2.2.2.2.2.1] s.2.2.2.2.2.2.2.2.2 (some (.int r)) s.2.2.2.2.2.2.2.2.2) ∧ (s.1 = 57 → Sx 0 mX12_wordOf 57 [.ref s.2.2.2.2.2.2.2.2.1, .int s.2.1, .int s.2.2.1, .int s.2.2.2.1, .int s.2.2.2.2.1, .int s.2.2.2.2.2.1, .int s.2.2.2.2.2.2.1, .int s.2.2.2.2.2.2.2.1] [] s.2.2.2.2.2.2.2.2.2 (some (.int r)) s.2.2.2.2.2.2.2.2.2) ∧ (s.1 = 96 → Sx 0 mX12_wordOf 96 [.ref s.2.2.2.2.2.2.2.2.1, .int s.2.1, .int s.2.2.1, .int s.2.2.2.1, .int s.2.2.2.2.1, .int s.2.2.2.2.2.1, .retAddr 0, .int s.2.2.2.2.2.2.1] [.int s.2.2.2.2.2.2.2.1] s.2.2.2.2.2.2.2.2.2 (some (.int r)) s.2.2.2.2.2.2.2.2.2) ∧ (s.1 = 104 → Sx 0 mX12_wordOf 104 [.ref s.2.2.2.2.2.2.2.2.1, .int s.2.1, .int s.2.2.1, .int s.2.2.2.1, .int s.2.2.2.2.1, .int s.2.2.2.2.2.1, .int s.2.2.2.2.2.2.1, .retAddr 0] [] s.2.2.2.2.2.2.2.2.2 (some (.int r)) s.2.2.2.2.2.2.2.2.2) ∧ True
set_option maxHeartbeats 1000000 in
set_option maxRecDepth 100000 in
theorem Ref_wordOf_5_t {g : (Nat × Int32 × Int32 × Int32 × Int32 × Int32 × Int32 × Int32 × Nat × am_H) → Option Int32} (hg : ∀ s r, g s = some r → Ref_wordOf_5_P s r) {v0 : Nat} {v1 : Int32} {v2 : Int32} {v3 : Int32} {v4 : Int32} {h : am_H} {r : Int32} (hb : Ref_wordOf_5_b g v0 v1 v2 v3 v4 h = some r) : Sx 0 mX12_wordOf 5 [.ref v0, .int v1, .int v2, .int v3, .int v4, .retAddr 0, .retAddr 0, .retAddr 0] [] h (some (.int r)) h := by
  unfold Ref_wordOf_5_b at hb
  refine Sx.o (fun _ _ _ k => ex_iload dX12_wordOf_5 rfl k) ?_
  refine Sx.o (fun _ _ _ k => ex_aload_n dX12_wordOf_7 rfl rfl k) ?_
  obtain ⟨x1, e_x1, hb2⟩ := ob2 hb
  refine Sx.o (fun _ _ _ k => op_getR fX12_37 dX12_wordOf_8 e_x1 k) ?_
  obtain ⟨x3, e_x3, hb4⟩ := ob2 hb2
  refine Sx.o (fun _ _ _ k => op_alen dX12_wordOf_11 e_x3 k) ?_
  refine Sx.b (fun _ _ _ k1 k2 => ex_icmp_ge 126 dX12_wordOf_12 (by decide) k1 k2) (fun q => ?_) (fun q => ?_)
  · have hb5 := ip q hb4
    refine Sx.o (fun _ _ _ k => op_iconst (0 : Int32) dX12_wordOf_126 (by decide) k) ?_
    obtain rfl := Option.some.inj hb5
    exact Sx.r (fun _ _ _ k => ex_iret rfl dX12_wordOf_127 k)
  · have hb6 := iq q hb4
    refine Sx.o (fun _ _ _ k => op_iconst (0 : Int32) dX12_wordOf_15 (by decide) k) ?_
    refine Sx.o (L' := [.ref v0, .int v1, .int v2, .int v3, .int v4, .int (0 : Int32), .retAddr 0, .retAddr 0]) (fun _ _ _ k => ex_istore dX12_wordOf_16 (by decide) k) ?_
    exact (hg _ _ hb6).2.1 rfl
set_option maxHeartbeats 1000000 in
set_option maxRecDepth 100000 in
theorem Ref_wordOf_18_t {g : (Nat × Int32 × Int32 × Int32 × Int32 × Int32 × Int32 × Int32 × Nat × am_H) → Option Int32} (hg : ∀ s r, g s = some r → Ref_wordOf_5_P s r) {v0 : Nat} {v1 : Int32} {v2 : Int32} {v3 : Int32} {v4 : Int32} {v5 : Int32} {h : am_H} {r : Int32} (hb : Ref_wordOf_18_b g v0 v1 v2 v3 v4 v5 h = some r) : Sx 0 mX12_wordOf 18 [.ref v0, .int v1, .int v2, .int v3, .int v4, .int v5, .retAddr 0, .retAddr 0] [] h (some (.int r)) h := by
  unfold Ref_wordOf_18_b at hb
  refine Sx.o (fun _ _ _ k => ex_aload_n dX12_wordOf_18 rfl rfl k) ?_
  obtain ⟨x7, e_x7, hb8⟩ := ob2 hb
  refine Sx.o (fun _ _ _ k => op_getR fX12_37 dX12_wordOf_19 e_x7 k) ?_
  refine Sx.o (fun _ _ _ k => ex_iload dX12_wordOf_22 rfl k) ?_
  refine Sx.o (fun _ _ _ k => ex_iload dX12_wordOf_24 rfl k) ?_
  refine Sx.o (fun _ _ _ k => ex_iadd dX12_wordOf_26 k) ?_
  obtain ⟨x9, e_x9, hb10⟩ := ob2 hb8
  refine Sx.o (fun _ _ _ k => op_bald dX12_wordOf_27 e_x9 k) ?_
  refine Sx.o (fun _ _ _ k => op_bipush (32 : Int32) dX12_wordOf_28 (by decide) k) ?_
  refine Sx.b (fun _ _ _ k1 k2 => ex_icmp_eq 39 dX12_wordOf_30 (by decide) k1 k2) (fun q => ?_) (fun q => ?_)
  · have hb11 := ip q hb10
    refine Sx.o (fun _ _ _ k => ex_iload dX12_wordOf_39 rfl k) ?_
    refine Sx.o (fun _ _ _ k => ex_iload_n dX12_wordOf_41 rfl k) ?_
    refine Sx.o (fun _ _ _ k => ex_iload_n dX12_wordOf_42 rfl k) ?_
    refine Sx.o (fun _ _ _ k => ex_isub dX12_wordOf_43 k) ?_
    refine Sx.bn (fun _ _ _ k1 k2 => ex_icmp_ne 51 dX12_wordOf_44 (by decide) k1 k2) (fun q => ?_) (fun q => ?_)
    · have hb13 := iq q hb11
      refine Sx.o (fun _ _ _ k => op_iconst (0 : Int32) dX12_wordOf_51 (by decide) k) ?_
      exact (hg _ _ hb13).2.2.1 rfl
    · have hb14 := ip q hb11
      refine Sx.o (fun _ _ _ k => op_iconst (1 : Int32) dX12_wordOf_47 (by decide) k) ?_
      refine Sx.o (fun _ _ _ k => ex_goto 52 dX12_wordOf_48 (by decide) k) ?_
      exact (hg _ _ hb14).2.2.1 rfl
  · have hb12 := iq q hb10
    refine Sx.o (L' := [.ref v0, .int v1, .int v2, .int v3, .int v4, .int (v5 + (1 : Int32)), .retAddr 0, .retAddr 0]) (fun _ _ _ k => op_iinc (1 : Int32) dX12_wordOf_33 (by decide) rfl (by decide) k) ?_
    refine Sx.o (fun _ _ _ k => ex_goto 18 dX12_wordOf_36 (by decide) k) ?_
    exact (hg _ _ hb12).2.1 rfl
set_option maxHeartbeats 1000000 in
set_option maxRecDepth 100000 in
theorem Ref_wordOf_52_t {g : (Nat × Int32 × Int32 × Int32 × Int32 × Int32 × Int32 × Int32 × Nat × am_H) → Option Int32} (hg : ∀ s r, g s = some r → Ref_wordOf_5_P s r) {v0 : Nat} {v1 : Int32} {v2 : Int32} {v3 : Int32} {v4 : Int32} {v5 : Int32} {s0 : Int32} {h : am_H} {r : Int32} (hb : Ref_wordOf_52_b g v0 v1 v2 v3 v4 v5 s0 h = some r) : Sx 0 mX12_wordOf 52 [.ref v0, .int v1, .int v2, .int v3, .int v4, .int v5, .retAddr 0, .retAddr 0] [.int s0] h (some (.int r)) h := by
  unfold Ref_wordOf_52_b at hb
  refine Sx.o (L' := [.ref v0, .int v1, .int v2, .int v3, .int v4, .int v5, .int s0, .retAddr 0]) (fun _ _ _ k => ex_istore dX12_wordOf_52 (by decide) k) ?_
  refine Sx.o (fun _ _ _ k => op_iconst (0 : Int32) dX12_wordOf_54 (by decide) k) ?_
  refine Sx.o (L' := [.ref v0, .int v1, .int v2, .int v3, .int v4, .int v5, .int s0, .int (0 : Int32)]) (fun _ _ _ k => ex_istore dX12_wordOf_55 (by decide) k) ?_
  exact (hg _ _ hb).2.2.2.1 rfl
set_option maxHeartbeats 1000000 in
set_option maxRecDepth 100000 in
theorem Ref_wordOf_57_t {g : (Nat × Int32 × Int32 × Int32 × Int32 × Int32 × Int32 × Int32 × Nat × am_H) → Option Int32} (hg : ∀ s r, g s = some r → Ref_wordOf_5_P s r) {v0 : Nat} {v1 : Int32} {v2 : Int32} {v3 : Int32} {v4 : Int32} {v5 : Int32} {v6 : Int32} {v7 : Int32} {h : am_H} {r : Int32} (hb : Ref_wordOf_57_b g v0 v1 v2 v3 v4 v5 v6 v7 h = some r) : Sx 0 mX12_wordOf 57 [.ref v0, .int v1, .int v2, .int v3, .int v4, .int v5, .int v6, .int v7] [] h (some (.int r)) h := by
  unfold Ref_wordOf_57_b at hb
  refine Sx.o (fun _ _ _ k => ex_iload dX12_wordOf_57 rfl k) ?_
  refine Sx.o (fun _ _ _ k => ex_iload dX12_wordOf_59 rfl k) ?_
  refine Sx.b (fun _ _ _ k1 k2 => ex_icmp_ge 104 dX12_wordOf_61 (by decide) k1 k2) (fun q => ?_) (fun q => ?_)
  · have hb15 := ip q hb
    refine Sx.fg [true, true, true, true, true, true, true, false] ?_
    exact (hg _ _ hb15).2.2.2.2.2.1 rfl
  · have hb16 := iq q hb
    refine Sx.o (fun _ _ _ k => ex_iload dX12_wordOf_64 rfl k) ?_
    refine Sx.b (fun _ _ _ k1 k2 => ex_if_eq 104 dX12_wordOf_66 (by decide) k1 k2) (fun q => ?_) (fun q => ?_)
    · have hb17 := ip q hb16
      refine Sx.fg [true, true, true, true, true, true, true, false] ?_
      exact (hg _ _ hb17).2.2.2.2.2.1 rfl
    · have hb18 := iq q hb16
      refine Sx.o (fun _ _ _ k => ex_aload_n dX12_wordOf_69 rfl rfl k) ?_
      obtain ⟨x19, e_x19, hb20⟩ := ob2 hb18
      refine Sx.o (fun _ _ _ k => op_getR fX12_37 dX12_wordOf_70 e_x19 k) ?_
      refine Sx.o (fun _ _ _ k => ex_iload dX12_wordOf_73 rfl k) ?_
      refine Sx.o (fun _ _ _ k => ex_iload dX12_wordOf_75 rfl k) ?_
      refine Sx.o (fun _ _ _ k => ex_iadd dX12_wordOf_77 k) ?_
      obtain ⟨x21, e_x21, hb22⟩ := ob2 hb20
      refine Sx.o (fun _ _ _ k => op_bald dX12_wordOf_78 e_x21 k) ?_
      refine Sx.o (fun _ _ _ k => ex_aload_n dX12_wordOf_79 rfl rfl k) ?_
      obtain ⟨x23, e_x23, hb24⟩ := ob2 hb22
      refine Sx.o (fun _ _ _ k => op_getR fX12_41 dX12_wordOf_80 e_x23 k) ?_
      refine Sx.o (fun _ _ _ k => ex_iload_n dX12_wordOf_83 rfl k) ?_
      refine Sx.o (fun _ _ _ k => ex_iload dX12_wordOf_84 rfl k) ?_
      refine Sx.o (fun _ _ _ k => ex_iadd dX12_wordOf_86 k) ?_
      obtain ⟨x25, e_x25, hb26⟩ := ob2 hb24
      refine Sx.o (fun _ _ _ k => op_bald dX12_wordOf_87 e_x25 k) ?_
      refine Sx.bn (fun _ _ _ k1 k2 => ex_icmp_ne 95 dX12_wordOf_88 (by decide) k1 k2) (fun q => ?_) (fun q => ?_)
      · have hb27 := iq q hb26
        refine Sx.o (fun _ _ _ k => op_iconst (0 : Int32) dX12_wordOf_95 (by decide) k) ?_
        refine Sx.fg [true, true, true, true, true, true, false, true] ?_
        exact (hg _ _ hb27).2.2.2.2.1 rfl
      · have hb28 := ip q hb26
        refine Sx.o (fun _ _ _ k => op_iconst (1 : Int32) dX12_wordOf_91 (by decide) k) ?_
        refine Sx.o (fun _ _ _ k => ex_goto 96 dX12_wordOf_92 (by decide) k) ?_
        refine Sx.fg [true, true, true, true, true, true, false, true] ?_
        exact (hg _ _ hb28).2.2.2.2.1 rfl
set_option maxHeartbeats 1000000 in
set_option maxRecDepth 100000 in
theorem Ref_wordOf_96_t {g : (Nat × Int32 × Int32 × Int32 × Int32 × Int32 × Int32 × Int32 × Nat × am_H) → Option Int32} (hg : ∀ s r, g s = some r → Ref_wordOf_5_P s r) {v0 : Nat} {v1 : Int32} {v2 : Int32} {v3 : Int32} {v4 : Int32} {v5 : Int32} {v7 : Int32} {s0 : Int32} {h : am_H} {r : Int32} (hb : Ref_wordOf_96_b g v0 v1 v2 v3 v4 v5 v7 s0 h = some r) : Sx 0 mX12_wordOf 96 [.ref v0, .int v1, .int v2, .int v3, .int v4, .int v5, .retAddr 0, .int v7] [.int s0] h (some (.int r)) h := by
  unfold Ref_wordOf_96_b at hb
  refine Sx.o (L' := [.ref v0, .int v1, .int v2, .int v3, .int v4, .int v5, .int s0, .int v7]) (fun _ _ _ k => ex_istore dX12_wordOf_96 (by decide) k) ?_
  refine Sx.o (L' := [.ref v0, .int v1, .int v2, .int v3, .int v4, .int v5, .int s0, .int (v7 + (1 : Int32))]) (fun _ _ _ k => op_iinc (1 : Int32) dX12_wordOf_98 (by decide) rfl (by decide) k) ?_
  refine Sx.o (fun _ _ _ k => ex_goto 57 dX12_wordOf_101 (by decide) k) ?_
  exact (hg _ _ hb).2.2.2.1 rfl
set_option maxHeartbeats 1000000 in
set_option maxRecDepth 100000 in
theorem Ref_wordOf_104_t {g : (Nat × Int32 × Int32 × Int32 × Int32 × Int32 × Int32 × Int32 × Nat × am_H) → Option Int32} (hg : ∀ s r, g s = some r → Ref_wordOf_5_P s r) {v0 : Nat} {v1 : Int32} {v2 : Int32} {v3 : Int32} {v4 : Int32} {v5 : Int32} {v6 : Int32} {h : am_H} {r : Int32} (hb : Ref_wordOf_104_b g v0 v1 v2 v3 v4 v5 v6 h = some r) : Sx 0 mX12_wordOf 104 [.ref v0, .int v1, .int v2, .int v3, .int v4, .int v5, .int v6, .retAddr 0] [] h (some (.int r)) h := by
  unfold Ref_wordOf_104_b at hb
  refine Sx.o (fun _ _ _ k => ex_iload dX12_wordOf_104 rfl k) ?_
  refine Sx.b (fun _ _ _ k1 k2 => ex_if_eq 111 dX12_wordOf_106 (by decide) k1 k2) (fun q => ?_) (fun q => ?_)
  · have hb29 := ip q hb
    refine Sx.o (fun _ _ _ k => ex_iload dX12_wordOf_111 rfl k) ?_
    refine Sx.o (fun _ _ _ k => ex_iload dX12_wordOf_113 rfl k) ?_
    refine Sx.o (fun _ _ _ k => op_iconst (1 : Int32) dX12_wordOf_115 (by decide) k) ?_
    refine Sx.o (fun _ _ _ k => ex_iadd dX12_wordOf_116 k) ?_
    refine Sx.o (fun _ _ _ k => ex_iadd dX12_wordOf_117 k) ?_
    refine Sx.o (L' := [.ref v0, .int v1, .int v2, .int v3, .int (v4 + (v5 + (1 : Int32))), .int v5, .int v6, .retAddr 0]) (fun _ _ _ k => ex_istore dX12_wordOf_118 (by decide) k) ?_
    refine Sx.o (L' := [.ref v0, .int v1, .int v2, .int (v3 + (1 : Int32)), .int (v4 + (v5 + (1 : Int32))), .int v5, .int v6, .retAddr 0]) (fun _ _ _ k => op_iinc (1 : Int32) dX12_wordOf_120 (by decide) rfl (by decide) k) ?_
    refine Sx.o (fun _ _ _ k => ex_goto 5 dX12_wordOf_123 (by decide) k) ?_
    refine Sx.fg [true, true, true, true, true, false, false, true] ?_
    exact (hg _ _ hb29).1 rfl
  · have hb30 := iq q hb
    refine Sx.o (fun _ _ _ k => ex_iload_n dX12_wordOf_109 rfl k) ?_
    obtain rfl := Option.some.inj hb30
    exact Sx.r (fun _ _ _ k => ex_iret rfl dX12_wordOf_110 k)
theorem Ref_wordOf_5_T : ∀ s r, fx Ref_wordOf_5_F Ref_wordOf_5_M s = some r → Ref_wordOf_5_P s r := fx_ind Ref_wordOf_5_M Ref_wordOf_5_P (fun g hg s r hb => by
  unfold Ref_wordOf_5_F at hb
  exact ⟨fun q => Ref_wordOf_5_t hg (ip q hb), fun q => Ref_wordOf_18_t hg (ip q (iq (by rw [q]; decide) hb)), fun q => Ref_wordOf_52_t hg (ip q (iq (by rw [q]; decide) (iq (by rw [q]; decide) hb))), fun q => Ref_wordOf_57_t hg (ip q (iq (by rw [q]; decide) (iq (by rw [q]; decide) (iq (by rw [q]; decide) hb)))), fun q => Ref_wordOf_96_t hg (ip q (iq (by rw [q]; decide) (iq (by rw [q]; decide) (iq (by rw [q]; decide) (iq (by rw [q]; decide) hb))))), fun q => Ref_wordOf_104_t hg (ip q (iq (by rw [q]; decide) (iq (by rw [q]; decide) (iq (by rw [q]; decide) (iq (by rw [q]; decide) (iq (by rw [q]; decide) hb)))))), trivial⟩)
noncomputable def Ref_wordOf_5 (v0 : Nat) (v1 : Int32) (v2 : Int32) (v3 : Int32) (v4 : Int32) (h : am_H) : Option Int32 := fx Ref_wordOf_5_F Ref_wordOf_5_M (5, v1, v2, v3, v4, 0, 0, 0, v0, h)
noncomputable def Ref_wordOf_18 (v0 : Nat) (v1 : Int32) (v2 : Int32) (v3 : Int32) (v4 : Int32) (v5 : Int32) (h : am_H) : Option Int32 := fx Ref_wordOf_5_F Ref_wordOf_5_M (18, v1, v2, v3, v4, v5, 0, 0, v0, h)
noncomputable def Ref_wordOf_52 (v0 : Nat) (v1 : Int32) (v2 : Int32) (v3 : Int32) (v4 : Int32) (v5 : Int32) (s0 : Int32) (h : am_H) : Option Int32 := fx Ref_wordOf_5_F Ref_wordOf_5_M (52, v1, v2, v3, v4, v5, s0, 0, v0, h)
noncomputable def Ref_wordOf_57 (v0 : Nat) (v1 : Int32) (v2 : Int32) (v3 : Int32) (v4 : Int32) (v5 : Int32) (v6 : Int32) (v7 : Int32) (h : am_H) : Option Int32 := fx Ref_wordOf_5_F Ref_wordOf_5_M (57, v1, v2, v3, v4, v5, v6, v7, v0, h)
noncomputable def Ref_wordOf_96 (v0 : Nat) (v1 : Int32) (v2 : Int32) (v3 : Int32) (v4 : Int32) (v5 : Int32) (v7 : Int32) (s0 : Int32) (h : am_H) : Option Int32 := fx Ref_wordOf_5_F Ref_wordOf_5_M (96, v1, v2, v3, v4, v5, v7, s0, v0, h)
noncomputable def Ref_wordOf_104 (v0 : Nat) (v1 : Int32) (v2 : Int32) (v3 : Int32) (v4 : Int32) (v5 : Int32) (v6 : Int32) (h : am_H) : Option Int32 := fx Ref_wordOf_5_F Ref_wordOf_5_M (104, v1, v2, v3, v4, v5, v6, 0, v0, h)
set_option maxHeartbeats 1000000 in
set_option maxRecDepth 100000 in
theorem Ref_wordOf_5_e (v0 : Nat) (v1 : Int32) (v2 : Int32) (v3 : Int32) (v4 : Int32) (h : am_H) : Ref_wordOf_5 v0 v1 v2 v3 v4 h = ((gR h 12 v0 6).bind fun x1 => (aL h x1).bind fun x3 => if x3 ≤ v4 then some (0 : Int32) else Ref_wordOf_18 v0 v1 v2 v3 v4 (0 : Int32) h) := (fx_eq Ref_wordOf_5_M (5, v1, v2, v3, v4, 0, 0, 0, v0, h)).trans (if_pos rfl)
theorem Ref_wordOf_5_s {v0 : Nat} {v1 : Int32} {v2 : Int32} {v3 : Int32} {v4 : Int32} {h : am_H} {r : Int32} (hb : Ref_wordOf_5 v0 v1 v2 v3 v4 h = some r) : Sx 0 mX12_wordOf 5 [.ref v0, .int v1, .int v2, .int v3, .int v4, .retAddr 0, .retAddr 0, .retAddr 0] [] h (some (.int r)) h := (Ref_wordOf_5_T _ _ hb).1 rfl
set_option maxHeartbeats 1000000 in
set_option maxRecDepth 100000 in
theorem Ref_wordOf_18_e (v0 : Nat) (v1 : Int32) (v2 : Int32) (v3 : Int32) (v4 : Int32) (v5 : Int32) (h : am_H) : Ref_wordOf_18 v0 v1 v2 v3 v4 v5 h = ((gR h 12 v0 6).bind fun x7 => (aI h 1 x7 (v4 + v5)).bind fun x9 => if x9 = (32 : Int32) then if v5 = (v2 - v1) then Ref_wordOf_52 v0 v1 v2 v3 v4 v5 (1 : Int32) h else Ref_wordOf_52 v0 v1 v2 v3 v4 v5 (0 : Int32) h else Ref_wordOf_18 v0 v1 v2 v3 v4 (v5 + (1 : Int32)) h) := (fx_eq Ref_wordOf_5_M (18, v1, v2, v3, v4, v5, 0, 0, v0, h)).trans ((if_neg (show ¬ (18 : Nat) = 5 by decide)).trans (if_pos rfl))
theorem Ref_wordOf_18_s {v0 : Nat} {v1 : Int32} {v2 : Int32} {v3 : Int32} {v4 : Int32} {v5 : Int32} {h : am_H} {r : Int32} (hb : Ref_wordOf_18 v0 v1 v2 v3 v4 v5 h = some r) : Sx 0 mX12_wordOf 18 [.ref v0, .int v1, .int v2, .int v3, .int v4, .int v5, .retAddr 0, .retAddr 0] [] h (some (.int r)) h := (Ref_wordOf_5_T _ _ hb).2.1 rfl
set_option maxHeartbeats 1000000 in
set_option maxRecDepth 100000 in
theorem Ref_wordOf_52_e (v0 : Nat) (v1 : Int32) (v2 : Int32) (v3 : Int32) (v4 : Int32) (v5 : Int32) (s0 : Int32) (h : am_H) : Ref_wordOf_52 v0 v1 v2 v3 v4 v5 s0 h = (Ref_wordOf_57 v0 v1 v2 v3 v4 v5 s0 (0 : Int32) h) := (fx_eq Ref_wordOf_5_M (52, v1, v2, v3, v4, v5, s0, 0, v0, h)).trans ((if_neg (show ¬ (52 : Nat) = 5 by decide)).trans ((if_neg (show ¬ (52 : Nat) = 18 by decide)).trans (if_pos rfl)))
theorem Ref_wordOf_52_s {v0 : Nat} {v1 : Int32} {v2 : Int32} {v3 : Int32} {v4 : Int32} {v5 : Int32} {s0 : Int32} {h : am_H} {r : Int32} (hb : Ref_wordOf_52 v0 v1 v2 v3 v4 v5 s0 h = some r) : Sx 0 mX12_wordOf 52 [.ref v0, .int v1, .int v2, .int v3, .int v4, .int v5, .retAddr 0, .retAddr 0] [.int s0] h (some (.int r)) h := (Ref_wordOf_5_T _ _ hb).2.2.1 rfl
set_option maxHeartbeats 1000000 in
set_option maxRecDepth 100000 in
theorem Ref_wordOf_57_e (v0 : Nat) (v1 : Int32) (v2 : Int32) (v3 : Int32) (v4 : Int32) (v5 : Int32) (v6 : Int32) (v7 : Int32) (h : am_H) : Ref_wordOf_57 v0 v1 v2 v3 v4 v5 v6 v7 h = (if v5 ≤ v7 then Ref_wordOf_104 v0 v1 v2 v3 v4 v5 v6 h else if v6 = (0 : Int32) then Ref_wordOf_104 v0 v1 v2 v3 v4 v5 v6 h else (gR h 12 v0 6).bind fun x19 => (aI h 1 x19 (v4 + v7)).bind fun x21 => (gR h 12 v0 10).bind fun x23 => (aI h 1 x23 (v1 + v7)).bind fun x25 => if x21 = x25 then Ref_wordOf_96 v0 v1 v2 v3 v4 v5 v7 (1 : Int32) h else Ref_wordOf_96 v0 v1 v2 v3 v4 v5 v7 (0 : Int32) h) := (fx_eq Ref_wordOf_5_M (57, v1, v2, v3, v4, v5, v6, v7, v0, h)).trans ((if_neg (show ¬ (57 : Nat) = 5 by decide)).trans ((if_neg (show ¬ (57 : Nat) = 18 by decide)).trans ((if_neg (show ¬ (57 : Nat) = 52 by decide)).trans (if_pos rfl))))
theorem Ref_wordOf_57_s {v0 : Nat} {v1 : Int32} {v2 : Int32} {v3 : Int32} {v4 : Int32} {v5 : Int32} {v6 : Int32} {v7 : Int32} {h : am_H} {r : Int32} (hb : Ref_wordOf_57 v0 v1 v2 v3 v4 v5 v6 v7 h = some r) : Sx 0 mX12_wordOf 57 [.ref v0, .int v1, .int v2, .int v3, .int v4, .int v5, .int v6, .int v7] [] h (some (.int r)) h := (Ref_wordOf_5_T _ _ hb).2.2.2.1 rfl
set_option maxHeartbeats 1000000 in
set_option maxRecDepth 100000 in
theorem Ref_wordOf_96_e (v0 : Nat) (v1 : Int32) (v2 : Int32) (v3 : Int32) (v4 : Int32) (v5 : Int32) (v7 : Int32) (s0 : Int32) (h : am_H) : Ref_wordOf_96 v0 v1 v2 v3 v4 v5 v7 s0 h = (Ref_wordOf_57 v0 v1 v2 v3 v4 v5 s0 (v7 + (1 : Int32)) h) := (fx_eq Ref_wordOf_5_M (96, v1, v2, v3, v4, v5, v7, s0, v0, h)).trans ((if_neg (show ¬ (96 : Nat) = 5 by decide)).trans ((if_neg (show ¬ (96 : Nat) = 18 by decide)).trans ((if_neg (show ¬ (96 : Nat) = 52 by decide)).trans ((if_neg (show ¬ (96 : Nat) = 57 by decide)).trans (if_pos rfl)))))
theorem Ref_wordOf_96_s {v0 : Nat} {v1 : Int32} {v2 : Int32} {v3 : Int32} {v4 : Int32} {v5 : Int32} {v7 : Int32} {s0 : Int32} {h : am_H} {r : Int32} (hb : Ref_wordOf_96 v0 v1 v2 v3 v4 v5 v7 s0 h = some r) : Sx 0 mX12_wordOf 96 [.ref v0, .int v1, .int v2, .int v3, .int v4, .int v5, .retAddr 0, .int v7] [.int s0] h (some (.int r)) h := (Ref_wordOf_5_T _ _ hb).2.2.2.2.1 rfl
set_option maxHeartbeats 1000000 in
set_option maxRecDepth 100000 in
theorem Ref_wordOf_104_e (v0 : Nat) (v1 : Int32) (v2 : Int32) (v3 : Int32) (v4 : Int32) (v5 : Int32) (v6 : Int32) (h : am_H) : Ref_wordOf_104 v0 v1 v2 v3 v4 v5 v6 h = (if v6 = (0 : Int32) then Ref_wordOf_5 v0 v1 v2 (v3 + (1 : Int32)) (v4 + (v5 + (1 : Int32))) h else some v3) := (fx_eq Ref_wordOf_5_M (104, v1, v2, v3, v4, v5, v6, 0, v0, h)).trans ((if_neg (show ¬ (104 : Nat) = 5 by decide)).trans ((if_neg (show ¬ (104 : Nat) = 18 by decide)).trans ((if_neg (show ¬ (104 : Nat) = 52 by decide)).trans ((if_neg (show ¬ (104 : Nat) = 57 by decide)).trans ((if_neg (show ¬ (104 : Nat) = 96 by decide)).trans (if_pos rfl))))))
theorem Ref_wordOf_104_s {v0 : Nat} {v1 : Int32} {v2 : Int32} {v3 : Int32} {v4 : Int32} {v5 : Int32} {v6 : Int32} {h : am_H} {r : Int32} (hb : Ref_wordOf_104 v0 v1 v2 v3 v4 v5 v6 h = some r) : Sx 0 mX12_wordOf 104 [.ref v0, .int v1, .int v2, .int v3, .int v4, .int v5, .int v6, .retAddr 0] [] h (some (.int r)) h := (Ref_wordOf_5_T _ _ hb).2.2.2.2.2.1 rfl
set_option maxHeartbeats 1000000 in
set_option maxRecDepth 100000 in
noncomputable def Ref_wordOf (v0 : Nat) (v1 : Int32) (v2 : Int32) (h : am_H) : Option Int32 := if isO h 12 v0 = true then Ref_wordOf_5 v0 v1 v2 (1 : Int32) (0 : Int32) h else none
set_option maxHeartbeats 1000000 in
set_option maxRecDepth 100000 in
theorem Ref_wordOf_s {v0 : Nat} {v1 : Int32} {v2 : Int32} {h : am_H} {r : Int32} (hb : Ref_wordOf v0 v1 v2 h = some r) : Sx 0 mX12_wordOf 0 (am_en [.ref v0, .int v1, .int v2] 8) [] h (some (.int r)) h := by
  unfold Ref_wordOf at hb
  have hb := (iz hb).2
  show Sx 0 mX12_wordOf 0 [.ref v0, .int v1, .int v2, .retAddr 0, .retAddr 0, .retAddr 0, .retAddr 0, .retAddr 0] [] h (some (.int r)) h
  refine Sx.o (fun _ _ _ k => op_iconst (1 : Int32) dX12_wordOf_0 (by decide) k) ?_
  refine Sx.o (L' := [.ref v0, .int v1, .int v2, .int (1 : Int32), .retAddr 0, .retAddr 0, .retAddr 0, .retAddr 0]) (fun _ _ _ k => ex_istore_n dX12_wordOf_1 (by decide) k) ?_
  refine Sx.o (fun _ _ _ k => op_iconst (0 : Int32) dX12_wordOf_2 (by decide) k) ?_
  refine Sx.o (L' := [.ref v0, .int v1, .int v2, .int (1 : Int32), .int (0 : Int32), .retAddr 0, .retAddr 0, .retAddr 0]) (fun _ _ _ k => ex_istore dX12_wordOf_3 (by decide) k) ?_
  exact Ref_wordOf_5_s hb
theorem Ref_wordOf_o {v0 : Nat} {v1 : Int32} {v2 : Int32} {h : am_H} {r : Int32} (hb : Ref_wordOf v0 v1 v2 h = some r) : isO h 12 v0 = true := by
  unfold Ref_wordOf at hb
  exact (iz hb).1
set_option maxHeartbeats 1000000 in
set_option maxRecDepth 100000 in
noncomputable def Ref_splits_7_b (g : (Nat × Int32 × Int32 × Int32 × Int32 × Int32 × Int32 × Nat × Nat × am_H) → Option am_H) (v0 : Nat) (v1 : Int32) (v2 : Int32) (h : am_H) : Option am_H := if v1 ≤ v2 then (gR h 12 v0 16).bind fun x3 => (gI h 12 v0 17).bind fun x5 => (sI h x3 x5 v1).bind fun h7 => (gR h7 12 v0 14).bind fun x10 => (gI h7 12 v0 17).bind fun x12 => (sI h7 x10 x12 (0 : Int32)).bind fun h14 => (gR h14 12 v0 15).bind fun x17 => (gI h14 12 v0 17).bind fun x19 => (sI h14 x17 x19 (0 : Int32)).bind fun h21 => some h21 else (gR h 12 v0 10).bind fun x24 => (aI h 1 x24 v2).bind fun x26 => if x26 = (32 : Int32) then g (7, v1, (v2 + (1 : Int32)), 0, 0, 0, 0, v0, 0, h) else (Ref_isSmall x26 h).bind fun x30 => if x30 = (0 : Int32) then g (68, v1, v2, x26, (v2 + (1 : Int32)), 0, 0, v0, 0, h) else g (43, v1, v2, x26, (v2 + (1 : Int32)), 0, 0, v0, 0, h)
set_option maxHeartbeats 1000000 in
set_option maxRecDepth 100000 in
theorem Ref_splits_7_m {g g2 : (Nat × Int32 × Int32 × Int32 × Int32 × Int32 × Int32 × Nat × Nat × am_H) → Option am_H} (hg : ∀ s, Le (g s) (g2 s)) (v0 : Nat) (v1 : Int32) (v2 : Int32) (h : am_H) : Le (Ref_splits_7_b g v0 v1 v2 h) (Ref_splits_7_b g2 v0 v1 v2 h) := by unfold Ref_splits_7_b; exact le_i (le_r _) (le_b (le_r _) fun x24 => le_b (le_r _) fun x26 => le_i (hg _) (le_b (le_r _) fun x30 => le_i (hg _) (hg _)))
set_option maxHeartbeats 1000000 in
set_option maxRecDepth 100000 in
noncomputable def Ref_splits_43_b (g : (Nat × Int32 × Int32 × Int32 × Int32 × Int32 × Int32 × Nat × Nat × am_H) → Option am_H) (v0 : Nat) (v1 : Int32) (v2 : Int32) (v3 : Int32) (v4 : Int32) (h : am_H) : Option am_H := if v1 ≤ v4 then g (68, v1, v2, v3, v4, 0, 0, v0, 0, h) else (gR h 12 v0 10).bind fun x36 => (aI h 1 x36 v4).bind fun x38 => (Ref_isSmall x38 h).bind fun x40 => if x40 = (0 : Int32) then g (68, v1, v2, v3, v4, 0, 0, v0, 0, h) else g (43, v1, v2, v3, (v4 + (1 : Int32)), 0, 0, v0, 0, h)
set_option maxHeartbeats 1000000 in
set_option maxRecDepth 100000 in
theorem Ref_splits_43_m {g g2 : (Nat × Int32 × Int32 × Int32 × Int32 × Int32 × Int32 × Nat × Nat × am_H) → Option am_H} (hg : ∀ s, Le (g s) (g2 s)) (v0 : Nat) (v1 : Int32) (v2 : Int32) (v3 : Int32) (v4 : Int32) (h : am_H) : Le (Ref_splits_43_b g v0 v1 v2 v3 v4 h) (Ref_splits_43_b g2 v0 v1 v2 v3 v4 h) := by unfold Ref_splits_43_b; exact le_i (hg _) (le_b (le_r _) fun x36 => le_b (le_r _) fun x38 => le_b (le_r _) fun x40 => le_i (hg _) (hg _))
set_option maxHeartbeats 1000000 in
set_option maxRecDepth 100000 in
noncomputable def Ref_splits_68_b (g : (Nat × Int32 × Int32 × Int32 × Int32 × Int32 × Int32 × Nat × Nat × am_H) → Option am_H) (v0 : Nat) (v1 : Int32) (v2 : Int32) (v3 : Int32) (v4 : Int32) (h : am_H) : Option am_H := (Ref_isDigit v3 h).bind fun x44 => if x44 = (0 : Int32) then g (100, v1, v2, v3, v4, 0, 0, v0, 0, h) else g (75, v1, v2, v3, v4, 0, 0, v0, 0, h)
set_option maxHeartbeats 1000000 in
set_option maxRecDepth 100000 in
theorem Ref_splits_68_m {g g2 : (Nat × Int32 × Int32 × Int32 × Int32 × Int32 × Int32 × Nat × Nat × am_H) → Option am_H} (hg : ∀ s, Le (g s) (g2 s)) (v0 : Nat) (v1 : Int32) (v2 : Int32) (v3 : Int32) (v4 : Int32) (h : am_H) : Le (Ref_splits_68_b g v0 v1 v2 v3 v4 h) (Ref_splits_68_b g2 v0 v1 v2 v3 v4 h) := by unfold Ref_splits_68_b; exact le_b (le_r _) fun x44 => le_i (hg _) (hg _)
set_option maxHeartbeats 1000000 in
set_option maxRecDepth 100000 in
noncomputable def Ref_splits_75_b (g : (Nat × Int32 × Int32 × Int32 × Int32 × Int32 × Int32 × Nat × Nat × am_H) → Option am_H) (v0 : Nat) (v1 : Int32) (v2 : Int32) (v3 : Int32) (v4 : Int32) (h : am_H) : Option am_H := if v1 ≤ v4 then g (100, v1, v2, v3, v4, 0, 0, v0, 0, h) else (gR h 12 v0 10).bind fun x50 => (aI h 1 x50 v4).bind fun x52 => (Ref_isDigit x52 h).bind fun x54 => if x54 = (0 : Int32) then g (100, v1, v2, v3, v4, 0, 0, v0, 0, h) else g (75, v1, v2, v3, (v4 + (1 : Int32)), 0, 0, v0, 0, h)
set_option maxHeartbeats 1000000 in
set_option maxRecDepth 100000 in
theorem Ref_splits_75_m {g g2 : (Nat × Int32 × Int32 × Int32 × Int32 × Int32 × Int32 × Nat × Nat × am_H) → Option am_H} (hg : ∀ s, Le (g s) (g2 s)) (v0 : Nat) (v1 : Int32) (v2 : Int32) (v3 : Int32) (v4 : Int32) (h : am_H) : Le (Ref_splits_75_b g v0 v1 v2 v3 v4 h) (Ref_splits_75_b g2 v0 v1 v2 v3 v4 h) := by unfold Ref_splits_75_b; exact le_i (hg _) (le_b (le_r _) fun x50 => le_b (le_r _) fun x52 => le_b (le_r _) fun x54 => le_i (hg _) (hg _))
set_option maxHeartbeats 1000000 in
set_option maxRecDepth 100000 in
noncomputable def Ref_splits_100_b (g : (Nat × Int32 × Int32 × Int32 × Int32 × Int32 × Int32 × Nat × Nat × am_H) → Option am_H) (v0 : Nat) (v1 : Int32) (v2 : Int32) (v3 : Int32) (v4 : Int32) (h : am_H) : Option am_H := (gR h 12 v0 16).bind fun x58 => (gI h 12 v0 17).bind fun x60 => (sI h x58 x60 v2).bind fun h62 => (gR h62 12 v0 15).bind fun x65 => (gI h62 12 v0 17).bind fun x67 => (sI h62 x65 x67 (0 : Int32)).bind fun h69 => (gR h69 12 v0 14).bind fun x72 => (gI h69 12 v0 17).bind fun x74 => (Ref_isSmall v3 h69).bind fun x76 => if x76 = (0 : Int32) then (Ref_isDigit v3 h69).bind fun x80 => if x80 = (0 : Int32) then g (165, v1, v2, v3, v4, ((100 : Int32) + (v3 &&& (255 : Int32))), x74, v0, x72, h69) else g (165, v1, v2, v3, v4, (50 : Int32), x74, v0, x72, h69) else (Ref_wordOf v0 v2 v4 h69).bind fun x84 => g (165, v1, v2, v3, v4, x84, x74, v0, x72, h69)
set_option maxHeartbeats 1000000 in
set_option maxRecDepth 100000 in
theorem Ref_splits_100_m {g g2 : (Nat × Int32 × Int32 × Int32 × Int32 × Int32 × Int32 × Nat × Nat × am_H) → Option am_H} (hg : ∀ s, Le (g s) (g2 s)) (v0 : Nat) (v1 : Int32) (v2 : Int32) (v3 : Int32) (v4 : Int32) (h : am_H) : Le (Ref_splits_100_b g v0 v1 v2 v3 v4 h) (Ref_splits_100_b g2 v0 v1 v2 v3 v4 h) := by unfold Ref_splits_100_b; exact le_b (le_r _) fun x58 => le_b (le_r _) fun x60 => le_b (le_r _) fun h62 => le_b (le_r _) fun x65 => le_b (le_r _) fun x67 => le_b (le_r _) fun h69 => le_b (le_r _) fun x72 => le_b (le_r _) fun x74 => le_b (le_r _) fun x76 => le_i (le_b (le_r _) fun x80 => le_i (hg _) (hg _)) (le_b (le_r _) fun x84 => hg _)
set_option maxHeartbeats 1000000 in
set_option maxRecDepth 100000 in
noncomputable def Ref_splits_165_b (g : (Nat × Int32 × Int32 × Int32 × Int32 × Int32 × Int32 × Nat × Nat × am_H) → Option am_H) (v0 : Nat) (v1 : Int32) (v2 : Int32) (v3 : Int32) (v4 : Int32) (s0 : Int32) (s1 : Int32) (s2 : Nat) (h : am_H) : Option am_H := (sI h s2 s1 s0).bind fun h86 => g (169, v1, v3, v4, v2, 0, 0, v0, 0, h86)
set_option maxHeartbeats 1000000 in
set_option maxRecDepth 100000 in
theorem Ref_splits_165_m {g g2 : (Nat × Int32 × Int32 × Int32 × Int32 × Int32 × Int32 × Nat × Nat × am_H) → Option am_H} (hg : ∀ s, Le (g s) (g2 s)) (v0 : Nat) (v1 : Int32) (v2 : Int32) (v3 : Int32) (v4 : Int32) (s0 : Int32) (s1 : Int32) (s2 : Nat) (h : am_H) : Le (Ref_splits_165_b g v0 v1 v2 v3 v4 s0 s1 s2 h) (Ref_splits_165_b g2 v0 v1 v2 v3 v4 s0 s1 s2 h) := by unfold Ref_splits_165_b; exact le_b (le_r _) fun h86 => hg _
set_option maxHeartbeats 1000000 in
set_option maxRecDepth 100000 in
noncomputable def Ref_splits_169_b (g : (Nat × Int32 × Int32 × Int32 × Int32 × Int32 × Int32 × Nat × Nat × am_H) → Option am_H) (v0 : Nat) (v1 : Int32) (v3 : Int32) (v4 : Int32) (v5 : Int32) (h : am_H) : Option am_H := if v4 ≤ v5 then g (247, v1, v4, 0, 0, 0, 0, v0, 0, h) else (Ref_isDigit v3 h).bind fun x91 => if x91 = (0 : Int32) then g (247, v1, v4, 0, 0, 0, 0, v0, 0, h) else (gR h 12 v0 15).bind fun x95 => (gI h 12 v0 17).bind fun x97 => (gR h 12 v0 15).bind fun x99 => (gI h 12 v0 17).bind fun x101 => (aI h 0 x99 x101).bind fun x103 => if x103 ≤ (1000000 : Int32) then (gR h 12 v0 15).bind fun x107 => (gI h 12 v0 17).bind fun x109 => (aI h 0 x107 x109).bind fun x111 => (gR h 12 v0 10).bind fun x113 => (aI h 1 x113 v5).bind fun x115 => g (240, v1, v3, v4, v5, ((((10 : Int32) * x111) + x115) - (48 : Int32)), x97, v0, x95, h) else (gR h 12 v0 15).bind fun x117 => (gI h 12 v0 17).bind fun x119 => (aI h 0 x117 x119).bind fun x121 => g (240, v1, v3, v4, v5, x121, x97, v0, x95, h)
set_option maxHeartbeats 1000000 in
set_option maxRecDepth 100000 in
theorem Ref_splits_169_m {g g2 : (Nat × Int32 × Int32 × Int32 × Int32 × Int32 × Int32 × Nat × Nat × am_H) → Option am_H} (hg : ∀ s, Le (g s) (g2 s)) (v0 : Nat) (v1 : Int32) (v3 : Int32) (v4 : Int32) (v5 : Int32) (h : am_H) : Le (Ref_splits_169_b g v0 v1 v3 v4 v5 h) (Ref_splits_169_b g2 v0 v1 v3 v4 v5 h) := by unfold Ref_splits_169_b; exact le_i (hg _) (le_b (le_r _) fun x91 => le_i (hg _) (le_b (le_r _) fun x95 => le_b (le_r _) fun x97 => le_b (le_r _) fun x99 => le_b (le_r _) fun x101 => le_b (le_r _) fun x103 => le_i (le_b (le_r _) fun x107 => le_b (le_r _) fun x109 => le_b (le_r _) fun x111 => le_b (le_r _) fun x113 => le_b (le_r _) fun x115 => hg _) (le_b (le_r _) fun x117 => le_b (le_r _) fun x119 => le_b (le_r _) fun x121 => hg _)))
set_option maxHeartbeats 1000000 in
set_option maxRecDepth 100000 in
noncomputable def Ref_splits_240_b (g : (Nat × Int32 × Int32 × Int32 × Int32 × Int32 × Int32 × Nat × Nat × am_H) → Option am_H) (v0 : Nat) (v1 : Int32) (v3 : Int32) (v4 : Int32) (v5 : Int32) (s0 : Int32) (s1 : Int32) (s2 : Nat) (h : am_H) : Option am_H := (sI h s2 s1 s0).bind fun h123 => g (169, v1, v3, v4, (v5 + (1 : Int32)), 0, 0, v0, 0, h123)
set_option maxHeartbeats 1000000 in
set_option maxRecDepth 100000 in
theorem Ref_splits_240_m {g g2 : (Nat × Int32 × Int32 × Int32 × Int32 × Int32 × Int32 × Nat × Nat × am_H) → Option am_H} (hg : ∀ s, Le (g s) (g2 s)) (v0 : Nat) (v1 : Int32) (v3 : Int32) (v4 : Int32) (v5 : Int32) (s0 : Int32) (s1 : Int32) (s2 : Nat) (h : am_H) : Le (Ref_splits_240_b g v0 v1 v3 v4 v5 s0 s1 s2 h) (Ref_splits_240_b g2 v0 v1 v3 v4 v5 s0 s1 s2 h) := by unfold Ref_splits_240_b; exact le_b (le_r _) fun h123 => hg _
set_option maxHeartbeats 1000000 in
set_option maxRecDepth 100000 in
noncomputable def Ref_splits_247_b (g : (Nat × Int32 × Int32 × Int32 × Int32 × Int32 × Int32 × Nat × Nat × am_H) → Option am_H) (v0 : Nat) (v1 : Int32) (v4 : Int32) (h : am_H) : Option am_H := (gI h 12 v0 17).bind fun x126 => (pV h 12 v0 17 (.int (x126 + (1 : Int32)))).bind fun h128 => g (7, v1, v4, 0, 0, 0, 0, v0, 0, h128)
set_option maxHeartbeats 1000000 in
set_option maxRecDepth 100000 in
theorem Ref_splits_247_m {g g2 : (Nat × Int32 × Int32 × Int32 × Int32 × Int32 × Int32 × Nat × Nat × am_H) → Option am_H} (hg : ∀ s, Le (g s) (g2 s)) (v0 : Nat) (v1 : Int32) (v4 : Int32) (h : am_H) : Le (Ref_splits_247_b g v0 v1 v4 h) (Ref_splits_247_b g2 v0 v1 v4 h) := by unfold Ref_splits_247_b; exact le_b (le_r _) fun x126 => le_b (le_r _) fun h128 => hg _
noncomputable def Ref_splits_7_F (g : (Nat × Int32 × Int32 × Int32 × Int32 × Int32 × Int32 × Nat × Nat × am_H) → Option am_H) (s : (Nat × Int32 × Int32 × Int32 × Int32 × Int32 × Int32 × Nat × Nat × am_H)) : Option am_H := if s.1 = 7 then Ref_splits_7_b g s.2.2.2.2.2.2.2.1 s.2.1 s.2.2.1 s.2.2.2.2.2.2.2.2.2 else if s.1 = 43 then Ref_splits_43_b g s.2.2.2.2.2.2.2.1 s.2.1 s.2.2.1 s.2.2.2.1 s.2.2.2.2.1 s.2.2.2.2.2.2.2.2.2 else if s.1 = 68 then Ref_splits_68_b g s.2.2.2.2.2.2.2.1 s.2.1 s.2.2.1 s.2.2.2.1 s.2.2.2.2.1 s.2.2.2.2.2.2.2.2.2 else if s.1 = 75 then Ref_splits_75_b g s.2.2.2.2.2.2.2.1 s.2.1 s.2.2.1 s.2.2.2.1 s.2.2.2.2.1 s.2.2.2.2.2.2.2.2.2 else if s.1 = 100 then Ref_splits_100_b g s.2.2.2.2.2.2.2.1 s.2.1 s.2.2.1 s.2.2.2.1 s.2.2.2.2.1 s.2.2.2.2.2.2.2.2.2 else if s.1 = 165 then Ref_splits_165_b g s.2.2.2.2.2.2.2.1 s.2.1 s.2.2.1 s.2.2.2.1 s.2.2.2.2.1 s.2.2.2.2.2.1 s.2.2.2.2.2.2.1 s.2.2.2.2.2.2.2.2.1 s.2.2.2.2.2.2.2.2.2 else if s.1 = 169 then Ref_splits_169_b g s.2.2.2.2.2.2.2.1 s.2.1 s.2.2.1 s.2.2.2.1 s.2.2.2.2.1 s.2.2.2.2.2.2.2.2.2 else if s.1 = 240 then Ref_splits_240_b g s.2.2.2.2.2.2.2.1 s.2.1 s.2.2.1 s.2.2.2.1 s.2.2.2.2.1 s.2.2.2.2.2.1 s.2.2.2.2.2.2.1 s.2.2.2.2.2.2.2.2.1 s.2.2.2.2.2.2.2.2.2 else if s.1 = 247 then Ref_splits_247_b g s.2.2.2.2.2.2.2.1 s.2.1 s.2.2.1 s.2.2.2.2.2.2.2.2.2 else none
theorem Ref_splits_7_M : Mn Ref_splits_7_F := fun g g2 hg s => by unfold Ref_splits_7_F; exact le_i (Ref_splits_7_m hg s.2.2.2.2.2.2.2.1 s.2.1 s.2.2.1 s.2.2.2.2.2.2.2.2.2) (le_i (Ref_splits_43_m hg s.2.2.2.2.2.2.2.1 s.2.1 s.2.2.1 s.2.2.2.1 s.2.2.2.2.1 s.2.2.2.2.2.2.2.2.2) (le_i (Ref_splits_68_m hg s.2.2.2.2.2.2.2.1 s.2.1 s.2.2.1 s.2.2.2.1 s.2.2.2.2.1 s.2.2.2.2.2.2.2.2.2) (le_i (Ref_splits_75_m hg s.2.2.2.2.2.2.2.1 s.2.1 s.2.2.1 s.2.2.2.1 s.2.2.2.2.1 s.2.2.2.2.2.2.2.2.2) (le_i (Ref_splits_100_m hg s.2.2.2.2.2.2.2.1 s.2.1 s.2.2.1 s.2.2.2.1 s.2.2.2.2.1 s.2.2.2.2.2.2.2.2.2) (le_i (Ref_splits_165_m hg s.2.2.2.2.2.2.2.1 s.2.1 s.2.2.1 s.2.2.2.1 s.2.2.2.2.1 s.2.2.2.2.2.1 s.2.2.2.2.2.2.1 s.2.2.2.2.2.2.2.2.1 s.2.2.2.2.2.2.2.2.2) (le_i (Ref_splits_169_m hg s.2.2.2.2.2.2.2.1 s.2.1 s.2.2.1 s.2.2.2.1 s.2.2.2.2.1 s.2.2.2.2.2.2.2.2.2) (le_i (Ref_splits_240_m hg s.2.2.2.2.2.2.2.1 s.2.1 s.2.2.1 s.2.2.2.1 s.2.2.2.2.1 s.2.2.2.2.2.1 s.2.2.2.2.2.2.1 s.2.2.2.2.2.2.2.2.1 s.2.2.2.2.2.2.2.2.2) (le_i (Ref_splits_247_m hg s.2.2.2.2.2.2.2.1 s.2.1 s.2.2.1 s.2.2.2.2.2.2.2.2.2) (le_r _)))))))))
def Ref_splits_7_P (s : (Nat × Int32 × Int32 × Int32 × Int32 × Int32 × Int32 × Nat × Nat × am_H)) (r : am_H) : Prop := (s.1 = 7 → Sx 1 mX12_splits 7 [.ref s.2.2.2.2.2.2.2.1, .int s.2.1, .int s.2.2.1, .retAddr 0, .retAddr 0, .retAddr 0] [] s.2.2.2.2.2.2.2.2.2 none r) ∧ (s.1 = 43 → Sx 1 mX12_splits 43 [.ref s.2.2.2.2.2.2.2.1, .int s.2.1, .int s.2.2.1, .int s.2.2.2.1, .int s.2.2.2.2.1, .retAddr 0] [] s.2.2.2.2.2.2.2.2.2 none r) ∧ (s.1 = 68 → Sx 1 mX12_splits 68 [.ref s.2.2.2.2.2.2.2.1, .int s.2.1, .int s.2.2.1, .int s.2.2.2.1, .int s.2.2.2.2.1, .retAddr 0] [] s.2.2.2.2.2.2.2.2.2 none r) ∧ (s.1 = 75 → Sx 1 mX12_splits 75 [.ref s.2.2.2.2.2.2.2.1, .int s.2.1, .int s.2.2.1, .int s.2.2.2.1, .int s.2.2.2.2.1, .retAddr 0] [] s.2.2.2.2.2.2.2.2.2 none r) ∧ (s.1 = 100 → Sx 1 mX12_splits 100 [.ref s.2.2.2.2.2.2.2.1, .int s.2.1, .int s.2.2.1, .int s.2.2.2.1, .int s.2.2.2.2.1, .retAddr 0] [] s.2.2.2.2.2.2.2.2.2 none r) ∧ (s.1 = 165 → Sx 1 mX12_splits 165 [.ref s.2.2.2.2.2.2.2.1, .int s.2.1, .int s.2.2.1, .int s.2.2.2.1, .int s.2.2.2.2.1, .retAddr 0] [.int s.2.2.2.2.2.1, .int s.2.2.2.2.2.2.1, .ref s.2.2.2.2.2.2.2.2.1] s.2.2.2.2.2.2.2.2.2 none r) ∧ (s.1 = 169 → Sx 1 mX12_splits 169 [.ref s.2.2.2.2.2.2.2.1, .int s.2.1, .retAddr 0, .int s.2.2.1, .int s.2.2.2.1, .int s.2.2.2.2.1] [] s.2.2.2.2.2.2.2.2.2 none r) ∧ (s.1 = 240 → Sx 1 mX12_splits 240 [.ref s.2.2.2.2.2.2.2.1, .int s.2.1, .retAddr 0, .int s.2.2.1, .int s.2.2.2.1, .int s.2.2.2.2.1] [.int s.2.2.2.2.2.1, .int s.2.2.2.2.2.2.1, .ref s.2.2.2.2.2.2.2.2.1] s.2.2.2.2.2.2.2.2.2 none r) ∧ (s.1 = 247 → Sx 1 mX12_splits 247 [.ref s.2.2.2.2.2.2.2.1, .int s.2.1, .retAddr 0, .retAddr 0, .int s.2.2.1, .retAddr 0] [] s.2.2.2.2.2.2.2.2.2 none r) ∧ True
set_option maxHeartbeats 1000000 in
set_option maxRecDepth 100000 in
theorem Ref_splits_7_t {g : (Nat × Int32 × Int32 × Int32 × Int32 × Int32 × Int32 × Nat × Nat × am_H) → Option am_H} (hg : ∀ s r, g s = some r → Ref_splits_7_P s r) {v0 : Nat} {v1 : Int32} {v2 : Int32} {h : am_H} {r : am_H} (hb : Ref_splits_7_b g v0 v1 v2 h = some r) : Sx 1 mX12_splits 7 [.ref v0, .int v1, .int v2, .retAddr 0, .retAddr 0, .retAddr 0] [] h none r := by
  unfold Ref_splits_7_b at hb
  refine Sx.o (fun _ _ _ k => ex_iload_n dX12_splits_7 rfl k) ?_
  refine Sx.o (fun _ _ _ k => ex_iload_n dX12_splits_8 rfl k) ?_
  refine Sx.b (fun _ _ _ k1 k2 => ex_icmp_ge 263 dX12_splits_9 (by decide) k1 k2) (fun q => ?_) (fun q => ?_)
  · have hb1 := ip q hb
    refine Sx.o (fun _ _ _ k => ex_aload_n dX12_splits_263 rfl rfl k) ?_
    obtain ⟨x3, e_x3, hb4⟩ := ob2 hb1
    refine Sx.o (fun _ _ _ k => op_getR fX12_56 dX12_splits_264 e_x3 k) ?_
    refine Sx.o (fun _ _ _ k => ex_aload_n dX12_splits_267 rfl rfl k) ?_
    obtain ⟨x5, e_x5, hb6⟩ := ob2 hb4
    refine Sx.o (fun _ _ _ k => op_getI fX12_154 dX12_splits_268 e_x5 k) ?_
    refine Sx.o (fun _ _ _ k => ex_iload_n dX12_splits_271 rfl k) ?_
    obtain ⟨h7, e_h7, hb8⟩ := ob2 hb6
    refine Sx.p (sI_q e_h7) (fun _ _ _ k => op_iast dX12_splits_272 e_h7 k) ?_
    refine Sx.o (fun _ _ _ k => ex_aload_n dX12_splits_273 rfl rfl k) ?_
    obtain ⟨x10, e_x10, hb11⟩ := ob2 hb8
    refine Sx.o (fun _ _ _ k => op_getR fX12_50 dX12_splits_274 e_x10 k) ?_
    refine Sx.o (fun _ _ _ k => ex_aload_n dX12_splits_277 rfl rfl k) ?_
    obtain ⟨x12, e_x12, hb13⟩ := ob2 hb11
    refine Sx.o (fun _ _ _ k => op_getI fX12_154 dX12_splits_278 e_x12 k) ?_
    refine Sx.o (fun _ _ _ k => op_iconst (0 : Int32) dX12_splits_281 (by decide) k) ?_
    obtain ⟨h14, e_h14, hb15⟩ := ob2 hb13
    refine Sx.p (sI_q e_h14) (fun _ _ _ k => op_iast dX12_splits_282 e_h14 k) ?_
    refine Sx.o (fun _ _ _ k => ex_aload_n dX12_splits_283 rfl rfl k) ?_
    obtain ⟨x17, e_x17, hb18⟩ := ob2 hb15
    refine Sx.o (fun _ _ _ k => op_getR fX12_53 dX12_splits_284 e_x17 k) ?_
    refine Sx.o (fun _ _ _ k => ex_aload_n dX12_splits_287 rfl rfl k) ?_
    obtain ⟨x19, e_x19, hb20⟩ := ob2 hb18
    refine Sx.o (fun _ _ _ k => op_getI fX12_154 dX12_splits_288 e_x19 k) ?_
    refine Sx.o (fun _ _ _ k => op_iconst (0 : Int32) dX12_splits_291 (by decide) k) ?_
    obtain ⟨h21, e_h21, hb22⟩ := ob2 hb20
    refine Sx.p (sI_q e_h21) (fun _ _ _ k => op_iast dX12_splits_292 e_h21 k) ?_
    obtain rfl := Option.some.inj hb22
    exact Sx.r (fun _ _ _ k => ex_vret rfl dX12_splits_293 k)
  · have hb2 := iq q hb
    refine Sx.o (fun _ _ _ k => ex_aload_n dX12_splits_12 rfl rfl k) ?_
    obtain ⟨x24, e_x24, hb25⟩ := ob2 hb2
    refine Sx.o (fun _ _ _ k => op_getR fX12_41 dX12_splits_13 e_x24 k) ?_
    refine Sx.o (fun _ _ _ k => ex_iload_n dX12_splits_16 rfl k) ?_
    obtain ⟨x26, e_x26, hb27⟩ := ob2 hb25
    refine Sx.o (fun _ _ _ k => op_bald dX12_splits_17 e_x26 k) ?_
    refine Sx.o (L' := [.ref v0, .int v1, .int v2, .int x26, .retAddr 0, .retAddr 0]) (fun _ _ _ k => ex_istore_n dX12_splits_18 (by decide) k) ?_
    refine Sx.o (fun _ _ _ k => ex_iload_n dX12_splits_19 rfl k) ?_
    refine Sx.o (fun _ _ _ k => op_bipush (32 : Int32) dX12_splits_20 (by decide) k) ?_
    refine Sx.bn (fun _ _ _ k1 k2 => ex_icmp_ne 31 dX12_splits_22 (by decide) k1 k2) (fun q => ?_) (fun q => ?_)
    · have hb28 := iq q hb27
      refine Sx.o (fun _ _ _ k => ex_iload_n dX12_splits_31 rfl k) ?_
      refine Sx.o (fun _ _ _ k => op_iconst (1 : Int32) dX12_splits_32 (by decide) k) ?_
      refine Sx.o (fun _ _ _ k => ex_iadd dX12_splits_33 k) ?_
      refine Sx.o (L' := [.ref v0, .int v1, .int v2, .int x26, .int (v2 + (1 : Int32)), .retAddr 0]) (fun _ _ _ k => ex_istore dX12_splits_34 (by decide) k) ?_
      refine Sx.o (fun _ _ _ k => ex_iload_n dX12_splits_36 rfl k) ?_
      obtain ⟨x30, e_x30, hb31⟩ := ob2 hb28
      refine sx_callS (dc := 0) (as := [.int x26]) (stq := [.int x30]) (by omega) dX12_splits_37 MX12_isSmall kX12_157 tX12_isSmall rfl rfl (Nat.le_of_ble_eq_true rfl) (Nat.le_of_ble_eq_true rfl) (Ref_isSmall_s e_x30) rfl ?_
      refine Sx.b (fun _ _ _ k1 k2 => ex_if_eq 68 dX12_splits_40 (by decide) k1 k2) (fun q => ?_) (fun q => ?_)
      · have hb32 := ip q hb31
        exact (hg _ _ hb32).2.2.1 rfl
      · have hb33 := iq q hb31
        exact (hg _ _ hb33).2.1 rfl
    · have hb29 := ip q hb27
      refine Sx.o (L' := [.ref v0, .int v1, .int (v2 + (1 : Int32)), .int x26, .retAddr 0, .retAddr 0]) (fun _ _ _ k => op_iinc (1 : Int32) dX12_splits_25 (by decide) rfl (by decide) k) ?_
      refine Sx.o (fun _ _ _ k => ex_goto 7 dX12_splits_28 (by decide) k) ?_
      refine Sx.fg [true, true, true, false, true, true] ?_
      exact (hg _ _ hb29).1 rfl
set_option maxHeartbeats 1000000 in
set_option maxRecDepth 100000 in
theorem Ref_splits_43_t {g : (Nat × Int32 × Int32 × Int32 × Int32 × Int32 × Int32 × Nat × Nat × am_H) → Option am_H} (hg : ∀ s r, g s = some r → Ref_splits_7_P s r) {v0 : Nat} {v1 : Int32} {v2 : Int32} {v3 : Int32} {v4 : Int32} {h : am_H} {r : am_H} (hb : Ref_splits_43_b g v0 v1 v2 v3 v4 h = some r) : Sx 1 mX12_splits 43 [.ref v0, .int v1, .int v2, .int v3, .int v4, .retAddr 0] [] h none r := by
  unfold Ref_splits_43_b at hb
  refine Sx.o (fun _ _ _ k => ex_iload dX12_splits_43 rfl k) ?_
  refine Sx.o (fun _ _ _ k => ex_iload_n dX12_splits_45 rfl k) ?_
  refine Sx.b (fun _ _ _ k1 k2 => ex_icmp_ge 68 dX12_splits_46 (by decide) k1 k2) (fun q => ?_) (fun q => ?_)
  · have hb34 := ip q hb
    exact (hg _ _ hb34).2.2.1 rfl
  · have hb35 := iq q hb
    refine Sx.o (fun _ _ _ k => ex_aload_n dX12_splits_49 rfl rfl k) ?_
    obtain ⟨x36, e_x36, hb37⟩ := ob2 hb35
    refine Sx.o (fun _ _ _ k => op_getR fX12_41 dX12_splits_50 e_x36 k) ?_
    refine Sx.o (fun _ _ _ k => ex_iload dX12_splits_53 rfl k) ?_
    obtain ⟨x38, e_x38, hb39⟩ := ob2 hb37
    refine Sx.o (fun _ _ _ k => op_bald dX12_splits_55 e_x38 k) ?_
    obtain ⟨x40, e_x40, hb41⟩ := ob2 hb39
    refine sx_callS (dc := 0) (as := [.int x38]) (stq := [.int x40]) (by omega) dX12_splits_56 MX12_isSmall kX12_157 tX12_isSmall rfl rfl (Nat.le_of_ble_eq_true rfl) (Nat.le_of_ble_eq_true rfl) (Ref_isSmall_s e_x40) rfl ?_
    refine Sx.b (fun _ _ _ k1 k2 => ex_if_eq 68 dX12_splits_59 (by decide) k1 k2) (fun q => ?_) (fun q => ?_)
    · have hb42 := ip q hb41
      exact (hg _ _ hb42).2.2.1 rfl
    · have hb43 := iq q hb41
      refine Sx.o (L' := [.ref v0, .int v1, .int v2, .int v3, .int (v4 + (1 : Int32)), .retAddr 0]) (fun _ _ _ k => op_iinc (1 : Int32) dX12_splits_62 (by decide) rfl (by decide) k) ?_
      refine Sx.o (fun _ _ _ k => ex_goto 43 dX12_splits_65 (by decide) k) ?_
      exact (hg _ _ hb43).2.1 rfl
set_option maxHeartbeats 1000000 in
set_option maxRecDepth 100000 in
theorem Ref_splits_68_t {g : (Nat × Int32 × Int32 × Int32 × Int32 × Int32 × Int32 × Nat × Nat × am_H) → Option am_H} (hg : ∀ s r, g s = some r → Ref_splits_7_P s r) {v0 : Nat} {v1 : Int32} {v2 : Int32} {v3 : Int32} {v4 : Int32} {h : am_H} {r : am_H} (hb : Ref_splits_68_b g v0 v1 v2 v3 v4 h = some r) : Sx 1 mX12_splits 68 [.ref v0, .int v1, .int v2, .int v3, .int v4, .retAddr 0] [] h none r := by
  unfold Ref_splits_68_b at hb
  refine Sx.o (fun _ _ _ k => ex_iload_n dX12_splits_68 rfl k) ?_
  obtain ⟨x44, e_x44, hb45⟩ := ob2 hb
  refine sx_callS (dc := 0) (as := [.int v3]) (stq := [.int x44]) (by omega) dX12_splits_69 MX12_isDigit kX12_160 tX12_isDigit rfl rfl (Nat.le_of_ble_eq_true rfl) (Nat.le_of_ble_eq_true rfl) (Ref_isDigit_s e_x44) rfl ?_
  refine Sx.b (fun _ _ _ k1 k2 => ex_if_eq 100 dX12_splits_72 (by decide) k1 k2) (fun q => ?_) (fun q => ?_)
  · have hb46 := ip q hb45
    exact (hg _ _ hb46).2.2.2.2.1 rfl
  · have hb47 := iq q hb45
    exact (hg _ _ hb47).2.2.2.1 rfl
set_option maxHeartbeats 1000000 in
set_option maxRecDepth 100000 in
theorem Ref_splits_75_t {g : (Nat × Int32 × Int32 × Int32 × Int32 × Int32 × Int32 × Nat × Nat × am_H) → Option am_H} (hg : ∀ s r, g s = some r → Ref_splits_7_P s r) {v0 : Nat} {v1 : Int32} {v2 : Int32} {v3 : Int32} {v4 : Int32} {h : am_H} {r : am_H} (hb : Ref_splits_75_b g v0 v1 v2 v3 v4 h = some r) : Sx 1 mX12_splits 75 [.ref v0, .int v1, .int v2, .int v3, .int v4, .retAddr 0] [] h none r := by
  unfold Ref_splits_75_b at hb
  refine Sx.o (fun _ _ _ k => ex_iload dX12_splits_75 rfl k) ?_
  refine Sx.o (fun _ _ _ k => ex_iload_n dX12_splits_77 rfl k) ?_
  refine Sx.b (fun _ _ _ k1 k2 => ex_icmp_ge 100 dX12_splits_78 (by decide) k1 k2) (fun q => ?_) (fun q => ?_)
  · have hb48 := ip q hb
    exact (hg _ _ hb48).2.2.2.2.1 rfl
  · have hb49 := iq q hb
    refine Sx.o (fun _ _ _ k => ex_aload_n dX12_splits_81 rfl rfl k) ?_
    obtain ⟨x50, e_x50, hb51⟩ := ob2 hb49
    refine Sx.o (fun _ _ _ k => op_getR fX12_41 dX12_splits_82 e_x50 k) ?_
    refine Sx.o (fun _ _ _ k => ex_iload dX12_splits_85 rfl k) ?_
    obtain ⟨x52, e_x52, hb53⟩ := ob2 hb51
    refine Sx.o (fun _ _ _ k => op_bald dX12_splits_87 e_x52 k) ?_
    obtain ⟨x54, e_x54, hb55⟩ := ob2 hb53
    refine sx_callS (dc := 0) (as := [.int x52]) (stq := [.int x54]) (by omega) dX12_splits_88 MX12_isDigit kX12_160 tX12_isDigit rfl rfl (Nat.le_of_ble_eq_true rfl) (Nat.le_of_ble_eq_true rfl) (Ref_isDigit_s e_x54) rfl ?_
    refine Sx.b (fun _ _ _ k1 k2 => ex_if_eq 100 dX12_splits_91 (by decide) k1 k2) (fun q => ?_) (fun q => ?_)
    · have hb56 := ip q hb55
      exact (hg _ _ hb56).2.2.2.2.1 rfl
    · have hb57 := iq q hb55
      refine Sx.o (L' := [.ref v0, .int v1, .int v2, .int v3, .int (v4 + (1 : Int32)), .retAddr 0]) (fun _ _ _ k => op_iinc (1 : Int32) dX12_splits_94 (by decide) rfl (by decide) k) ?_
      refine Sx.o (fun _ _ _ k => ex_goto 75 dX12_splits_97 (by decide) k) ?_
      exact (hg _ _ hb57).2.2.2.1 rfl
set_option maxHeartbeats 1000000 in
set_option maxRecDepth 100000 in
theorem Ref_splits_100_t {g : (Nat × Int32 × Int32 × Int32 × Int32 × Int32 × Int32 × Nat × Nat × am_H) → Option am_H} (hg : ∀ s r, g s = some r → Ref_splits_7_P s r) {v0 : Nat} {v1 : Int32} {v2 : Int32} {v3 : Int32} {v4 : Int32} {h : am_H} {r : am_H} (hb : Ref_splits_100_b g v0 v1 v2 v3 v4 h = some r) : Sx 1 mX12_splits 100 [.ref v0, .int v1, .int v2, .int v3, .int v4, .retAddr 0] [] h none r := by
  unfold Ref_splits_100_b at hb
  refine Sx.o (fun _ _ _ k => ex_aload_n dX12_splits_100 rfl rfl k) ?_
  obtain ⟨x58, e_x58, hb59⟩ := ob2 hb
  refine Sx.o (fun _ _ _ k => op_getR fX12_56 dX12_splits_101 e_x58 k) ?_
  refine Sx.o (fun _ _ _ k => ex_aload_n dX12_splits_104 rfl rfl k) ?_
  obtain ⟨x60, e_x60, hb61⟩ := ob2 hb59
  refine Sx.o (fun _ _ _ k => op_getI fX12_154 dX12_splits_105 e_x60 k) ?_
  refine Sx.o (fun _ _ _ k => ex_iload_n dX12_splits_108 rfl k) ?_
  obtain ⟨h62, e_h62, hb63⟩ := ob2 hb61
  refine Sx.p (sI_q e_h62) (fun _ _ _ k => op_iast dX12_splits_109 e_h62 k) ?_
  refine Sx.o (fun _ _ _ k => ex_aload_n dX12_splits_110 rfl rfl k) ?_
  obtain ⟨x65, e_x65, hb66⟩ := ob2 hb63
  refine Sx.o (fun _ _ _ k => op_getR fX12_53 dX12_splits_111 e_x65 k) ?_
  refine Sx.o (fun _ _ _ k => ex_aload_n dX12_splits_114 rfl rfl k) ?_
  obtain ⟨x67, e_x67, hb68⟩ := ob2 hb66
  refine Sx.o (fun _ _ _ k => op_getI fX12_154 dX12_splits_115 e_x67 k) ?_
  refine Sx.o (fun _ _ _ k => op_iconst (0 : Int32) dX12_splits_118 (by decide) k) ?_
  obtain ⟨h69, e_h69, hb70⟩ := ob2 hb68
  refine Sx.p (sI_q e_h69) (fun _ _ _ k => op_iast dX12_splits_119 e_h69 k) ?_
  refine Sx.o (fun _ _ _ k => ex_aload_n dX12_splits_120 rfl rfl k) ?_
  obtain ⟨x72, e_x72, hb73⟩ := ob2 hb70
  refine Sx.o (fun _ _ _ k => op_getR fX12_50 dX12_splits_121 e_x72 k) ?_
  refine Sx.o (fun _ _ _ k => ex_aload_n dX12_splits_124 rfl rfl k) ?_
  obtain ⟨x74, e_x74, hb75⟩ := ob2 hb73
  refine Sx.o (fun _ _ _ k => op_getI fX12_154 dX12_splits_125 e_x74 k) ?_
  refine Sx.o (fun _ _ _ k => ex_iload_n dX12_splits_128 rfl k) ?_
  obtain ⟨x76, e_x76, hb77⟩ := ob2 hb75
  refine sx_callS (dc := 0) (as := [.int v3]) (stq := [.int x76, .int x74, .ref x72]) (by omega) dX12_splits_129 MX12_isSmall kX12_157 tX12_isSmall rfl rfl (Nat.le_of_ble_eq_true rfl) (Nat.le_of_ble_eq_true rfl) (Ref_isSmall_s e_x76) rfl ?_
  refine Sx.b (fun _ _ _ k1 k2 => ex_if_eq 145 dX12_splits_132 (by decide) k1 k2) (fun q => ?_) (fun q => ?_)
  · have hb78 := ip q hb77
    refine Sx.o (fun _ _ _ k => ex_iload_n dX12_splits_145 rfl k) ?_
    obtain ⟨x80, e_x80, hb81⟩ := ob2 hb78
    refine sx_callS (dc := 0) (as := [.int v3]) (stq := [.int x80, .int x74, .ref x72]) (by omega) dX12_splits_146 MX12_isDigit kX12_160 tX12_isDigit rfl rfl (Nat.le_of_ble_eq_true rfl) (Nat.le_of_ble_eq_true rfl) (Ref_isDigit_s e_x80) rfl ?_
    refine Sx.b (fun _ _ _ k1 k2 => ex_if_eq 157 dX12_splits_149 (by decide) k1 k2) (fun q => ?_) (fun q => ?_)
    · have hb82 := ip q hb81
      refine Sx.o (fun _ _ _ k => op_bipush (100 : Int32) dX12_splits_157 (by decide) k) ?_
      refine Sx.o (fun _ _ _ k => ex_iload_n dX12_splits_159 rfl k) ?_
      refine Sx.o (fun _ _ _ k => op_sipush (255 : Int32) dX12_splits_160 (by decide) k) ?_
      refine Sx.o (fun _ _ _ k => ex_iand dX12_splits_163 k) ?_
      refine Sx.o (fun _ _ _ k => ex_iadd dX12_splits_164 k) ?_
      exact (hg _ _ hb82).2.2.2.2.2.1 rfl
    · have hb83 := iq q hb81
      refine Sx.o (fun _ _ _ k => op_bipush (50 : Int32) dX12_splits_152 (by decide) k) ?_
      refine Sx.o (fun _ _ _ k => ex_goto 165 dX12_splits_154 (by decide) k) ?_
      exact (hg _ _ hb83).2.2.2.2.2.1 rfl
  · have hb79 := iq q hb77
    refine Sx.o (fun _ _ _ k => ex_aload_n dX12_splits_135 rfl rfl k) ?_
    refine Sx.o (fun _ _ _ k => ex_iload_n dX12_splits_136 rfl k) ?_
    refine Sx.o (fun _ _ _ k => ex_iload dX12_splits_137 rfl k) ?_
    obtain ⟨x84, e_x84, hb85⟩ := ob2 hb79
    refine sx_callV (dc := 0) (as := [.int v2, .int v4]) (stq := [.int x84, .int x74, .ref x72]) (by omega) dX12_splits_139 MX12_wordOf kX12_163 iX12_wordOf sX12_wordOf rfl rfl (Ref_wordOf_o e_x84) rfl rfl (Nat.le_of_ble_eq_true rfl) (Nat.le_of_ble_eq_true rfl) (Ref_wordOf_s e_x84) rfl ?_
    refine Sx.o (fun _ _ _ k => ex_goto 165 dX12_splits_142 (by decide) k) ?_
    exact (hg _ _ hb85).2.2.2.2.2.1 rfl
set_option maxHeartbeats 1000000 in
set_option maxRecDepth 100000 in
theorem Ref_splits_165_t {g : (Nat × Int32 × Int32 × Int32 × Int32 × Int32 × Int32 × Nat × Nat × am_H) → Option am_H} (hg : ∀ s r, g s = some r → Ref_splits_7_P s r) {v0 : Nat} {v1 : Int32} {v2 : Int32} {v3 : Int32} {v4 : Int32} {s0 : Int32} {s1 : Int32} {s2 : Nat} {h : am_H} {r : am_H} (hb : Ref_splits_165_b g v0 v1 v2 v3 v4 s0 s1 s2 h = some r) : Sx 1 mX12_splits 165 [.ref v0, .int v1, .int v2, .int v3, .int v4, .retAddr 0] [.int s0, .int s1, .ref s2] h none r := by
  unfold Ref_splits_165_b at hb
  obtain ⟨h86, e_h86, hb87⟩ := ob2 hb
  refine Sx.p (sI_q e_h86) (fun _ _ _ k => op_iast dX12_splits_165 e_h86 k) ?_
  refine Sx.o (fun _ _ _ k => ex_iload_n dX12_splits_166 rfl k) ?_
  refine Sx.o (L' := [.ref v0, .int v1, .int v2, .int v3, .int v4, .int v2]) (fun _ _ _ k => ex_istore dX12_splits_167 (by decide) k) ?_
  refine Sx.fg [true, true, false, true, true, true] ?_
  exact (hg _ _ hb87).2.2.2.2.2.2.1 rfl
set_option maxHeartbeats 1000000 in
set_option maxRecDepth 100000 in
theorem Ref_splits_169_t {g : (Nat × Int32 × Int32 × Int32 × Int32 × Int32 × Int32 × Nat × Nat × am_H) → Option am_H} (hg : ∀ s r, g s = some r → Ref_splits_7_P s r) {v0 : Nat} {v1 : Int32} {v3 : Int32} {v4 : Int32} {v5 : Int32} {h : am_H} {r : am_H} (hb : Ref_splits_169_b g v0 v1 v3 v4 v5 h = some r) : Sx 1 mX12_splits 169 [.ref v0, .int v1, .retAddr 0, .int v3, .int v4, .int v5] [] h none r := by
  unfold Ref_splits_169_b at hb
  refine Sx.o (fun _ _ _ k => ex_iload dX12_splits_169 rfl k) ?_
  refine Sx.o (fun _ _ _ k => ex_iload dX12_splits_171 rfl k) ?_
  refine Sx.b (fun _ _ _ k1 k2 => ex_icmp_ge 247 dX12_splits_173 (by decide) k1 k2) (fun q => ?_) (fun q => ?_)
  · have hb89 := ip q hb
    refine Sx.fg [true, true, true, false, true, false] ?_
    exact (hg _ _ hb89).2.2.2.2.2.2.2.2.1 rfl
  · have hb90 := iq q hb
    refine Sx.o (fun _ _ _ k => ex_iload_n dX12_splits_176 rfl k) ?_
    obtain ⟨x91, e_x91, hb92⟩ := ob2 hb90
    refine sx_callS (dc := 0) (as := [.int v3]) (stq := [.int x91]) (by omega) dX12_splits_177 MX12_isDigit kX12_160 tX12_isDigit rfl rfl (Nat.le_of_ble_eq_true rfl) (Nat.le_of_ble_eq_true rfl) (Ref_isDigit_s e_x91) rfl ?_
    refine Sx.b (fun _ _ _ k1 k2 => ex_if_eq 247 dX12_splits_180 (by decide) k1 k2) (fun q => ?_) (fun q => ?_)
    · have hb93 := ip q hb92
      refine Sx.fg [true, true, true, false, true, false] ?_
      exact (hg _ _ hb93).2.2.2.2.2.2.2.2.1 rfl
    · have hb94 := iq q hb92
      refine Sx.o (fun _ _ _ k => ex_aload_n dX12_splits_183 rfl rfl k) ?_
      obtain ⟨x95, e_x95, hb96⟩ := ob2 hb94
      refine Sx.o (fun _ _ _ k => op_getR fX12_53 dX12_splits_184 e_x95 k) ?_
      refine Sx.o (fun _ _ _ k => ex_aload_n dX12_splits_187 rfl rfl k) ?_
      obtain ⟨x97, e_x97, hb98⟩ := ob2 hb96
      refine Sx.o (fun _ _ _ k => op_getI fX12_154 dX12_splits_188 e_x97 k) ?_
      refine Sx.o (fun _ _ _ k => ex_aload_n dX12_splits_191 rfl rfl k) ?_
      obtain ⟨x99, e_x99, hb100⟩ := ob2 hb98
      refine Sx.o (fun _ _ _ k => op_getR fX12_53 dX12_splits_192 e_x99 k) ?_
      refine Sx.o (fun _ _ _ k => ex_aload_n dX12_splits_195 rfl rfl k) ?_
      obtain ⟨x101, e_x101, hb102⟩ := ob2 hb100
      refine Sx.o (fun _ _ _ k => op_getI fX12_154 dX12_splits_196 e_x101 k) ?_
      obtain ⟨x103, e_x103, hb104⟩ := ob2 hb102
      refine Sx.o (fun _ _ _ k => op_iald dX12_splits_199 e_x103 k) ?_
      refine Sx.o (fun _ _ _ k => ex_ldc dX12_splits_200 qX12_167 k) ?_
      refine Sx.b (fun _ _ _ k1 k2 => ex_icmp_le 217 dX12_splits_202 (by decide) k1 k2) (fun q => ?_) (fun q => ?_)
      · have hb105 := ip q hb104
        refine Sx.o (fun _ _ _ k => op_bipush (10 : Int32) dX12_splits_217 (by decide) k) ?_
        refine Sx.o (fun _ _ _ k => ex_aload_n dX12_splits_219 rfl rfl k) ?_
        obtain ⟨x107, e_x107, hb108⟩ := ob2 hb105
        refine Sx.o (fun _ _ _ k => op_getR fX12_53 dX12_splits_220 e_x107 k) ?_
        refine Sx.o (fun _ _ _ k => ex_aload_n dX12_splits_223 rfl rfl k) ?_
        obtain ⟨x109, e_x109, hb110⟩ := ob2 hb108
        refine Sx.o (fun _ _ _ k => op_getI fX12_154 dX12_splits_224 e_x109 k) ?_
        obtain ⟨x111, e_x111, hb112⟩ := ob2 hb110
        refine Sx.o (fun _ _ _ k => op_iald dX12_splits_227 e_x111 k) ?_
        refine Sx.o (fun _ _ _ k => ex_imul dX12_splits_228 k) ?_
        refine Sx.o (fun _ _ _ k => ex_aload_n dX12_splits_229 rfl rfl k) ?_
        obtain ⟨x113, e_x113, hb114⟩ := ob2 hb112
        refine Sx.o (fun _ _ _ k => op_getR fX12_41 dX12_splits_230 e_x113 k) ?_
        refine Sx.o (fun _ _ _ k => ex_iload dX12_splits_233 rfl k) ?_
        obtain ⟨x115, e_x115, hb116⟩ := ob2 hb114
        refine Sx.o (fun _ _ _ k => op_bald dX12_splits_235 e_x115 k) ?_
        refine Sx.o (fun _ _ _ k => ex_iadd dX12_splits_236 k) ?_
        refine Sx.o (fun _ _ _ k => op_bipush (48 : Int32) dX12_splits_237 (by decide) k) ?_
        refine Sx.o (fun _ _ _ k => ex_isub dX12_splits_239 k) ?_
        exact (hg _ _ hb116).2.2.2.2.2.2.2.1 rfl
      · have hb106 := iq q hb104
        refine Sx.o (fun _ _ _ k => ex_aload_n dX12_splits_205 rfl rfl k) ?_
        obtain ⟨x117, e_x117, hb118⟩ := ob2 hb106
        refine Sx.o (fun _ _ _ k => op_getR fX12_53 dX12_splits_206 e_x117 k) ?_
        refine Sx.o (fun _ _ _ k => ex_aload_n dX12_splits_209 rfl rfl k) ?_
        obtain ⟨x119, e_x119, hb120⟩ := ob2 hb118
        refine Sx.o (fun _ _ _ k => op_getI fX12_154 dX12_splits_210 e_x119 k) ?_
        obtain ⟨x121, e_x121, hb122⟩ := ob2 hb120
        refine Sx.o (fun _ _ _ k => op_iald dX12_splits_213 e_x121 k) ?_
        refine Sx.o (fun _ _ _ k => ex_goto 240 dX12_splits_214 (by decide) k) ?_
        exact (hg _ _ hb122).2.2.2.2.2.2.2.1 rfl
set_option maxHeartbeats 1000000 in
set_option maxRecDepth 100000 in
theorem Ref_splits_240_t {g : (Nat × Int32 × Int32 × Int32 × Int32 × Int32 × Int32 × Nat × Nat × am_H) → Option am_H} (hg : ∀ s r, g s = some r → Ref_splits_7_P s r) {v0 : Nat} {v1 : Int32} {v3 : Int32} {v4 : Int32} {v5 : Int32} {s0 : Int32} {s1 : Int32} {s2 : Nat} {h : am_H} {r : am_H} (hb : Ref_splits_240_b g v0 v1 v3 v4 v5 s0 s1 s2 h = some r) : Sx 1 mX12_splits 240 [.ref v0, .int v1, .retAddr 0, .int v3, .int v4, .int v5] [.int s0, .int s1, .ref s2] h none r := by
  unfold Ref_splits_240_b at hb
  obtain ⟨h123, e_h123, hb124⟩ := ob2 hb
  refine Sx.p (sI_q e_h123) (fun _ _ _ k => op_iast dX12_splits_240 e_h123 k) ?_
  refine Sx.o (L' := [.ref v0, .int v1, .retAddr 0, .int v3, .int v4, .int (v5 + (1 : Int32))]) (fun _ _ _ k => op_iinc (1 : Int32) dX12_splits_241 (by decide) rfl (by decide) k) ?_
  refine Sx.o (fun _ _ _ k => ex_goto 169 dX12_splits_244 (by decide) k) ?_
  exact (hg _ _ hb124).2.2.2.2.2.2.1 rfl
set_option maxHeartbeats 1000000 in
set_option maxRecDepth 100000 in
theorem Ref_splits_247_t {g : (Nat × Int32 × Int32 × Int32 × Int32 × Int32 × Int32 × Nat × Nat × am_H) → Option am_H} (hg : ∀ s r, g s = some r → Ref_splits_7_P s r) {v0 : Nat} {v1 : Int32} {v4 : Int32} {h : am_H} {r : am_H} (hb : Ref_splits_247_b g v0 v1 v4 h = some r) : Sx 1 mX12_splits 247 [.ref v0, .int v1, .retAddr 0, .retAddr 0, .int v4, .retAddr 0] [] h none r := by
  unfold Ref_splits_247_b at hb
  refine Sx.o (fun _ _ _ k => ex_aload_n dX12_splits_247 rfl rfl k) ?_
  refine Sx.o (fun _ _ _ k => ex_dup dX12_splits_248 rfl k) ?_
  obtain ⟨x126, e_x126, hb127⟩ := ob2 hb
  refine Sx.o (fun _ _ _ k => op_getI fX12_154 dX12_splits_249 e_x126 k) ?_
  refine Sx.o (fun _ _ _ k => op_iconst (1 : Int32) dX12_splits_252 (by decide) k) ?_
  refine Sx.o (fun _ _ _ k => ex_iadd dX12_splits_253 k) ?_
  obtain ⟨h128, e_h128, hb129⟩ := ob2 hb127
  refine Sx.p (pV_q e_h128) (fun _ _ _ k => op_put pX12_154 dX12_splits_254 e_h128 (fun _ => rfl) (fun _ => rfl) k) ?_
  refine Sx.o (fun _ _ _ k => ex_iload dX12_splits_257 rfl k) ?_
  refine Sx.o (L' := [.ref v0, .int v1, .int v4, .retAddr 0, .int v4, .retAddr 0]) (fun _ _ _ k => ex_istore_n dX12_splits_259 (by decide) k) ?_
  refine Sx.o (fun _ _ _ k => ex_goto 7 dX12_splits_260 (by decide) k) ?_
  refine Sx.fg [true, true, true, true, false, true] ?_
  exact (hg _ _ hb129).1 rfl
theorem Ref_splits_7_T : ∀ s r, fx Ref_splits_7_F Ref_splits_7_M s = some r → Ref_splits_7_P s r := fx_ind Ref_splits_7_M Ref_splits_7_P (fun g hg s r hb => by
  unfold Ref_splits_7_F at hb
  exact ⟨fun q => Ref_splits_7_t hg (ip q hb), fun q => Ref_splits_43_t hg (ip q (iq (by rw [q]; decide) hb)), fun q => Ref_splits_68_t hg (ip q (iq (by rw [q]; decide) (iq (by rw [q]; decide) hb))), fun q => Ref_splits_75_t hg (ip q (iq (by rw [q]; decide) (iq (by rw [q]; decide) (iq (by rw [q]; decide) hb)))), fun q => Ref_splits_100_t hg (ip q (iq (by rw [q]; decide) (iq (by rw [q]; decide) (iq (by rw [q]; decide) (iq (by rw [q]; decide) hb))))), fun q => Ref_splits_165_t hg (ip q (iq (by rw [q]; decide) (iq (by rw [q]; decide) (iq (by rw [q]; decide) (iq (by rw [q]; decide) (iq (by rw [q]; decide) hb)))))), fun q => Ref_splits_169_t hg (ip q (iq (by rw [q]; decide) (iq (by rw [q]; decide) (iq (by rw [q]; decide) (iq (by rw [q]; decide) (iq (by rw [q]; decide) (iq (by rw [q]; decide) hb))))))), fun q => Ref_splits_240_t hg (ip q (iq (by rw [q]; decide) (iq (by rw [q]; decide) (iq (by rw [q]; decide) (iq (by rw [q]; decide) (iq (by rw [q]; decide) (iq (by rw [q]; decide) (iq (by rw [q]; decide) hb)))))))), fun q => Ref_splits_247_t hg (ip q (iq (by rw [q]; decide) (iq (by rw [q]; decide) (iq (by rw [q]; decide) (iq (by rw [q]; decide) (iq (by rw [q]; decide) (iq (by rw [q]; decide) (iq (by rw [q]; decide) (iq (by rw [q]; decide) hb))))))))), trivial⟩)
set_option maxHeartbeats 1000000 in
set_option maxRecDepth 100000 in
theorem Ref_splits_7_r {g : (Nat × Int32 × Int32 × Int32 × Int32 × Int32 × Int32 × Nat × Nat × am_H) → Option am_H} (hg : ∀ s r, g s = some r → Eqs s.2.2.2.2.2.2.2.2.2 r) {v0 : Nat} {v1 : Int32} {v2 : Int32} {h : am_H} {r : am_H} (hb : Ref_splits_7_b g v0 v1 v2 h = some r) : Eqs h r := by
  unfold Ref_splits_7_b at hb
  have w0 := Eqs.rf h
  by_cases q : v1 ≤ v2
  · have hb1 := ip q hb
    obtain ⟨x3, e_x3, hb4⟩ := ob2 hb1
    obtain ⟨x5, e_x5, hb6⟩ := ob2 hb4
    obtain ⟨h7, e_h7, hb8⟩ := ob2 hb6
    have w9 := w0.tr (sI_q e_h7)
    obtain ⟨x10, e_x10, hb11⟩ := ob2 hb8
    obtain ⟨x12, e_x12, hb13⟩ := ob2 hb11
    obtain ⟨h14, e_h14, hb15⟩ := ob2 hb13
    have w16 := w9.tr (sI_q e_h14)
    obtain ⟨x17, e_x17, hb18⟩ := ob2 hb15
    obtain ⟨x19, e_x19, hb20⟩ := ob2 hb18
    obtain ⟨h21, e_h21, hb22⟩ := ob2 hb20
    have w23 := w16.tr (sI_q e_h21)
    obtain rfl := Option.some.inj hb22
    exact w23
  · have hb2 := iq q hb
    obtain ⟨x24, e_x24, hb25⟩ := ob2 hb2
    obtain ⟨x26, e_x26, hb27⟩ := ob2 hb25
    by_cases q : x26 = (32 : Int32)
    · have hb29 := ip q hb27
      exact w0.tr (hg _ _ hb29)
    · have hb28 := iq q hb27
      obtain ⟨x30, e_x30, hb31⟩ := ob2 hb28
      by_cases q : x30 = (0 : Int32)
      · have hb32 := ip q hb31
        exact w0.tr (hg _ _ hb32)
      · have hb33 := iq q hb31
        exact w0.tr (hg _ _ hb33)
set_option maxHeartbeats 1000000 in
set_option maxRecDepth 100000 in
theorem Ref_splits_43_r {g : (Nat × Int32 × Int32 × Int32 × Int32 × Int32 × Int32 × Nat × Nat × am_H) → Option am_H} (hg : ∀ s r, g s = some r → Eqs s.2.2.2.2.2.2.2.2.2 r) {v0 : Nat} {v1 : Int32} {v2 : Int32} {v3 : Int32} {v4 : Int32} {h : am_H} {r : am_H} (hb : Ref_splits_43_b g v0 v1 v2 v3 v4 h = some r) : Eqs h r := by
  unfold Ref_splits_43_b at hb
  have w0 := Eqs.rf h
  by_cases q : v1 ≤ v4
  · have hb34 := ip q hb
    exact w0.tr (hg _ _ hb34)
  · have hb35 := iq q hb
    obtain ⟨x36, e_x36, hb37⟩ := ob2 hb35
    obtain ⟨x38, e_x38, hb39⟩ := ob2 hb37
    obtain ⟨x40, e_x40, hb41⟩ := ob2 hb39
    by_cases q : x40 = (0 : Int32)
    · have hb42 := ip q hb41
      exact w0.tr (hg _ _ hb42)
    · have hb43 := iq q hb41
      exact w0.tr (hg _ _ hb43)
set_option maxHeartbeats 1000000 in
set_option maxRecDepth 100000 in
theorem Ref_splits_68_r {g : (Nat × Int32 × Int32 × Int32 × Int32 × Int32 × Int32 × Nat × Nat × am_H) → Option am_H} (hg : ∀ s r, g s = some r → Eqs s.2.2.2.2.2.2.2.2.2 r) {v0 : Nat} {v1 : Int32} {v2 : Int32} {v3 : Int32} {v4 : Int32} {h : am_H} {r : am_H} (hb : Ref_splits_68_b g v0 v1 v2 v3 v4 h = some r) : Eqs h r := by
  unfold Ref_splits_68_b at hb
  have w0 := Eqs.rf h
  obtain ⟨x44, e_x44, hb45⟩ := ob2 hb
  by_cases q : x44 = (0 : Int32)
  · have hb46 := ip q hb45
    exact w0.tr (hg _ _ hb46)
  · have hb47 := iq q hb45
    exact w0.tr (hg _ _ hb47)
set_option maxHeartbeats 1000000 in
set_option maxRecDepth 100000 in
theorem Ref_splits_75_r {g : (Nat × Int32 × Int32 × Int32 × Int32 × Int32 × Int32 × Nat × Nat × am_H) → Option am_H} (hg : ∀ s r, g s = some r → Eqs s.2.2.2.2.2.2.2.2.2 r) {v0 : Nat} {v1 : Int32} {v2 : Int32} {v3 : Int32} {v4 : Int32} {h : am_H} {r : am_H} (hb : Ref_splits_75_b g v0 v1 v2 v3 v4 h = some r) : Eqs h r := by
  unfold Ref_splits_75_b at hb
  have w0 := Eqs.rf h
  by_cases q : v1 ≤ v4
  · have hb48 := ip q hb
    exact w0.tr (hg _ _ hb48)
  · have hb49 := iq q hb
    obtain ⟨x50, e_x50, hb51⟩ := ob2 hb49
    obtain ⟨x52, e_x52, hb53⟩ := ob2 hb51
    obtain ⟨x54, e_x54, hb55⟩ := ob2 hb53
    by_cases q : x54 = (0 : Int32)
    · have hb56 := ip q hb55
      exact w0.tr (hg _ _ hb56)
    · have hb57 := iq q hb55
      exact w0.tr (hg _ _ hb57)
set_option maxHeartbeats 1000000 in
set_option maxRecDepth 100000 in
theorem Ref_splits_100_r {g : (Nat × Int32 × Int32 × Int32 × Int32 × Int32 × Int32 × Nat × Nat × am_H) → Option am_H} (hg : ∀ s r, g s = some r → Eqs s.2.2.2.2.2.2.2.2.2 r) {v0 : Nat} {v1 : Int32} {v2 : Int32} {v3 : Int32} {v4 : Int32} {h : am_H} {r : am_H} (hb : Ref_splits_100_b g v0 v1 v2 v3 v4 h = some r) : Eqs h r := by
  unfold Ref_splits_100_b at hb
  have w0 := Eqs.rf h
  obtain ⟨x58, e_x58, hb59⟩ := ob2 hb
  obtain ⟨x60, e_x60, hb61⟩ := ob2 hb59
  obtain ⟨h62, e_h62, hb63⟩ := ob2 hb61
  have w64 := w0.tr (sI_q e_h62)
  obtain ⟨x65, e_x65, hb66⟩ := ob2 hb63
  obtain ⟨x67, e_x67, hb68⟩ := ob2 hb66
  obtain ⟨h69, e_h69, hb70⟩ := ob2 hb68
  have w71 := w64.tr (sI_q e_h69)
  obtain ⟨x72, e_x72, hb73⟩ := ob2 hb70
  obtain ⟨x74, e_x74, hb75⟩ := ob2 hb73
  obtain ⟨x76, e_x76, hb77⟩ := ob2 hb75
  by_cases q : x76 = (0 : Int32)
  · have hb78 := ip q hb77
    obtain ⟨x80, e_x80, hb81⟩ := ob2 hb78
    by_cases q : x80 = (0 : Int32)
    · have hb82 := ip q hb81
      exact w71.tr (hg _ _ hb82)
    · have hb83 := iq q hb81
      exact w71.tr (hg _ _ hb83)
  · have hb79 := iq q hb77
    obtain ⟨x84, e_x84, hb85⟩ := ob2 hb79
    exact w71.tr (hg _ _ hb85)
set_option maxHeartbeats 1000000 in
set_option maxRecDepth 100000 in
theorem Ref_splits_165_r {g : (Nat × Int32 × Int32 × Int32 × Int32 × Int32 × Int32 × Nat × Nat × am_H) → Option am_H} (hg : ∀ s r, g s = some r → Eqs s.2.2.2.2.2.2.2.2.2 r) {v0 : Nat} {v1 : Int32} {v2 : Int32} {v3 : Int32} {v4 : Int32} {s0 : Int32} {s1 : Int32} {s2 : Nat} {h : am_H} {r : am_H} (hb : Ref_splits_165_b g v0 v1 v2 v3 v4 s0 s1 s2 h = some r) : Eqs h r := by
  unfold Ref_splits_165_b at hb
  have w0 := Eqs.rf h
  obtain ⟨h86, e_h86, hb87⟩ := ob2 hb
  have w88 := w0.tr (sI_q e_h86)
  exact w88.tr (hg _ _ hb87)
set_option maxHeartbeats 1000000 in
set_option maxRecDepth 100000 in
theorem Ref_splits_169_r {g : (Nat × Int32 × Int32 × Int32 × Int32 × Int32 × Int32 × Nat × Nat × am_H) → Option am_H} (hg : ∀ s r, g s = some r → Eqs s.2.2.2.2.2.2.2.2.2 r) {v0 : Nat} {v1 : Int32} {v3 : Int32} {v4 : Int32} {v5 : Int32} {h : am_H} {r : am_H} (hb : Ref_splits_169_b g v0 v1 v3 v4 v5 h = some r) : Eqs h r := by
  unfold Ref_splits_169_b at hb
  have w0 := Eqs.rf h
  by_cases q : v4 ≤ v5
  · have hb89 := ip q hb
    exact w0.tr (hg _ _ hb89)
  · have hb90 := iq q hb
    obtain ⟨x91, e_x91, hb92⟩ := ob2 hb90
    by_cases q : x91 = (0 : Int32)
    · have hb93 := ip q hb92
      exact w0.tr (hg _ _ hb93)
    · have hb94 := iq q hb92
      obtain ⟨x95, e_x95, hb96⟩ := ob2 hb94
      obtain ⟨x97, e_x97, hb98⟩ := ob2 hb96
      obtain ⟨x99, e_x99, hb100⟩ := ob2 hb98
      obtain ⟨x101, e_x101, hb102⟩ := ob2 hb100
      obtain ⟨x103, e_x103, hb104⟩ := ob2 hb102
      by_cases q : x103 ≤ (1000000 : Int32)
      · have hb105 := ip q hb104
        obtain ⟨x107, e_x107, hb108⟩ := ob2 hb105
        obtain ⟨x109, e_x109, hb110⟩ := ob2 hb108
        obtain ⟨x111, e_x111, hb112⟩ := ob2 hb110
        obtain ⟨x113, e_x113, hb114⟩ := ob2 hb112
        obtain ⟨x115, e_x115, hb116⟩ := ob2 hb114
        exact w0.tr (hg _ _ hb116)
      · have hb106 := iq q hb104
        obtain ⟨x117, e_x117, hb118⟩ := ob2 hb106
        obtain ⟨x119, e_x119, hb120⟩ := ob2 hb118
        obtain ⟨x121, e_x121, hb122⟩ := ob2 hb120
        exact w0.tr (hg _ _ hb122)
set_option maxHeartbeats 1000000 in
set_option maxRecDepth 100000 in
theorem Ref_splits_240_r {g : (Nat × Int32 × Int32 × Int32 × Int32 × Int32 × Int32 × Nat × Nat × am_H) → Option am_H} (hg : ∀ s r, g s = some r → Eqs s.2.2.2.2.2.2.2.2.2 r) {v0 : Nat} {v1 : Int32} {v3 : Int32} {v4 : Int32} {v5 : Int32} {s0 : Int32} {s1 : Int32} {s2 : Nat} {h : am_H} {r : am_H} (hb : Ref_splits_240_b g v0 v1 v3 v4 v5 s0 s1 s2 h = some r) : Eqs h r := by
  unfold Ref_splits_240_b at hb
  have w0 := Eqs.rf h
  obtain ⟨h123, e_h123, hb124⟩ := ob2 hb
  have w125 := w0.tr (sI_q e_h123)
  exact w125.tr (hg _ _ hb124)
set_option maxHeartbeats 1000000 in
set_option maxRecDepth 100000 in
theorem Ref_splits_247_r {g : (Nat × Int32 × Int32 × Int32 × Int32 × Int32 × Int32 × Nat × Nat × am_H) → Option am_H} (hg : ∀ s r, g s = some r → Eqs s.2.2.2.2.2.2.2.2.2 r) {v0 : Nat} {v1 : Int32} {v4 : Int32} {h : am_H} {r : am_H} (hb : Ref_splits_247_b g v0 v1 v4 h = some r) : Eqs h r := by
  unfold Ref_splits_247_b at hb
  have w0 := Eqs.rf h
  obtain ⟨x126, e_x126, hb127⟩ := ob2 hb
  obtain ⟨h128, e_h128, hb129⟩ := ob2 hb127
  have w130 := w0.tr (pV_q e_h128)
  exact w130.tr (hg _ _ hb129)
theorem Ref_splits_7_Q : ∀ s r, fx Ref_splits_7_F Ref_splits_7_M s = some r → Eqs s.2.2.2.2.2.2.2.2.2 r := fx_ind Ref_splits_7_M (fun s r => Eqs s.2.2.2.2.2.2.2.2.2 r) (fun g hg s r hb => by
  unfold Ref_splits_7_F at hb
  by_cases q0 : s.1 = 7
  · exact Ref_splits_7_r hg (ip q0 hb)
  · have hb0 := iq q0 hb
    by_cases q1 : s.1 = 43
    · exact Ref_splits_43_r hg (ip q1 hb0)
    · have hb1 := iq q1 hb0
      by_cases q2 : s.1 = 68
      · exact Ref_splits_68_r hg (ip q2 hb1)
      · have hb2 := iq q2 hb1
        by_cases q3 : s.1 = 75
        · exact Ref_splits_75_r hg (ip q3 hb2)
        · have hb3 := iq q3 hb2
          by_cases q4 : s.1 = 100
          · exact Ref_splits_100_r hg (ip q4 hb3)
          · have hb4 := iq q4 hb3
            by_cases q5 : s.1 = 165
            · exact Ref_splits_165_r hg (ip q5 hb4)
            · have hb5 := iq q5 hb4
              by_cases q6 : s.1 = 169
              · exact Ref_splits_169_r hg (ip q6 hb5)
              · have hb6 := iq q6 hb5
                by_cases q7 : s.1 = 240
                · exact Ref_splits_240_r hg (ip q7 hb6)
                · have hb7 := iq q7 hb6
                  by_cases q8 : s.1 = 247
                  · exact Ref_splits_247_r hg (ip q8 hb7)
                  · have hb8 := iq q8 hb7
                    exact nomatch hb8)
noncomputable def Ref_splits_7 (v0 : Nat) (v1 : Int32) (v2 : Int32) (h : am_H) : Option am_H := fx Ref_splits_7_F Ref_splits_7_M (7, v1, v2, 0, 0, 0, 0, v0, 0, h)
noncomputable def Ref_splits_43 (v0 : Nat) (v1 : Int32) (v2 : Int32) (v3 : Int32) (v4 : Int32) (h : am_H) : Option am_H := fx Ref_splits_7_F Ref_splits_7_M (43, v1, v2, v3, v4, 0, 0, v0, 0, h)
noncomputable def Ref_splits_68 (v0 : Nat) (v1 : Int32) (v2 : Int32) (v3 : Int32) (v4 : Int32) (h : am_H) : Option am_H := fx Ref_splits_7_F Ref_splits_7_M (68, v1, v2, v3, v4, 0, 0, v0, 0, h)
noncomputable def Ref_splits_75 (v0 : Nat) (v1 : Int32) (v2 : Int32) (v3 : Int32) (v4 : Int32) (h : am_H) : Option am_H := fx Ref_splits_7_F Ref_splits_7_M (75, v1, v2, v3, v4, 0, 0, v0, 0, h)
noncomputable def Ref_splits_100 (v0 : Nat) (v1 : Int32) (v2 : Int32) (v3 : Int32) (v4 : Int32) (h : am_H) : Option am_H := fx Ref_splits_7_F Ref_splits_7_M (100, v1, v2, v3, v4, 0, 0, v0, 0, h)
noncomputable def Ref_splits_165 (v0 : Nat) (v1 : Int32) (v2 : Int32) (v3 : Int32) (v4 : Int32) (s0 : Int32) (s1 : Int32) (s2 : Nat) (h : am_H) : Option am_H := fx Ref_splits_7_F Ref_splits_7_M (165, v1, v2, v3, v4, s0, s1, v0, s2, h)
noncomputable def Ref_splits_169 (v0 : Nat) (v1 : Int32) (v3 : Int32) (v4 : Int32) (v5 : Int32) (h : am_H) : Option am_H := fx Ref_splits_7_F Ref_splits_7_M (169, v1, v3, v4, v5, 0, 0, v0, 0, h)
noncomputable def Ref_splits_240 (v0 : Nat) (v1 : Int32) (v3 : Int32) (v4 : Int32) (v5 : Int32) (s0 : Int32) (s1 : Int32) (s2 : Nat) (h : am_H) : Option am_H := fx Ref_splits_7_F Ref_splits_7_M (240, v1, v3, v4, v5, s0, s1, v0, s2, h)
noncomputable def Ref_splits_247 (v0 : Nat) (v1 : Int32) (v4 : Int32) (h : am_H) : Option am_H := fx Ref_splits_7_F Ref_splits_7_M (247, v1, v4, 0, 0, 0, 0, v0, 0, h)
set_option maxHeartbeats 1000000 in
set_option maxRecDepth 100000 in
theorem Ref_splits_7_e (v0 : Nat) (v1 : Int32) (v2 : Int32) (h : am_H) : Ref_splits_7 v0 v1 v2 h = (if v1 ≤ v2 then (gR h 12 v0 16).bind fun x3 => (gI h 12 v0 17).bind fun x5 => (sI h x3 x5 v1).bind fun h7 => (gR h7 12 v0 14).bind fun x10 => (gI h7 12 v0 17).bind fun x12 => (sI h7 x10 x12 (0 : Int32)).bind fun h14 => (gR h14 12 v0 15).bind fun x17 => (gI h14 12 v0 17).bind fun x19 => (sI h14 x17 x19 (0 : Int32)).bind fun h21 => some h21 else (gR h 12 v0 10).bind fun x24 => (aI h 1 x24 v2).bind fun x26 => if x26 = (32 : Int32) then Ref_splits_7 v0 v1 (v2 + (1 : Int32)) h else (Ref_isSmall x26 h).bind fun x30 => if x30 = (0 : Int32) then Ref_splits_68 v0 v1 v2 x26 (v2 + (1 : Int32)) h else Ref_splits_43 v0 v1 v2 x26 (v2 + (1 : Int32)) h) := (fx_eq Ref_splits_7_M (7, v1, v2, 0, 0, 0, 0, v0, 0, h)).trans (if_pos rfl)
theorem Ref_splits_7_q {v0 : Nat} {v1 : Int32} {v2 : Int32} {h : am_H} {r : am_H} (hb : Ref_splits_7 v0 v1 v2 h = some r) : Eqs h r := Ref_splits_7_Q _ _ hb
theorem Ref_splits_7_s {v0 : Nat} {v1 : Int32} {v2 : Int32} {h : am_H} {r : am_H} (hb : Ref_splits_7 v0 v1 v2 h = some r) : Sx 1 mX12_splits 7 [.ref v0, .int v1, .int v2, .retAddr 0, .retAddr 0, .retAddr 0] [] h none r := (Ref_splits_7_T _ _ hb).1 rfl
set_option maxHeartbeats 1000000 in
set_option maxRecDepth 100000 in
theorem Ref_splits_43_e (v0 : Nat) (v1 : Int32) (v2 : Int32) (v3 : Int32) (v4 : Int32) (h : am_H) : Ref_splits_43 v0 v1 v2 v3 v4 h = (if v1 ≤ v4 then Ref_splits_68 v0 v1 v2 v3 v4 h else (gR h 12 v0 10).bind fun x36 => (aI h 1 x36 v4).bind fun x38 => (Ref_isSmall x38 h).bind fun x40 => if x40 = (0 : Int32) then Ref_splits_68 v0 v1 v2 v3 v4 h else Ref_splits_43 v0 v1 v2 v3 (v4 + (1 : Int32)) h) := (fx_eq Ref_splits_7_M (43, v1, v2, v3, v4, 0, 0, v0, 0, h)).trans ((if_neg (show ¬ (43 : Nat) = 7 by decide)).trans (if_pos rfl))
theorem Ref_splits_43_q {v0 : Nat} {v1 : Int32} {v2 : Int32} {v3 : Int32} {v4 : Int32} {h : am_H} {r : am_H} (hb : Ref_splits_43 v0 v1 v2 v3 v4 h = some r) : Eqs h r := Ref_splits_7_Q _ _ hb
theorem Ref_splits_43_s {v0 : Nat} {v1 : Int32} {v2 : Int32} {v3 : Int32} {v4 : Int32} {h : am_H} {r : am_H} (hb : Ref_splits_43 v0 v1 v2 v3 v4 h = some r) : Sx 1 mX12_splits 43 [.ref v0, .int v1, .int v2, .int v3, .int v4, .retAddr 0] [] h none r := (Ref_splits_7_T _ _ hb).2.1 rfl
set_option maxHeartbeats 1000000 in
set_option maxRecDepth 100000 in
theorem Ref_splits_68_e (v0 : Nat) (v1 : Int32) (v2 : Int32) (v3 : Int32) (v4 : Int32) (h : am_H) : Ref_splits_68 v0 v1 v2 v3 v4 h = ((Ref_isDigit v3 h).bind fun x44 => if x44 = (0 : Int32) then Ref_splits_100 v0 v1 v2 v3 v4 h else Ref_splits_75 v0 v1 v2 v3 v4 h) := (fx_eq Ref_splits_7_M (68, v1, v2, v3, v4, 0, 0, v0, 0, h)).trans ((if_neg (show ¬ (68 : Nat) = 7 by decide)).trans ((if_neg (show ¬ (68 : Nat) = 43 by decide)).trans (if_pos rfl)))
theorem Ref_splits_68_q {v0 : Nat} {v1 : Int32} {v2 : Int32} {v3 : Int32} {v4 : Int32} {h : am_H} {r : am_H} (hb : Ref_splits_68 v0 v1 v2 v3 v4 h = some r) : Eqs h r := Ref_splits_7_Q _ _ hb
theorem Ref_splits_68_s {v0 : Nat} {v1 : Int32} {v2 : Int32} {v3 : Int32} {v4 : Int32} {h : am_H} {r : am_H} (hb : Ref_splits_68 v0 v1 v2 v3 v4 h = some r) : Sx 1 mX12_splits 68 [.ref v0, .int v1, .int v2, .int v3, .int v4, .retAddr 0] [] h none r := (Ref_splits_7_T _ _ hb).2.2.1 rfl
set_option maxHeartbeats 1000000 in
set_option maxRecDepth 100000 in
theorem Ref_splits_75_e (v0 : Nat) (v1 : Int32) (v2 : Int32) (v3 : Int32) (v4 : Int32) (h : am_H) : Ref_splits_75 v0 v1 v2 v3 v4 h = (if v1 ≤ v4 then Ref_splits_100 v0 v1 v2 v3 v4 h else (gR h 12 v0 10).bind fun x50 => (aI h 1 x50 v4).bind fun x52 => (Ref_isDigit x52 h).bind fun x54 => if x54 = (0 : Int32) then Ref_splits_100 v0 v1 v2 v3 v4 h else Ref_splits_75 v0 v1 v2 v3 (v4 + (1 : Int32)) h) := (fx_eq Ref_splits_7_M (75, v1, v2, v3, v4, 0, 0, v0, 0, h)).trans ((if_neg (show ¬ (75 : Nat) = 7 by decide)).trans ((if_neg (show ¬ (75 : Nat) = 43 by decide)).trans ((if_neg (show ¬ (75 : Nat) = 68 by decide)).trans (if_pos rfl))))
theorem Ref_splits_75_q {v0 : Nat} {v1 : Int32} {v2 : Int32} {v3 : Int32} {v4 : Int32} {h : am_H} {r : am_H} (hb : Ref_splits_75 v0 v1 v2 v3 v4 h = some r) : Eqs h r := Ref_splits_7_Q _ _ hb
theorem Ref_splits_75_s {v0 : Nat} {v1 : Int32} {v2 : Int32} {v3 : Int32} {v4 : Int32} {h : am_H} {r : am_H} (hb : Ref_splits_75 v0 v1 v2 v3 v4 h = some r) : Sx 1 mX12_splits 75 [.ref v0, .int v1, .int v2, .int v3, .int v4, .retAddr 0] [] h none r := (Ref_splits_7_T _ _ hb).2.2.2.1 rfl
set_option maxHeartbeats 1000000 in
set_option maxRecDepth 100000 in
theorem Ref_splits_100_e (v0 : Nat) (v1 : Int32) (v2 : Int32) (v3 : Int32) (v4 : Int32) (h : am_H) : Ref_splits_100 v0 v1 v2 v3 v4 h = ((gR h 12 v0 16).bind fun x58 => (gI h 12 v0 17).bind fun x60 => (sI h x58 x60 v2).bind fun h62 => (gR h62 12 v0 15).bind fun x65 => (gI h62 12 v0 17).bind fun x67 => (sI h62 x65 x67 (0 : Int32)).bind fun h69 => (gR h69 12 v0 14).bind fun x72 => (gI h69 12 v0 17).bind fun x74 => (Ref_isSmall v3 h69).bind fun x76 => if x76 = (0 : Int32) then (Ref_isDigit v3 h69).bind fun x80 => if x80 = (0 : Int32) then Ref_splits_165 v0 v1 v2 v3 v4 ((100 : Int32) + (v3 &&& (255 : Int32))) x74 x72 h69 else Ref_splits_165 v0 v1 v2 v3 v4 (50 : Int32) x74 x72 h69 else (Ref_wordOf v0 v2 v4 h69).bind fun x84 => Ref_splits_165 v0 v1 v2 v3 v4 x84 x74 x72 h69) := (fx_eq Ref_splits_7_M (100, v1, v2, v3, v4, 0, 0, v0, 0, h)).trans ((if_neg (show ¬ (100 : Nat) = 7 by decide)).trans ((if_neg (show ¬ (100 : Nat) = 43 by decide)).trans ((if_neg (show ¬ (100 : Nat) = 68 by decide)).trans ((if_neg (show ¬ (100 : Nat) = 75 by decide)).trans (if_pos rfl)))))
theorem Ref_splits_100_q {v0 : Nat} {v1 : Int32} {v2 : Int32} {v3 : Int32} {v4 : Int32} {h : am_H} {r : am_H} (hb : Ref_splits_100 v0 v1 v2 v3 v4 h = some r) : Eqs h r := Ref_splits_7_Q _ _ hb
theorem Ref_splits_100_s {v0 : Nat} {v1 : Int32} {v2 : Int32} {v3 : Int32} {v4 : Int32} {h : am_H} {r : am_H} (hb : Ref_splits_100 v0 v1 v2 v3 v4 h = some r) : Sx 1 mX12_splits 100 [.ref v0, .int v1, .int v2, .int v3, .int v4, .retAddr 0] [] h none r := (Ref_splits_7_T _ _ hb).2.2.2.2.1 rfl
set_option maxHeartbeats 1000000 in
set_option maxRecDepth 100000 in
theorem Ref_splits_165_e (v0 : Nat) (v1 : Int32) (v2 : Int32) (v3 : Int32) (v4 : Int32) (s0 : Int32) (s1 : Int32) (s2 : Nat) (h : am_H) : Ref_splits_165 v0 v1 v2 v3 v4 s0 s1 s2 h = ((sI h s2 s1 s0).bind fun h86 => Ref_splits_169 v0 v1 v3 v4 v2 h86) := (fx_eq Ref_splits_7_M (165, v1, v2, v3, v4, s0, s1, v0, s2, h)).trans ((if_neg (show ¬ (165 : Nat) = 7 by decide)).trans ((if_neg (show ¬ (165 : Nat) = 43 by decide)).trans ((if_neg (show ¬ (165 : Nat) = 68 by decide)).trans ((if_neg (show ¬ (165 : Nat) = 75 by decide)).trans ((if_neg (show ¬ (165 : Nat) = 100 by decide)).trans (if_pos rfl))))))
theorem Ref_splits_165_q {v0 : Nat} {v1 : Int32} {v2 : Int32} {v3 : Int32} {v4 : Int32} {s0 : Int32} {s1 : Int32} {s2 : Nat} {h : am_H} {r : am_H} (hb : Ref_splits_165 v0 v1 v2 v3 v4 s0 s1 s2 h = some r) : Eqs h r := Ref_splits_7_Q _ _ hb
theorem Ref_splits_165_s {v0 : Nat} {v1 : Int32} {v2 : Int32} {v3 : Int32} {v4 : Int32} {s0 : Int32} {s1 : Int32} {s2 : Nat} {h : am_H} {r : am_H} (hb : Ref_splits_165 v0 v1 v2 v3 v4 s0 s1 s2 h = some r) : Sx 1 mX12_splits 165 [.ref v0, .int v1, .int v2, .int v3, .int v4, .retAddr 0] [.int s0, .int s1, .ref s2] h none r := (Ref_splits_7_T _ _ hb).2.2.2.2.2.1 rfl
set_option maxHeartbeats 1000000 in
set_option maxRecDepth 100000 in
theorem Ref_splits_169_e (v0 : Nat) (v1 : Int32) (v3 : Int32) (v4 : Int32) (v5 : Int32) (h : am_H) : Ref_splits_169 v0 v1 v3 v4 v5 h = (if v4 ≤ v5 then Ref_splits_247 v0 v1 v4 h else (Ref_isDigit v3 h).bind fun x91 => if x91 = (0 : Int32) then Ref_splits_247 v0 v1 v4 h else (gR h 12 v0 15).bind fun x95 => (gI h 12 v0 17).bind fun x97 => (gR h 12 v0 15).bind fun x99 => (gI h 12 v0 17).bind fun x101 => (aI h 0 x99 x101).bind fun x103 => if x103 ≤ (1000000 : Int32) then (gR h 12 v0 15).bind fun x107 => (gI h 12 v0 17).bind fun x109 => (aI h 0 x107 x109).bind fun x111 => (gR h 12 v0 10).bind fun x113 => (aI h 1 x113 v5).bind fun x115 => Ref_splits_240 v0 v1 v3 v4 v5 ((((10 : Int32) * x111) + x115) - (48 : Int32)) x97 x95 h else (gR h 12 v0 15).bind fun x117 => (gI h 12 v0 17).bind fun x119 => (aI h 0 x117 x119).bind fun x121 => Ref_splits_240 v0 v1 v3 v4 v5 x121 x97 x95 h) := (fx_eq Ref_splits_7_M (169, v1, v3, v4, v5, 0, 0, v0, 0, h)).trans ((if_neg (show ¬ (169 : Nat) = 7 by decide)).trans ((if_neg (show ¬ (169 : Nat) = 43 by decide)).trans ((if_neg (show ¬ (169 : Nat) = 68 by decide)).trans ((if_neg (show ¬ (169 : Nat) = 75 by decide)).trans ((if_neg (show ¬ (169 : Nat) = 100 by decide)).trans ((if_neg (show ¬ (169 : Nat) = 165 by decide)).trans (if_pos rfl)))))))
theorem Ref_splits_169_q {v0 : Nat} {v1 : Int32} {v3 : Int32} {v4 : Int32} {v5 : Int32} {h : am_H} {r : am_H} (hb : Ref_splits_169 v0 v1 v3 v4 v5 h = some r) : Eqs h r := Ref_splits_7_Q _ _ hb
theorem Ref_splits_169_s {v0 : Nat} {v1 : Int32} {v3 : Int32} {v4 : Int32} {v5 : Int32} {h : am_H} {r : am_H} (hb : Ref_splits_169 v0 v1 v3 v4 v5 h = some r) : Sx 1 mX12_splits 169 [.ref v0, .int v1, .retAddr 0, .int v3, .int v4, .int v5] [] h none r := (Ref_splits_7_T _ _ hb).2.2.2.2.2.2.1 rfl
set_option maxHeartbeats 1000000 in
set_option maxRecDepth 100000 in
theorem Ref_splits_240_e (v0 : Nat) (v1 : Int32) (v3 : Int32) (v4 : Int32) (v5 : Int32) (s0 : Int32) (s1 : Int32) (s2 : Nat) (h : am_H) : Ref_splits_240 v0 v1 v3 v4 v5 s0 s1 s2 h = ((sI h s2 s1 s0).bind fun h123 => Ref_splits_169 v0 v1 v3 v4 (v5 + (1 : Int32)) h123) := (fx_eq Ref_splits_7_M (240, v1, v3, v4, v5, s0, s1, v0, s2, h)).trans ((if_neg (show ¬ (240 : Nat) = 7 by decide)).trans ((if_neg (show ¬ (240 : Nat) = 43 by decide)).trans ((if_neg (show ¬ (240 : Nat) = 68 by decide)).trans ((if_neg (show ¬ (240 : Nat) = 75 by decide)).trans ((if_neg (show ¬ (240 : Nat) = 100 by decide)).trans ((if_neg (show ¬ (240 : Nat) = 165 by decide)).trans ((if_neg (show ¬ (240 : Nat) = 169 by decide)).trans (if_pos rfl))))))))
theorem Ref_splits_240_q {v0 : Nat} {v1 : Int32} {v3 : Int32} {v4 : Int32} {v5 : Int32} {s0 : Int32} {s1 : Int32} {s2 : Nat} {h : am_H} {r : am_H} (hb : Ref_splits_240 v0 v1 v3 v4 v5 s0 s1 s2 h = some r) : Eqs h r := Ref_splits_7_Q _ _ hb
theorem Ref_splits_240_s {v0 : Nat} {v1 : Int32} {v3 : Int32} {v4 : Int32} {v5 : Int32} {s0 : Int32} {s1 : Int32} {s2 : Nat} {h : am_H} {r : am_H} (hb : Ref_splits_240 v0 v1 v3 v4 v5 s0 s1 s2 h = some r) : Sx 1 mX12_splits 240 [.ref v0, .int v1, .retAddr 0, .int v3, .int v4, .int v5] [.int s0, .int s1, .ref s2] h none r := (Ref_splits_7_T _ _ hb).2.2.2.2.2.2.2.1 rfl
set_option maxHeartbeats 1000000 in
set_option maxRecDepth 100000 in
theorem Ref_splits_247_e (v0 : Nat) (v1 : Int32) (v4 : Int32) (h : am_H) : Ref_splits_247 v0 v1 v4 h = ((gI h 12 v0 17).bind fun x126 => (pV h 12 v0 17 (.int (x126 + (1 : Int32)))).bind fun h128 => Ref_splits_7 v0 v1 v4 h128) := (fx_eq Ref_splits_7_M (247, v1, v4, 0, 0, 0, 0, v0, 0, h)).trans ((if_neg (show ¬ (247 : Nat) = 7 by decide)).trans ((if_neg (show ¬ (247 : Nat) = 43 by decide)).trans ((if_neg (show ¬ (247 : Nat) = 68 by decide)).trans ((if_neg (show ¬ (247 : Nat) = 75 by decide)).trans ((if_neg (show ¬ (247 : Nat) = 100 by decide)).trans ((if_neg (show ¬ (247 : Nat) = 165 by decide)).trans ((if_neg (show ¬ (247 : Nat) = 169 by decide)).trans ((if_neg (show ¬ (247 : Nat) = 240 by decide)).trans (if_pos rfl)))))))))
theorem Ref_splits_247_q {v0 : Nat} {v1 : Int32} {v4 : Int32} {h : am_H} {r : am_H} (hb : Ref_splits_247 v0 v1 v4 h = some r) : Eqs h r := Ref_splits_7_Q _ _ hb
theorem Ref_splits_247_s {v0 : Nat} {v1 : Int32} {v4 : Int32} {h : am_H} {r : am_H} (hb : Ref_splits_247 v0 v1 v4 h = some r) : Sx 1 mX12_splits 247 [.ref v0, .int v1, .retAddr 0, .retAddr 0, .int v4, .retAddr 0] [] h none r := (Ref_splits_7_T _ _ hb).2.2.2.2.2.2.2.2.1 rfl
set_option maxHeartbeats 1000000 in
set_option maxRecDepth 100000 in
noncomputable def Ref_splits (v0 : Nat) (v1 : Int32) (h : am_H) : Option am_H := if isO h 12 v0 = true then (pV h 12 v0 17 (.int (0 : Int32))).bind fun h131 => Ref_splits_7 v0 v1 (0 : Int32) h131 else none
set_option maxHeartbeats 1000000 in
set_option maxRecDepth 100000 in
theorem Ref_splits_s {v0 : Nat} {v1 : Int32} {h : am_H} {r : am_H} (hb : Ref_splits v0 v1 h = some r) : Sx 1 mX12_splits 0 (am_en [.ref v0, .int v1] 6) [] h none r := by
  unfold Ref_splits at hb
  have hb := (iz hb).2
  show Sx 1 mX12_splits 0 [.ref v0, .int v1, .retAddr 0, .retAddr 0, .retAddr 0, .retAddr 0] [] h none r
  refine Sx.o (fun _ _ _ k => ex_aload_n dX12_splits_0 rfl rfl k) ?_
  refine Sx.o (fun _ _ _ k => op_iconst (0 : Int32) dX12_splits_1 (by decide) k) ?_
  obtain ⟨h131, e_h131, hb132⟩ := ob2 hb
  refine Sx.p (pV_q e_h131) (fun _ _ _ k => op_put pX12_154 dX12_splits_2 e_h131 (fun _ => rfl) (fun _ => rfl) k) ?_
  refine Sx.o (fun _ _ _ k => op_iconst (0 : Int32) dX12_splits_5 (by decide) k) ?_
  refine Sx.o (L' := [.ref v0, .int v1, .int (0 : Int32), .retAddr 0, .retAddr 0, .retAddr 0]) (fun _ _ _ k => ex_istore_n dX12_splits_6 (by decide) k) ?_
  exact Ref_splits_7_s hb132
set_option maxHeartbeats 1000000 in
set_option maxRecDepth 100000 in
theorem Ref_splits_q {v0 : Nat} {v1 : Int32} {h : am_H} {r : am_H} (hb : Ref_splits v0 v1 h = some r) : Eqs h r := by
  unfold Ref_splits at hb
  have hb := (iz hb).2
  have w0 := Eqs.rf h
  obtain ⟨h131, e_h131, hb132⟩ := ob2 hb
  have w133 := w0.tr (pV_q e_h131)
  exact w133.tr (Ref_splits_7_q hb132)
theorem Ref_splits_o {v0 : Nat} {v1 : Int32} {h : am_H} {r : am_H} (hb : Ref_splits v0 v1 h = some r) : isO h 12 v0 = true := by
  unfold Ref_splits at hb
  exact (iz hb).1
set_option maxHeartbeats 1000000 in
set_option maxRecDepth 100000 in
noncomputable def Ref_reads_95 (v0 : Nat) (h : am_H) : Option (Int32 × am_H) := (gI h 12 v0 20).bind fun x1 => (pV h 12 v0 13 (.int x1)).bind fun h3 => (Ref_fine v0 h3).bind fun x6 => (nrZ x6).bind fun u8 => some (x6, h3)
set_option maxHeartbeats 1000000 in
set_option maxRecDepth 100000 in
theorem Ref_reads_95_s {v0 : Nat} {h : am_H} {r : (Int32 × am_H)} (hb : Ref_reads_95 v0 h = some r) : Sx 87 mX12_reads 95 [.ref v0, .retAddr 0] [] h (some (.int r.1)) r.2 := by
  unfold Ref_reads_95 at hb
  refine Sx.o (fun _ _ _ k => ex_aload_n dX12_reads_95 rfl rfl k) ?_
  refine Sx.o (fun _ _ _ k => ex_aload_n dX12_reads_96 rfl rfl k) ?_
  obtain ⟨x1, e_x1, hb2⟩ := ob2 hb
  refine Sx.o (fun _ _ _ k => op_getI fX12_168 dX12_reads_97 e_x1 k) ?_
  obtain ⟨h3, e_h3, hb4⟩ := ob2 hb2
  refine Sx.p (pV_q e_h3) (fun _ _ _ k => op_put pX12_47 dX12_reads_100 e_h3 (fun _ => rfl) (fun _ => rfl) k) ?_
  refine Sx.o (fun _ _ _ k => ex_aload_n dX12_reads_103 rfl rfl k) ?_
  obtain ⟨x6, e_x6, hb7⟩ := ob2 hb4
  refine sx_callV (dc := 0) (as := []) (stq := [.int x6]) (by omega) dX12_reads_104 MX12_fine kX12_171 iX12_fine sX12_fine rfl rfl (Ref_fine_o e_x6) rfl rfl (Nat.le_of_ble_eq_true rfl) (Nat.le_of_ble_eq_true rfl) (Ref_fine_s e_x6) rfl ?_
  obtain ⟨u8, e_u8, hb9⟩ := ob2 hb7
  obtain rfl := Option.some.inj hb9
  exact Sx.r (fun _ _ _ k => ex_zret rfl (nrZ_n e_u8) dX12_reads_107 k)
set_option maxHeartbeats 1000000 in
set_option maxRecDepth 100000 in
theorem Ref_reads_95_q {v0 : Nat} {h : am_H} {r : (Int32 × am_H)} (hb : Ref_reads_95 v0 h = some r) : Eqs h r.2 := by
  unfold Ref_reads_95 at hb
  have w0 := Eqs.rf h
  obtain ⟨x1, e_x1, hb2⟩ := ob2 hb
  obtain ⟨h3, e_h3, hb4⟩ := ob2 hb2
  have w5 := w0.tr (pV_q e_h3)
  obtain ⟨x6, e_x6, hb7⟩ := ob2 hb4
  obtain ⟨u8, e_u8, hb9⟩ := ob2 hb7
  obtain rfl := Option.some.inj hb9
  exact w5
set_option maxHeartbeats 1000000 in
set_option maxRecDepth 100000 in
noncomputable def Ref_reads_34_b (g : (Nat × Int32 × Nat × am_H) → Option (Int32 × am_H)) (v0 : Nat) (v1 : Int32) (h : am_H) : Option (Int32 × am_H) := (Ref_sign (59 : Int32) h).bind fun x10 => (Ref_takes0 v0 x10 h).bind fun r12 => if r12.1 = (0 : Int32) then (Ref_fine v0 r12.2).bind fun x17 => if x17 = (0 : Int32) then Ref_reads_95 v0 r12.2 else (gI r12.2 12 v0 18).bind fun x21 => (gI r12.2 12 v0 17).bind fun x23 => if x23 ≤ x21 then Ref_reads_95 v0 r12.2 else (Ref_faults v0 r12.2).bind fun h27 => Ref_reads_95 v0 h27 else if v1 = (12 : Int32) then (Ref_faults v0 r12.2).bind fun h32 => g (56, v1, v0, h32) else g (56, v1, v0, r12.2)
set_option maxHeartbeats 1000000 in
set_option maxRecDepth 100000 in
theorem Ref_reads_34_m {g g2 : (Nat × Int32 × Nat × am_H) → Option (Int32 × am_H)} (hg : ∀ s, Le (g s) (g2 s)) (v0 : Nat) (v1 : Int32) (h : am_H) : Le (Ref_reads_34_b g v0 v1 h) (Ref_reads_34_b g2 v0 v1 h) := by unfold Ref_reads_34_b; exact le_b (le_r _) fun x10 => le_b (le_r _) fun r12 => le_i (le_r _) (le_i (le_b (le_r _) fun h32 => hg _) (hg _))
set_option maxHeartbeats 1000000 in
set_option maxRecDepth 100000 in
noncomputable def Ref_reads_56_b (g : (Nat × Int32 × Nat × am_H) → Option (Int32 × am_H)) (v0 : Nat) (v1 : Int32) (h : am_H) : Option (Int32 × am_H) := (Ref_fine v0 h).bind fun x35 => if x35 = (0 : Int32) then g (67, v1, v0, h) else (Ref_readOne v0 h).bind fun h39 => g (67, v1, v0, h39)
set_option maxHeartbeats 1000000 in
set_option maxRecDepth 100000 in
theorem Ref_reads_56_m {g g2 : (Nat × Int32 × Nat × am_H) → Option (Int32 × am_H)} (hg : ∀ s, Le (g s) (g2 s)) (v0 : Nat) (v1 : Int32) (h : am_H) : Le (Ref_reads_56_b g v0 v1 h) (Ref_reads_56_b g2 v0 v1 h) := by unfold Ref_reads_56_b; exact le_b (le_r _) fun x35 => le_i (hg _) (le_b (le_r _) fun h39 => hg _)
set_option maxHeartbeats 1000000 in
set_option maxRecDepth 100000 in
noncomputable def Ref_reads_67_b (g : (Nat × Int32 × Nat × am_H) → Option (Int32 × am_H)) (v0 : Nat) (v1 : Int32) (h : am_H) : Option (Int32 × am_H) := g (34, (v1 + (1 : Int32)), v0, h)
set_option maxHeartbeats 1000000 in
set_option maxRecDepth 100000 in
theorem Ref_reads_67_m {g g2 : (Nat × Int32 × Nat × am_H) → Option (Int32 × am_H)} (hg : ∀ s, Le (g s) (g2 s)) (v0 : Nat) (v1 : Int32) (h : am_H) : Le (Ref_reads_67_b g v0 v1 h) (Ref_reads_67_b g2 v0 v1 h) := by unfold Ref_reads_67_b; exact hg _
noncomputable def Ref_reads_34_F (g : (Nat × Int32 × Nat × am_H) → Option (Int32 × am_H)) (s : (Nat × Int32 × Nat × am_H)) : Option (Int32 × am_H) := if s.1 = 34 then Ref_reads_34_b g s.2.2.1 s.2.1 s.2.2.2 else if s.1 = 56 then Ref_reads_56_b g s.2.2.1 s.2.1 s.2.2.2 else if s.1 = 67 then Ref_reads_67_b g s.2.2.1 s.2.1 s.2.2.2 else none
theorem Ref_reads_34_M : Mn Ref_reads_34_F := fun g g2 hg s => by unfold Ref_reads_34_F; exact le_i (Ref_reads_34_m hg s.2.2.1 s.2.1 s.2.2.2) (le_i (Ref_reads_56_m hg s.2.2.1 s.2.1 s.2.2.2) (le_i (Ref_reads_67_m hg s.2.2.1 s.2.1 s.2.2.2) (le_r _)))
def Ref_reads_34_P (s : (Nat × Int32 × Nat × am_H)) (r : (Int32 × am_H)) : Prop := (s.1 = 34 → Sx 87 mX12_reads 34 [.ref s.2.2.1, .int s.2.1] [] s.2.2.2 (some (.int r.1)) r.2) ∧ (s.1 = 56 → Sx 87 mX12_reads 56 [.ref s.2.2.1, .int s.2.1] [] s.2.2.2 (some (.int r.1)) r.2) ∧ (s.1 = 67 → Sx 87 mX12_reads 67 [.ref s.2.2.1, .int s.2.1] [] s.2.2.2 (some (.int r.1)) r.2) ∧ True
set_option maxHeartbeats 1000000 in
set_option maxRecDepth 100000 in
theorem Ref_reads_34_t {g : (Nat × Int32 × Nat × am_H) → Option (Int32 × am_H)} (hg : ∀ s r, g s = some r → Ref_reads_34_P s r) {v0 : Nat} {v1 : Int32} {h : am_H} {r : (Int32 × am_H)} (hb : Ref_reads_34_b g v0 v1 h = some r) : Sx 87 mX12_reads 34 [.ref v0, .int v1] [] h (some (.int r.1)) r.2 := by
  unfold Ref_reads_34_b at hb
  refine Sx.o (fun _ _ _ k => ex_aload_n dX12_reads_34 rfl rfl k) ?_
  refine Sx.o (fun _ _ _ k => op_bipush (59 : Int32) dX12_reads_35 (by decide) k) ?_
  obtain ⟨x10, e_x10, hb11⟩ := ob2 hb
  refine sx_callS (dc := 0) (as := [.int (59 : Int32)]) (stq := [.int x10, .ref v0]) (by omega) dX12_reads_37 MX12_sign kX12_215 tX12_sign rfl rfl (Nat.le_of_ble_eq_true rfl) (Nat.le_of_ble_eq_true rfl) (Ref_sign_s e_x10) rfl ?_
  obtain ⟨r12, e_r12, hb13⟩ := ob2 hb11
  refine sx_callV (dc := 1) (as := [.int x10]) (stq := [.int r12.1]) (by omega) dX12_reads_40 MX12_takes0 kX12_177 iX12_takes0 sX12_takes0 rfl rfl (Ref_takes0_o e_r12) rfl rfl (Nat.le_of_ble_eq_true rfl) (Nat.le_of_ble_eq_true rfl) (Ref_takes0_s e_r12) rfl ?_
  refine Sx.b (fun _ _ _ k1 k2 => ex_if_eq 73 dX12_reads_43 (by decide) k1 k2) (fun q => ?_) (fun q => ?_)
  · have hb15 := ip q hb13
    refine Sx.o (fun _ _ _ k => ex_aload_n dX12_reads_73 rfl rfl k) ?_
    obtain ⟨x17, e_x17, hb18⟩ := ob2 hb15
    refine sx_callV (dc := 0) (as := []) (stq := [.int x17]) (by omega) dX12_reads_74 MX12_fine kX12_171 iX12_fine sX12_fine rfl rfl (Ref_fine_o e_x17) rfl rfl (Nat.le_of_ble_eq_true rfl) (Nat.le_of_ble_eq_true rfl) (Ref_fine_s e_x17) rfl ?_
    refine Sx.b (fun _ _ _ k1 k2 => ex_if_eq 95 dX12_reads_77 (by decide) k1 k2) (fun q => ?_) (fun q => ?_)
    · have hb19 := ip q hb18
      refine Sx.fg [true, false] ?_
      exact Ref_reads_95_s hb19
    · have hb20 := iq q hb18
      refine Sx.o (fun _ _ _ k => ex_aload_n dX12_reads_80 rfl rfl k) ?_
      obtain ⟨x21, e_x21, hb22⟩ := ob2 hb20
      refine Sx.o (fun _ _ _ k => op_getI fX12_174 dX12_reads_81 e_x21 k) ?_
      refine Sx.o (fun _ _ _ k => ex_aload_n dX12_reads_84 rfl rfl k) ?_
      obtain ⟨x23, e_x23, hb24⟩ := ob2 hb22
      refine Sx.o (fun _ _ _ k => op_getI fX12_154 dX12_reads_85 e_x23 k) ?_
      refine Sx.b (fun _ _ _ k1 k2 => ex_icmp_ge 95 dX12_reads_88 (by decide) k1 k2) (fun q => ?_) (fun q => ?_)
      · have hb25 := ip q hb24
        refine Sx.fg [true, false] ?_
        exact Ref_reads_95_s hb25
      · have hb26 := iq q hb24
        refine Sx.o (fun _ _ _ k => ex_aload_n dX12_reads_91 rfl rfl k) ?_
        obtain ⟨h27, e_h27, hb28⟩ := ob2 hb26
        refine sx_callV (dc := 1) (as := []) (stq := []) (by omega) dX12_reads_92 MX12_faults kX12_180 iX12_faults sX12_faults rfl rfl (Ref_faults_o e_h27) rfl rfl (Nat.le_of_ble_eq_true rfl) (Nat.le_of_ble_eq_true rfl) (Ref_faults_s e_h27) rfl ?_
        refine Sx.fg [true, false] ?_
        exact Ref_reads_95_s hb28
  · have hb16 := iq q hb13
    refine Sx.o (fun _ _ _ k => ex_iload_n dX12_reads_46 rfl k) ?_
    refine Sx.o (fun _ _ _ k => op_bipush (12 : Int32) dX12_reads_47 (by decide) k) ?_
    refine Sx.bn (fun _ _ _ k1 k2 => ex_icmp_ne 56 dX12_reads_49 (by decide) k1 k2) (fun q => ?_) (fun q => ?_)
    · have hb30 := iq q hb16
      exact (hg _ _ hb30).2.1 rfl
    · have hb31 := ip q hb16
      refine Sx.o (fun _ _ _ k => ex_aload_n dX12_reads_52 rfl rfl k) ?_
      obtain ⟨h32, e_h32, hb33⟩ := ob2 hb31
      refine sx_callV (dc := 1) (as := []) (stq := []) (by omega) dX12_reads_53 MX12_faults kX12_180 iX12_faults sX12_faults rfl rfl (Ref_faults_o e_h32) rfl rfl (Nat.le_of_ble_eq_true rfl) (Nat.le_of_ble_eq_true rfl) (Ref_faults_s e_h32) rfl ?_
      exact (hg _ _ hb33).2.1 rfl
set_option maxHeartbeats 1000000 in
set_option maxRecDepth 100000 in
theorem Ref_reads_56_t {g : (Nat × Int32 × Nat × am_H) → Option (Int32 × am_H)} (hg : ∀ s r, g s = some r → Ref_reads_34_P s r) {v0 : Nat} {v1 : Int32} {h : am_H} {r : (Int32 × am_H)} (hb : Ref_reads_56_b g v0 v1 h = some r) : Sx 87 mX12_reads 56 [.ref v0, .int v1] [] h (some (.int r.1)) r.2 := by
  unfold Ref_reads_56_b at hb
  refine Sx.o (fun _ _ _ k => ex_aload_n dX12_reads_56 rfl rfl k) ?_
  obtain ⟨x35, e_x35, hb36⟩ := ob2 hb
  refine sx_callV (dc := 0) (as := []) (stq := [.int x35]) (by omega) dX12_reads_57 MX12_fine kX12_171 iX12_fine sX12_fine rfl rfl (Ref_fine_o e_x35) rfl rfl (Nat.le_of_ble_eq_true rfl) (Nat.le_of_ble_eq_true rfl) (Ref_fine_s e_x35) rfl ?_
  refine Sx.b (fun _ _ _ k1 k2 => ex_if_eq 67 dX12_reads_60 (by decide) k1 k2) (fun q => ?_) (fun q => ?_)
  · have hb37 := ip q hb36
    exact (hg _ _ hb37).2.2.1 rfl
  · have hb38 := iq q hb36
    refine Sx.o (fun _ _ _ k => ex_aload_n dX12_reads_63 rfl rfl k) ?_
    obtain ⟨h39, e_h39, hb40⟩ := ob2 hb38
    refine sx_callV (dc := 86) (as := []) (stq := []) (by omega) dX12_reads_64 MX12_readOne kX12_240 iX12_readOne sX12_readOne rfl rfl (Ref_readOne_o e_h39) rfl rfl (Nat.le_of_ble_eq_true rfl) (Nat.le_of_ble_eq_true rfl) (Ref_readOne_s e_h39) rfl ?_
    exact (hg _ _ hb40).2.2.1 rfl
set_option maxHeartbeats 1000000 in
set_option maxRecDepth 100000 in
theorem Ref_reads_67_t {g : (Nat × Int32 × Nat × am_H) → Option (Int32 × am_H)} (hg : ∀ s r, g s = some r → Ref_reads_34_P s r) {v0 : Nat} {v1 : Int32} {h : am_H} {r : (Int32 × am_H)} (hb : Ref_reads_67_b g v0 v1 h = some r) : Sx 87 mX12_reads 67 [.ref v0, .int v1] [] h (some (.int r.1)) r.2 := by
  unfold Ref_reads_67_b at hb
  refine Sx.o (L' := [.ref v0, .int (v1 + (1 : Int32))]) (fun _ _ _ k => op_iinc (1 : Int32) dX12_reads_67 (by decide) rfl (by decide) k) ?_
  refine Sx.o (fun _ _ _ k => ex_goto 34 dX12_reads_70 (by decide) k) ?_
  exact (hg _ _ hb).1 rfl
theorem Ref_reads_34_T : ∀ s r, fx Ref_reads_34_F Ref_reads_34_M s = some r → Ref_reads_34_P s r := fx_ind Ref_reads_34_M Ref_reads_34_P (fun g hg s r hb => by
  unfold Ref_reads_34_F at hb
  exact ⟨fun q => Ref_reads_34_t hg (ip q hb), fun q => Ref_reads_56_t hg (ip q (iq (by rw [q]; decide) hb)), fun q => Ref_reads_67_t hg (ip q (iq (by rw [q]; decide) (iq (by rw [q]; decide) hb))), trivial⟩)
set_option maxHeartbeats 1000000 in
set_option maxRecDepth 100000 in
theorem Ref_reads_34_r {g : (Nat × Int32 × Nat × am_H) → Option (Int32 × am_H)} (hg : ∀ s r, g s = some r → Eqs s.2.2.2 r.2) {v0 : Nat} {v1 : Int32} {h : am_H} {r : (Int32 × am_H)} (hb : Ref_reads_34_b g v0 v1 h = some r) : Eqs h r.2 := by
  unfold Ref_reads_34_b at hb
  have w0 := Eqs.rf h
  obtain ⟨x10, e_x10, hb11⟩ := ob2 hb
  obtain ⟨r12, e_r12, hb13⟩ := ob2 hb11
  have w14 := w0.tr (Ref_takes0_q e_r12)
  by_cases q : r12.1 = (0 : Int32)
  · have hb15 := ip q hb13
    obtain ⟨x17, e_x17, hb18⟩ := ob2 hb15
    by_cases q : x17 = (0 : Int32)
    · have hb19 := ip q hb18
      exact w14.tr (Ref_reads_95_q hb19)
    · have hb20 := iq q hb18
      obtain ⟨x21, e_x21, hb22⟩ := ob2 hb20
      obtain ⟨x23, e_x23, hb24⟩ := ob2 hb22
      by_cases q : x23 ≤ x21
      · have hb25 := ip q hb24
        exact w14.tr (Ref_reads_95_q hb25)
      · have hb26 := iq q hb24
        obtain ⟨h27, e_h27, hb28⟩ := ob2 hb26
        have w29 := w14.tr (Ref_faults_q e_h27)
        exact w29.tr (Ref_reads_95_q hb28)
  · have hb16 := iq q hb13
    by_cases q : v1 = (12 : Int32)
    · have hb31 := ip q hb16
      obtain ⟨h32, e_h32, hb33⟩ := ob2 hb31
      have w34 := w14.tr (Ref_faults_q e_h32)
      exact w34.tr (hg _ _ hb33)
    · have hb30 := iq q hb16
      exact w14.tr (hg _ _ hb30)
set_option maxHeartbeats 1000000 in
set_option maxRecDepth 100000 in
theorem Ref_reads_56_r {g : (Nat × Int32 × Nat × am_H) → Option (Int32 × am_H)} (hg : ∀ s r, g s = some r → Eqs s.2.2.2 r.2) {v0 : Nat} {v1 : Int32} {h : am_H} {r : (Int32 × am_H)} (hb : Ref_reads_56_b g v0 v1 h = some r) : Eqs h r.2 := by
  unfold Ref_reads_56_b at hb
  have w0 := Eqs.rf h
  obtain ⟨x35, e_x35, hb36⟩ := ob2 hb
  by_cases q : x35 = (0 : Int32)
  · have hb37 := ip q hb36
    exact w0.tr (hg _ _ hb37)
  · have hb38 := iq q hb36
    obtain ⟨h39, e_h39, hb40⟩ := ob2 hb38
    have w41 := w0.tr (Ref_readOne_q e_h39)
    exact w41.tr (hg _ _ hb40)
set_option maxHeartbeats 1000000 in
set_option maxRecDepth 100000 in
theorem Ref_reads_67_r {g : (Nat × Int32 × Nat × am_H) → Option (Int32 × am_H)} (hg : ∀ s r, g s = some r → Eqs s.2.2.2 r.2) {v0 : Nat} {v1 : Int32} {h : am_H} {r : (Int32 × am_H)} (hb : Ref_reads_67_b g v0 v1 h = some r) : Eqs h r.2 := by
  unfold Ref_reads_67_b at hb
  have w0 := Eqs.rf h
  exact w0.tr (hg _ _ hb)
theorem Ref_reads_34_Q : ∀ s r, fx Ref_reads_34_F Ref_reads_34_M s = some r → Eqs s.2.2.2 r.2 := fx_ind Ref_reads_34_M (fun s r => Eqs s.2.2.2 r.2) (fun g hg s r hb => by
  unfold Ref_reads_34_F at hb
  by_cases q0 : s.1 = 34
  · exact Ref_reads_34_r hg (ip q0 hb)
  · have hb0 := iq q0 hb
    by_cases q1 : s.1 = 56
    · exact Ref_reads_56_r hg (ip q1 hb0)
    · have hb1 := iq q1 hb0
      by_cases q2 : s.1 = 67
      · exact Ref_reads_67_r hg (ip q2 hb1)
      · have hb2 := iq q2 hb1
        exact nomatch hb2)
noncomputable def Ref_reads_34 (v0 : Nat) (v1 : Int32) (h : am_H) : Option (Int32 × am_H) := fx Ref_reads_34_F Ref_reads_34_M (34, v1, v0, h)
noncomputable def Ref_reads_56 (v0 : Nat) (v1 : Int32) (h : am_H) : Option (Int32 × am_H) := fx Ref_reads_34_F Ref_reads_34_M (56, v1, v0, h)
noncomputable def Ref_reads_67 (v0 : Nat) (v1 : Int32) (h : am_H) : Option (Int32 × am_H) := fx Ref_reads_34_F Ref_reads_34_M (67, v1, v0, h)
set_option maxHeartbeats 1000000 in
set_option maxRecDepth 100000 in
theorem Ref_reads_34_e (v0 : Nat) (v1 : Int32) (h : am_H) : Ref_reads_34 v0 v1 h = ((Ref_sign (59 : Int32) h).bind fun x10 => (Ref_takes0 v0 x10 h).bind fun r12 => if r12.1 = (0 : Int32) then (Ref_fine v0 r12.2).bind fun x17 => if x17 = (0 : Int32) then Ref_reads_95 v0 r12.2 else (gI r12.2 12 v0 18).bind fun x21 => (gI r12.2 12 v0 17).bind fun x23 => if x23 ≤ x21 then Ref_reads_95 v0 r12.2 else (Ref_faults v0 r12.2).bind fun h27 => Ref_reads_95 v0 h27 else if v1 = (12 : Int32) then (Ref_faults v0 r12.2).bind fun h32 => Ref_reads_56 v0 v1 h32 else Ref_reads_56 v0 v1 r12.2) := (fx_eq Ref_reads_34_M (34, v1, v0, h)).trans (if_pos rfl)
theorem Ref_reads_34_q {v0 : Nat} {v1 : Int32} {h : am_H} {r : (Int32 × am_H)} (hb : Ref_reads_34 v0 v1 h = some r) : Eqs h r.2 := Ref_reads_34_Q _ _ hb
theorem Ref_reads_34_s {v0 : Nat} {v1 : Int32} {h : am_H} {r : (Int32 × am_H)} (hb : Ref_reads_34 v0 v1 h = some r) : Sx 87 mX12_reads 34 [.ref v0, .int v1] [] h (some (.int r.1)) r.2 := (Ref_reads_34_T _ _ hb).1 rfl
set_option maxHeartbeats 1000000 in
set_option maxRecDepth 100000 in
theorem Ref_reads_56_e (v0 : Nat) (v1 : Int32) (h : am_H) : Ref_reads_56 v0 v1 h = ((Ref_fine v0 h).bind fun x35 => if x35 = (0 : Int32) then Ref_reads_67 v0 v1 h else (Ref_readOne v0 h).bind fun h39 => Ref_reads_67 v0 v1 h39) := (fx_eq Ref_reads_34_M (56, v1, v0, h)).trans ((if_neg (show ¬ (56 : Nat) = 34 by decide)).trans (if_pos rfl))
theorem Ref_reads_56_q {v0 : Nat} {v1 : Int32} {h : am_H} {r : (Int32 × am_H)} (hb : Ref_reads_56 v0 v1 h = some r) : Eqs h r.2 := Ref_reads_34_Q _ _ hb
theorem Ref_reads_56_s {v0 : Nat} {v1 : Int32} {h : am_H} {r : (Int32 × am_H)} (hb : Ref_reads_56 v0 v1 h = some r) : Sx 87 mX12_reads 56 [.ref v0, .int v1] [] h (some (.int r.1)) r.2 := (Ref_reads_34_T _ _ hb).2.1 rfl
set_option maxHeartbeats 1000000 in
set_option maxRecDepth 100000 in
theorem Ref_reads_67_e (v0 : Nat) (v1 : Int32) (h : am_H) : Ref_reads_67 v0 v1 h = (Ref_reads_34 v0 (v1 + (1 : Int32)) h) := (fx_eq Ref_reads_34_M (67, v1, v0, h)).trans ((if_neg (show ¬ (67 : Nat) = 34 by decide)).trans ((if_neg (show ¬ (67 : Nat) = 56 by decide)).trans (if_pos rfl)))
theorem Ref_reads_67_q {v0 : Nat} {v1 : Int32} {h : am_H} {r : (Int32 × am_H)} (hb : Ref_reads_67 v0 v1 h = some r) : Eqs h r.2 := Ref_reads_34_Q _ _ hb
theorem Ref_reads_67_s {v0 : Nat} {v1 : Int32} {h : am_H} {r : (Int32 × am_H)} (hb : Ref_reads_67 v0 v1 h = some r) : Sx 87 mX12_reads 67 [.ref v0, .int v1] [] h (some (.int r.1)) r.2 := (Ref_reads_34_T _ _ hb).2.2.1 rfl
set_option maxHeartbeats 1000000 in
set_option maxRecDepth 100000 in
noncomputable def Ref_reads (v0 : Nat) (h : am_H) : Option (Int32 × am_H) := if isO h 12 v0 = true then (gI h 12 v0 12).bind fun x42 => (Ref_splits v0 x42 h).bind fun h44 => (pV h44 12 v0 12 (.int (0 : Int32))).bind fun h47 => (pV h47 12 v0 18 (.int (0 : Int32))).bind fun h50 => (pV h50 12 v0 19 (.int (0 : Int32))).bind fun h53 => (pV h53 12 v0 20 (.int (-1 : Int32))).bind fun h56 => (Ref_readOne v0 h56).bind fun h59 => Ref_reads_34 v0 (1 : Int32) h59 else none
set_option maxHeartbeats 1000000 in
set_option maxRecDepth 100000 in
theorem Ref_reads_s {v0 : Nat} {h : am_H} {r : (Int32 × am_H)} (hb : Ref_reads v0 h = some r) : Sx 87 mX12_reads 0 (am_en [.ref v0] 2) [] h (some (.int r.1)) r.2 := by
  unfold Ref_reads at hb
  have hb := (iz hb).2
  show Sx 87 mX12_reads 0 [.ref v0, .retAddr 0] [] h (some (.int r.1)) r.2
  refine Sx.o (fun _ _ _ k => ex_aload_n dX12_reads_0 rfl rfl k) ?_
  refine Sx.o (fun _ _ _ k => ex_aload_n dX12_reads_1 rfl rfl k) ?_
  obtain ⟨x42, e_x42, hb43⟩ := ob2 hb
  refine Sx.o (fun _ _ _ k => op_getI fX12_115 dX12_reads_2 e_x42 k) ?_
  obtain ⟨h44, e_h44, hb45⟩ := ob2 hb43
  refine sx_callV (dc := 1) (as := [.int x42]) (stq := []) (by omega) dX12_reads_5 MX12_splits kX12_237 iX12_splits sX12_splits rfl rfl (Ref_splits_o e_h44) rfl rfl (Nat.le_of_ble_eq_true rfl) (Nat.le_of_ble_eq_true rfl) (Ref_splits_s e_h44) rfl ?_
  refine Sx.o (fun _ _ _ k => ex_aload_n dX12_reads_8 rfl rfl k) ?_
  refine Sx.o (fun _ _ _ k => op_iconst (0 : Int32) dX12_reads_9 (by decide) k) ?_
  obtain ⟨h47, e_h47, hb48⟩ := ob2 hb45
  refine Sx.p (pV_q e_h47) (fun _ _ _ k => op_put pX12_115 dX12_reads_10 e_h47 (fun _ => rfl) (fun _ => rfl) k) ?_
  refine Sx.o (fun _ _ _ k => ex_aload_n dX12_reads_13 rfl rfl k) ?_
  refine Sx.o (fun _ _ _ k => op_iconst (0 : Int32) dX12_reads_14 (by decide) k) ?_
  obtain ⟨h50, e_h50, hb51⟩ := ob2 hb48
  refine Sx.p (pV_q e_h50) (fun _ _ _ k => op_put pX12_174 dX12_reads_15 e_h50 (fun _ => rfl) (fun _ => rfl) k) ?_
  refine Sx.o (fun _ _ _ k => ex_aload_n dX12_reads_18 rfl rfl k) ?_
  refine Sx.o (fun _ _ _ k => op_iconst (0 : Int32) dX12_reads_19 (by decide) k) ?_
  obtain ⟨h53, e_h53, hb54⟩ := ob2 hb51
  refine Sx.p (pV_q e_h53) (fun _ _ _ k => op_put pX12_183 dX12_reads_20 e_h53 (fun _ => rfl) (fun _ => rfl) k) ?_
  refine Sx.o (fun _ _ _ k => ex_aload_n dX12_reads_23 rfl rfl k) ?_
  refine Sx.o (fun _ _ _ k => op_iconst (-1 : Int32) dX12_reads_24 (by decide) k) ?_
  obtain ⟨h56, e_h56, hb57⟩ := ob2 hb54
  refine Sx.p (pV_q e_h56) (fun _ _ _ k => op_put pX12_168 dX12_reads_25 e_h56 (fun _ => rfl) (fun _ => rfl) k) ?_
  refine Sx.o (fun _ _ _ k => ex_aload_n dX12_reads_28 rfl rfl k) ?_
  obtain ⟨h59, e_h59, hb60⟩ := ob2 hb57
  refine sx_callV (dc := 86) (as := []) (stq := []) (by omega) dX12_reads_29 MX12_readOne kX12_240 iX12_readOne sX12_readOne rfl rfl (Ref_readOne_o e_h59) rfl rfl (Nat.le_of_ble_eq_true rfl) (Nat.le_of_ble_eq_true rfl) (Ref_readOne_s e_h59) rfl ?_
  refine Sx.o (fun _ _ _ k => op_iconst (1 : Int32) dX12_reads_32 (by decide) k) ?_
  refine Sx.o (L' := [.ref v0, .int (1 : Int32)]) (fun _ _ _ k => ex_istore_n dX12_reads_33 (by decide) k) ?_
  exact Ref_reads_34_s hb60
set_option maxHeartbeats 1000000 in
set_option maxRecDepth 100000 in
theorem Ref_reads_q {v0 : Nat} {h : am_H} {r : (Int32 × am_H)} (hb : Ref_reads v0 h = some r) : Eqs h r.2 := by
  unfold Ref_reads at hb
  have hb := (iz hb).2
  have w0 := Eqs.rf h
  obtain ⟨x42, e_x42, hb43⟩ := ob2 hb
  obtain ⟨h44, e_h44, hb45⟩ := ob2 hb43
  have w46 := w0.tr (Ref_splits_q e_h44)
  obtain ⟨h47, e_h47, hb48⟩ := ob2 hb45
  have w49 := w46.tr (pV_q e_h47)
  obtain ⟨h50, e_h50, hb51⟩ := ob2 hb48
  have w52 := w49.tr (pV_q e_h50)
  obtain ⟨h53, e_h53, hb54⟩ := ob2 hb51
  have w55 := w52.tr (pV_q e_h53)
  obtain ⟨h56, e_h56, hb57⟩ := ob2 hb54
  have w58 := w55.tr (pV_q e_h56)
  obtain ⟨h59, e_h59, hb60⟩ := ob2 hb57
  have w61 := w58.tr (Ref_readOne_q e_h59)
  exact w61.tr (Ref_reads_34_q hb60)
theorem Ref_reads_o {v0 : Nat} {h : am_H} {r : (Int32 × am_H)} (hb : Ref_reads v0 h = some r) : isO h 12 v0 = true := by
  unfold Ref_reads at hb
  exact (iz hb).1
set_option maxHeartbeats 1000000 in
set_option maxRecDepth 100000 in
noncomputable def Ref_readsAs_32 (v0 : Nat) (s0 : Int32) (s1 : Nat) (h : am_H) : Option (Int32 × am_H) := (pV h 12 s1 8 (.int s0)).bind fun h1 => (Ref_reads v0 h1).bind fun r4 => (nrZ r4.1).bind fun u7 => some (r4.1, r4.2)
set_option maxHeartbeats 1000000 in
set_option maxRecDepth 100000 in
theorem Ref_readsAs_32_s {v0 : Nat} {s0 : Int32} {s1 : Nat} {h : am_H} {r : (Int32 × am_H)} (hb : Ref_readsAs_32 v0 s0 s1 h = some r) : Sx 88 mX12_readsAs 32 [.ref v0, .retAddr 0] [.int s0, .ref s1] h (some (.int r.1)) r.2 := by
  unfold Ref_readsAs_32 at hb
  obtain ⟨h1, e_h1, hb2⟩ := ob2 hb
  refine Sx.p (pV_q e_h1) (fun _ _ _ k => op_put pX12_228 dX12_readsAs_32 e_h1 (fun _ => rfl) (fun _ => rfl) k) ?_
  refine Sx.o (fun _ _ _ k => ex_aload_n dX12_readsAs_35 rfl rfl k) ?_
  obtain ⟨r4, e_r4, hb5⟩ := ob2 hb2
  refine sx_callV (dc := 87) (as := []) (stq := [.int r4.1]) (by omega) dX12_readsAs_36 MX12_reads kX12_243 iX12_reads sX12_reads rfl rfl (Ref_reads_o e_r4) rfl rfl (Nat.le_of_ble_eq_true rfl) (Nat.le_of_ble_eq_true rfl) (Ref_reads_s e_r4) rfl ?_
  obtain ⟨u7, e_u7, hb8⟩ := ob2 hb5
  obtain rfl := Option.some.inj hb8
  exact Sx.r (fun _ _ _ k => ex_zret rfl (nrZ_n e_u7) dX12_readsAs_39 k)
set_option maxHeartbeats 1000000 in
set_option maxRecDepth 100000 in
theorem Ref_readsAs_32_q {v0 : Nat} {s0 : Int32} {s1 : Nat} {h : am_H} {r : (Int32 × am_H)} (hb : Ref_readsAs_32 v0 s0 s1 h = some r) : Eqs h r.2 := by
  unfold Ref_readsAs_32 at hb
  have w0 := Eqs.rf h
  obtain ⟨h1, e_h1, hb2⟩ := ob2 hb
  have w3 := w0.tr (pV_q e_h1)
  obtain ⟨r4, e_r4, hb5⟩ := ob2 hb2
  have w6 := w3.tr (Ref_reads_q e_r4)
  obtain ⟨u7, e_u7, hb8⟩ := ob2 hb5
  obtain rfl := Option.some.inj hb8
  exact w6
set_option maxHeartbeats 1000000 in
set_option maxRecDepth 100000 in
noncomputable def Ref_readsAs_17 (v0 : Nat) (v1 : Int32) (s0 : Int32) (s1 : Nat) (h : am_H) : Option (Int32 × am_H) := (pV h 12 s1 7 (.int s0)).bind fun h9 => if v1 = (0 : Int32) then Ref_readsAs_32 v0 (15 : Int32) v0 h9 else Ref_readsAs_32 v0 (19 : Int32) v0 h9
set_option maxHeartbeats 1000000 in
set_option maxRecDepth 100000 in
theorem Ref_readsAs_17_s {v0 : Nat} {v1 : Int32} {s0 : Int32} {s1 : Nat} {h : am_H} {r : (Int32 × am_H)} (hb : Ref_readsAs_17 v0 v1 s0 s1 h = some r) : Sx 88 mX12_readsAs 17 [.ref v0, .int v1] [.int s0, .ref s1] h (some (.int r.1)) r.2 := by
  unfold Ref_readsAs_17 at hb
  obtain ⟨h9, e_h9, hb10⟩ := ob2 hb
  refine Sx.p (pV_q e_h9) (fun _ _ _ k => op_put pX12_225 dX12_readsAs_17 e_h9 (fun _ => rfl) (fun _ => rfl) k) ?_
  refine Sx.o (fun _ _ _ k => ex_aload_n dX12_readsAs_20 rfl rfl k) ?_
  refine Sx.o (fun _ _ _ k => ex_iload_n dX12_readsAs_21 rfl k) ?_
  refine Sx.b (fun _ _ _ k1 k2 => ex_if_eq 30 dX12_readsAs_22 (by decide) k1 k2) (fun q => ?_) (fun q => ?_)
  · have hb12 := ip q hb10
    refine Sx.o (fun _ _ _ k => op_bipush (15 : Int32) dX12_readsAs_30 (by decide) k) ?_
    refine Sx.fg [true, false] ?_
    exact Ref_readsAs_32_s hb12
  · have hb13 := iq q hb10
    refine Sx.o (fun _ _ _ k => op_bipush (19 : Int32) dX12_readsAs_25 (by decide) k) ?_
    refine Sx.o (fun _ _ _ k => ex_goto 32 dX12_readsAs_27 (by decide) k) ?_
    refine Sx.fg [true, false] ?_
    exact Ref_readsAs_32_s hb13
set_option maxHeartbeats 1000000 in
set_option maxRecDepth 100000 in
theorem Ref_readsAs_17_q {v0 : Nat} {v1 : Int32} {s0 : Int32} {s1 : Nat} {h : am_H} {r : (Int32 × am_H)} (hb : Ref_readsAs_17 v0 v1 s0 s1 h = some r) : Eqs h r.2 := by
  unfold Ref_readsAs_17 at hb
  have w0 := Eqs.rf h
  obtain ⟨h9, e_h9, hb10⟩ := ob2 hb
  have w11 := w0.tr (pV_q e_h9)
  by_cases q : v1 = (0 : Int32)
  · have hb12 := ip q hb10
    exact w11.tr (Ref_readsAs_32_q hb12)
  · have hb13 := iq q hb10
    exact w11.tr (Ref_readsAs_32_q hb13)
set_option maxHeartbeats 1000000 in
set_option maxRecDepth 100000 in
noncomputable def Ref_readsAs (v0 : Nat) (v1 : Int32) (h : am_H) : Option (Int32 × am_H) := if isO h 12 v0 = true then (nrZ v1).bind fun u14 => (pV h 12 v0 9 (.int v1)).bind fun h16 => if v1 = (0 : Int32) then Ref_readsAs_17 v0 v1 (8 : Int32) v0 h16 else Ref_readsAs_17 v0 v1 (14 : Int32) v0 h16 else none
set_option maxHeartbeats 1000000 in
set_option maxRecDepth 100000 in
theorem Ref_readsAs_s {v0 : Nat} {v1 : Int32} {h : am_H} {r : (Int32 × am_H)} (hb : Ref_readsAs v0 v1 h = some r) : Sx 88 mX12_readsAs 0 (am_en [.ref v0, .int v1] 2) [] h (some (.int r.1)) r.2 := by
  unfold Ref_readsAs at hb
  have hb := (iz hb).2
  show Sx 88 mX12_readsAs 0 [.ref v0, .int v1] [] h (some (.int r.1)) r.2
  refine Sx.o (fun _ _ _ k => ex_aload_n dX12_readsAs_0 rfl rfl k) ?_
  refine Sx.o (fun _ _ _ k => ex_iload_n dX12_readsAs_1 rfl k) ?_
  obtain ⟨u14, e_u14, hb15⟩ := ob2 hb
  obtain ⟨h16, e_h16, hb17⟩ := ob2 hb15
  refine Sx.p (pV_q e_h16) (fun _ _ _ k => op_put pX12_199 dX12_readsAs_2 e_h16 (fun _ => nrZ_n e_u14) (fun _ => nrZ_f e_u14) k) ?_
  refine Sx.o (fun _ _ _ k => ex_aload_n dX12_readsAs_5 rfl rfl k) ?_
  refine Sx.o (fun _ _ _ k => ex_iload_n dX12_readsAs_6 rfl k) ?_
  refine Sx.b (fun _ _ _ k1 k2 => ex_if_eq 15 dX12_readsAs_7 (by decide) k1 k2) (fun q => ?_) (fun q => ?_)
  · have hb19 := ip q hb17
    refine Sx.o (fun _ _ _ k => op_bipush (8 : Int32) dX12_readsAs_15 (by decide) k) ?_
    exact Ref_readsAs_17_s hb19
  · have hb20 := iq q hb17
    refine Sx.o (fun _ _ _ k => op_bipush (14 : Int32) dX12_readsAs_10 (by decide) k) ?_
    refine Sx.o (fun _ _ _ k => ex_goto 17 dX12_readsAs_12 (by decide) k) ?_
    exact Ref_readsAs_17_s hb20
set_option maxHeartbeats 1000000 in
set_option maxRecDepth 100000 in
theorem Ref_readsAs_q {v0 : Nat} {v1 : Int32} {h : am_H} {r : (Int32 × am_H)} (hb : Ref_readsAs v0 v1 h = some r) : Eqs h r.2 := by
  unfold Ref_readsAs at hb
  have hb := (iz hb).2
  have w0 := Eqs.rf h
  obtain ⟨u14, e_u14, hb15⟩ := ob2 hb
  obtain ⟨h16, e_h16, hb17⟩ := ob2 hb15
  have w18 := w0.tr (pV_q e_h16)
  by_cases q : v1 = (0 : Int32)
  · have hb19 := ip q hb17
    exact w18.tr (Ref_readsAs_17_q hb19)
  · have hb20 := iq q hb17
    exact w18.tr (Ref_readsAs_17_q hb20)
theorem Ref_readsAs_o {v0 : Nat} {v1 : Int32} {h : am_H} {r : (Int32 × am_H)} (hb : Ref_readsAs v0 v1 h = some r) : isO h 12 v0 = true := by
  unfold Ref_readsAs at hb
  exact (iz hb).1
set_option maxHeartbeats 1000000 in
set_option maxRecDepth 100000 in
noncomputable def Ref_law (v0 : Nat) (h : am_H) : Option (Int32 × am_H) := if isO h 12 v0 = true then (gR h 12 v0 2).bind fun x1 => (aI h 0 x1 (116 : Int32)).bind fun x3 => if x3 = (6 : Int32) then (pV h 12 v0 12 (.int (0 : Int32))).bind fun h36 => (Ref_refuses v0 (-5 : Int32) h36).bind fun r39 => some (r39.1, r39.2) else (Ref_readsAs v0 (0 : Int32) h).bind fun r7 => if r7.1 = (0 : Int32) then (Ref_refuses v0 (-6 : Int32) r7.2).bind fun r33 => some (r33.1, r33.2) else (gR r7.2 12 v0 2).bind fun x12 => (aI r7.2 0 x12 (116 : Int32)).bind fun x14 => (Ref_lays v0 x14 r7.2).bind fun h16 => (gR h16 12 v0 2).bind fun x19 => (aI h16 0 x19 (116 : Int32)).bind fun x21 => (sI h16 x19 (116 : Int32) (x21 + (1 : Int32))).bind fun h23 => (gR h23 12 v0 2).bind fun x26 => (aI h23 0 x26 (116 : Int32)).bind fun x28 => (Ref_good v0 (x28 - (1 : Int32)) h23).bind fun r30 => some (r30.1, r30.2) else none
set_option maxHeartbeats 1000000 in
set_option maxRecDepth 100000 in
theorem Ref_law_s {v0 : Nat} {h : am_H} {r : (Int32 × am_H)} (hb : Ref_law v0 h = some r) : Sx 89 mX12_law 0 (am_en [.ref v0] 1) [] h (some (.int r.1)) r.2 := by
  unfold Ref_law at hb
  have hb := (iz hb).2
  show Sx 89 mX12_law 0 [.ref v0] [] h (some (.int r.1)) r.2
  refine Sx.o (fun _ _ _ k => ex_aload_n dX12_law_0 rfl rfl k) ?_
  obtain ⟨x1, e_x1, hb2⟩ := ob2 hb
  refine Sx.o (fun _ _ _ k => op_getR fX12_24 dX12_law_1 e_x1 k) ?_
  refine Sx.o (fun _ _ _ k => op_bipush (116 : Int32) dX12_law_4 (by decide) k) ?_
  obtain ⟨x3, e_x3, hb4⟩ := ob2 hb2
  refine Sx.o (fun _ _ _ k => op_iald dX12_law_6 e_x3 k) ?_
  refine Sx.o (fun _ _ _ k => op_bipush (6 : Int32) dX12_law_7 (by decide) k) ?_
  refine Sx.bn (fun _ _ _ k1 k2 => ex_icmp_ne 24 dX12_law_9 (by decide) k1 k2) (fun q => ?_) (fun q => ?_)
  · have hb5 := iq q hb4
    refine Sx.o (fun _ _ _ k => ex_aload_n dX12_law_24 rfl rfl k) ?_
    refine Sx.o (fun _ _ _ k => op_iconst (0 : Int32) dX12_law_25 (by decide) k) ?_
    obtain ⟨r7, e_r7, hb8⟩ := ob2 hb5
    refine sx_callV (dc := 88) (as := [.int (0 : Int32)]) (stq := [.int r7.1]) (by omega) dX12_law_26 MX12_readsAs kX12_246 iX12_readsAs sX12_readsAs rfl rfl (Ref_readsAs_o e_r7) rfl rfl (Nat.le_of_ble_eq_true rfl) (Nat.le_of_ble_eq_true rfl) (Ref_readsAs_s e_r7) rfl ?_
    refine Sx.bn (fun _ _ _ k1 k2 => ex_if_ne 39 dX12_law_29 (by decide) k1 k2) (fun q => ?_) (fun q => ?_)
    · have hb10 := iq q hb8
      refine Sx.o (fun _ _ _ k => ex_aload_n dX12_law_39 rfl rfl k) ?_
      refine Sx.o (fun _ _ _ k => ex_aload_n dX12_law_40 rfl rfl k) ?_
      obtain ⟨x12, e_x12, hb13⟩ := ob2 hb10
      refine Sx.o (fun _ _ _ k => op_getR fX12_24 dX12_law_41 e_x12 k) ?_
      refine Sx.o (fun _ _ _ k => op_bipush (116 : Int32) dX12_law_44 (by decide) k) ?_
      obtain ⟨x14, e_x14, hb15⟩ := ob2 hb13
      refine Sx.o (fun _ _ _ k => op_iald dX12_law_46 e_x14 k) ?_
      obtain ⟨h16, e_h16, hb17⟩ := ob2 hb15
      refine sx_callV (dc := 0) (as := [.int x14]) (stq := []) (by omega) dX12_law_47 MX12_lays kX12_250 iX12_lays sX12_lays rfl rfl (Ref_lays_o e_h16) rfl rfl (Nat.le_of_ble_eq_true rfl) (Nat.le_of_ble_eq_true rfl) (Ref_lays_s e_h16) rfl ?_
      refine Sx.o (fun _ _ _ k => ex_aload_n dX12_law_50 rfl rfl k) ?_
      obtain ⟨x19, e_x19, hb20⟩ := ob2 hb17
      refine Sx.o (fun _ _ _ k => op_getR fX12_24 dX12_law_51 e_x19 k) ?_
      refine Sx.o (fun _ _ _ k => op_bipush (116 : Int32) dX12_law_54 (by decide) k) ?_
      refine Sx.o (fun _ _ _ k => ex_dup2 dX12_law_56 rfl rfl k) ?_
      obtain ⟨x21, e_x21, hb22⟩ := ob2 hb20
      refine Sx.o (fun _ _ _ k => op_iald dX12_law_57 e_x21 k) ?_
      refine Sx.o (fun _ _ _ k => op_iconst (1 : Int32) dX12_law_58 (by decide) k) ?_
      refine Sx.o (fun _ _ _ k => ex_iadd dX12_law_59 k) ?_
      obtain ⟨h23, e_h23, hb24⟩ := ob2 hb22
      refine Sx.p (sI_q e_h23) (fun _ _ _ k => op_iast dX12_law_60 e_h23 k) ?_
      refine Sx.o (fun _ _ _ k => ex_aload_n dX12_law_61 rfl rfl k) ?_
      refine Sx.o (fun _ _ _ k => ex_aload_n dX12_law_62 rfl rfl k) ?_
      obtain ⟨x26, e_x26, hb27⟩ := ob2 hb24
      refine Sx.o (fun _ _ _ k => op_getR fX12_24 dX12_law_63 e_x26 k) ?_
      refine Sx.o (fun _ _ _ k => op_bipush (116 : Int32) dX12_law_66 (by decide) k) ?_
      obtain ⟨x28, e_x28, hb29⟩ := ob2 hb27
      refine Sx.o (fun _ _ _ k => op_iald dX12_law_68 e_x28 k) ?_
      refine Sx.o (fun _ _ _ k => op_iconst (1 : Int32) dX12_law_69 (by decide) k) ?_
      refine Sx.o (fun _ _ _ k => ex_isub dX12_law_70 k) ?_
      obtain ⟨r30, e_r30, hb31⟩ := ob2 hb29
      refine sx_callV (dc := 0) (as := [.int (x28 - (1 : Int32))]) (stq := [.int r30.1]) (by omega) dX12_law_71 MX12_good kX12_14 iX12_good sX12_good rfl rfl (Ref_good_o e_r30) rfl rfl (Nat.le_of_ble_eq_true rfl) (Nat.le_of_ble_eq_true rfl) (Ref_good_s e_r30) rfl ?_
      obtain rfl := Option.some.inj hb31
      exact Sx.r (fun _ _ _ k => ex_iret rfl dX12_law_74 k)
    · have hb11 := ip q hb8
      refine Sx.o (fun _ _ _ k => ex_aload_n dX12_law_32 rfl rfl k) ?_
      refine Sx.o (fun _ _ _ k => op_bipush (-6 : Int32) dX12_law_33 (by decide) k) ?_
      obtain ⟨r33, e_r33, hb34⟩ := ob2 hb11
      refine sx_callV (dc := 0) (as := [.int (-6 : Int32)]) (stq := [.int r33.1]) (by omega) dX12_law_35 MX12_refuses kX12_106 iX12_refuses sX12_refuses rfl rfl (Ref_refuses_o e_r33) rfl rfl (Nat.le_of_ble_eq_true rfl) (Nat.le_of_ble_eq_true rfl) (Ref_refuses_s e_r33) rfl ?_
      obtain rfl := Option.some.inj hb34
      exact Sx.r (fun _ _ _ k => ex_iret rfl dX12_law_38 k)
  · have hb6 := ip q hb4
    refine Sx.o (fun _ _ _ k => ex_aload_n dX12_law_12 rfl rfl k) ?_
    refine Sx.o (fun _ _ _ k => op_iconst (0 : Int32) dX12_law_13 (by decide) k) ?_
    obtain ⟨h36, e_h36, hb37⟩ := ob2 hb6
    refine Sx.p (pV_q e_h36) (fun _ _ _ k => op_put pX12_115 dX12_law_14 e_h36 (fun _ => rfl) (fun _ => rfl) k) ?_
    refine Sx.o (fun _ _ _ k => ex_aload_n dX12_law_17 rfl rfl k) ?_
    refine Sx.o (fun _ _ _ k => op_bipush (-5 : Int32) dX12_law_18 (by decide) k) ?_
    obtain ⟨r39, e_r39, hb40⟩ := ob2 hb37
    refine sx_callV (dc := 0) (as := [.int (-5 : Int32)]) (stq := [.int r39.1]) (by omega) dX12_law_20 MX12_refuses kX12_106 iX12_refuses sX12_refuses rfl rfl (Ref_refuses_o e_r39) rfl rfl (Nat.le_of_ble_eq_true rfl) (Nat.le_of_ble_eq_true rfl) (Ref_refuses_s e_r39) rfl ?_
    obtain rfl := Option.some.inj hb40
    exact Sx.r (fun _ _ _ k => ex_iret rfl dX12_law_23 k)
set_option maxHeartbeats 1000000 in
set_option maxRecDepth 100000 in
theorem Ref_law_q {v0 : Nat} {h : am_H} {r : (Int32 × am_H)} (hb : Ref_law v0 h = some r) : Eqs h r.2 := by
  unfold Ref_law at hb
  have hb := (iz hb).2
  have w0 := Eqs.rf h
  obtain ⟨x1, e_x1, hb2⟩ := ob2 hb
  obtain ⟨x3, e_x3, hb4⟩ := ob2 hb2
  by_cases q : x3 = (6 : Int32)
  · have hb6 := ip q hb4
    obtain ⟨h36, e_h36, hb37⟩ := ob2 hb6
    have w38 := w0.tr (pV_q e_h36)
    obtain ⟨r39, e_r39, hb40⟩ := ob2 hb37
    have w41 := w38.tr (Ref_refuses_q e_r39)
    obtain rfl := Option.some.inj hb40
    exact w41
  · have hb5 := iq q hb4
    obtain ⟨r7, e_r7, hb8⟩ := ob2 hb5
    have w9 := w0.tr (Ref_readsAs_q e_r7)
    by_cases q : r7.1 = (0 : Int32)
    · have hb11 := ip q hb8
      obtain ⟨r33, e_r33, hb34⟩ := ob2 hb11
      have w35 := w9.tr (Ref_refuses_q e_r33)
      obtain rfl := Option.some.inj hb34
      exact w35
    · have hb10 := iq q hb8
      obtain ⟨x12, e_x12, hb13⟩ := ob2 hb10
      obtain ⟨x14, e_x14, hb15⟩ := ob2 hb13
      obtain ⟨h16, e_h16, hb17⟩ := ob2 hb15
      have w18 := w9.tr (Ref_lays_q e_h16)
      obtain ⟨x19, e_x19, hb20⟩ := ob2 hb17
      obtain ⟨x21, e_x21, hb22⟩ := ob2 hb20
      obtain ⟨h23, e_h23, hb24⟩ := ob2 hb22
      have w25 := w18.tr (sI_q e_h23)
      obtain ⟨x26, e_x26, hb27⟩ := ob2 hb24
      obtain ⟨x28, e_x28, hb29⟩ := ob2 hb27
      obtain ⟨r30, e_r30, hb31⟩ := ob2 hb29
      have w32 := w25.tr (Ref_good_q e_r30)
      obtain rfl := Option.some.inj hb31
      exact w32
theorem Ref_law_o {v0 : Nat} {h : am_H} {r : (Int32 × am_H)} (hb : Ref_law v0 h = some r) : isO h 12 v0 = true := by
  unfold Ref_law at hb
  exact (iz hb).1
set_option maxHeartbeats 1000000 in
set_option maxRecDepth 100000 in
noncomputable def Ref_lesser (v0 : Int32) (v1 : Int32) (h : am_H) : Option Int32 := if v1 ≤ v0 then some v1 else some v0
set_option maxHeartbeats 1000000 in
set_option maxRecDepth 100000 in
theorem Ref_lesser_s {v0 : Int32} {v1 : Int32} {h : am_H} {r : Int32} (hb : Ref_lesser v0 v1 h = some r) : Sx 0 mX12_lesser 0 (am_en [.int v0, .int v1] 2) [] h (some (.int r)) h := by
  unfold Ref_lesser at hb
  show Sx 0 mX12_lesser 0 [.int v0, .int v1] [] h (some (.int r)) h
  refine Sx.o (fun _ _ _ k => ex_iload_n dX12_lesser_0 rfl k) ?_
  refine Sx.o (fun _ _ _ k => ex_iload_n dX12_lesser_1 rfl k) ?_
  refine Sx.b (fun _ _ _ k1 k2 => ex_icmp_ge 9 dX12_lesser_2 (by decide) k1 k2) (fun q => ?_) (fun q => ?_)
  · have hb1 := ip q hb
    refine Sx.o (fun _ _ _ k => ex_iload_n dX12_lesser_9 rfl k) ?_
    obtain rfl := Option.some.inj hb1
    exact Sx.r (fun _ _ _ k => ex_iret rfl dX12_lesser_10 k)
  · have hb2 := iq q hb
    refine Sx.o (fun _ _ _ k => ex_iload_n dX12_lesser_5 rfl k) ?_
    refine Sx.o (fun _ _ _ k => ex_goto 10 dX12_lesser_6 (by decide) k) ?_
    obtain rfl := Option.some.inj hb2
    exact Sx.r (fun _ _ _ k => ex_iret rfl dX12_lesser_10 k)
set_option maxHeartbeats 1000000 in
set_option maxRecDepth 100000 in
noncomputable def Ref_longest_36_b (g : (Nat × Int32 × Int32 × Int32 × Int32 × Nat × am_H) → Option (Int32 × am_H)) (v0 : Nat) (v2 : Int32) (v3 : Int32) (v4 : Int32) (v5 : Int32) (h : am_H) : Option (Int32 × am_H) := if v5 = (0 : Int32) then if v3 = (-1 : Int32) then some (v3, h) else if v2 = (0 : Int32) then some (v3, h) else if v2 = (1 : Int32) then some (v4, h) else (gR h 12 v0 42).bind fun x9 => (aI h 0 x9 (v2 - (2 : Int32))).bind fun x11 => some (x11, h) else (Ref_takesRow v0 (-1 : Int32) h).bind fun h13 => (Ref_endsBehind v0 h13).bind fun r16 => if r16.1 ≤ v3 then g (68, v2, v3, v4, r16.1, v0, r16.2) else (Ref_finds v0 r16.2).bind fun h21 => g (68, v2, r16.1, (0 : Int32), r16.1, v0, h21)
set_option maxHeartbeats 1000000 in
set_option maxRecDepth 100000 in
theorem Ref_longest_36_m {g g2 : (Nat × Int32 × Int32 × Int32 × Int32 × Nat × am_H) → Option (Int32 × am_H)} (hg : ∀ s, Le (g s) (g2 s)) (v0 : Nat) (v2 : Int32) (v3 : Int32) (v4 : Int32) (v5 : Int32) (h : am_H) : Le (Ref_longest_36_b g v0 v2 v3 v4 v5 h) (Ref_longest_36_b g2 v0 v2 v3 v4 v5 h) := by unfold Ref_longest_36_b; exact le_i (le_r _) (le_b (le_r _) fun h13 => le_b (le_r _) fun r16 => le_i (hg _) (le_b (le_r _) fun h21 => hg _))
set_option maxHeartbeats 1000000 in
set_option maxRecDepth 100000 in
noncomputable def Ref_longest_68_b (g : (Nat × Int32 × Int32 × Int32 × Int32 × Nat × am_H) → Option (Int32 × am_H)) (v0 : Nat) (v2 : Int32) (v3 : Int32) (v4 : Int32) (v6 : Int32) (h : am_H) : Option (Int32 × am_H) := if v6 = v3 then if v6 = (-1 : Int32) then g (86, v2, v3, v4, 0, v0, h) else g (87, v2, v3, (1 : Int32), v4, v0, h) else g (86, v2, v3, v4, 0, v0, h)
set_option maxHeartbeats 1000000 in
set_option maxRecDepth 100000 in
theorem Ref_longest_68_m {g g2 : (Nat × Int32 × Int32 × Int32 × Int32 × Nat × am_H) → Option (Int32 × am_H)} (hg : ∀ s, Le (g s) (g2 s)) (v0 : Nat) (v2 : Int32) (v3 : Int32) (v4 : Int32) (v6 : Int32) (h : am_H) : Le (Ref_longest_68_b g v0 v2 v3 v4 v6 h) (Ref_longest_68_b g2 v0 v2 v3 v4 v6 h) := by unfold Ref_longest_68_b; exact le_i (le_i (hg _) (hg _)) (hg _)
set_option maxHeartbeats 1000000 in
set_option maxRecDepth 100000 in
noncomputable def Ref_longest_86_b (g : (Nat × Int32 × Int32 × Int32 × Int32 × Nat × am_H) → Option (Int32 × am_H)) (v0 : Nat) (v2 : Int32) (v3 : Int32) (s0 : Int32) (h : am_H) : Option (Int32 × am_H) := g (87, v2, v3, (0 : Int32), s0, v0, h)
set_option maxHeartbeats 1000000 in
set_option maxRecDepth 100000 in
theorem Ref_longest_86_m {g g2 : (Nat × Int32 × Int32 × Int32 × Int32 × Nat × am_H) → Option (Int32 × am_H)} (hg : ∀ s, Le (g s) (g2 s)) (v0 : Nat) (v2 : Int32) (v3 : Int32) (s0 : Int32) (h : am_H) : Le (Ref_longest_86_b g v0 v2 v3 s0 h) (Ref_longest_86_b g2 v0 v2 v3 s0 h) := by unfold Ref_longest_86_b; exact hg _
set_option maxHeartbeats 1000000 in
set_option maxRecDepth 100000 in
noncomputable def Ref_longest_87_b (g : (Nat × Int32 × Int32 × Int32 × Int32 × Nat × am_H) → Option (Int32 × am_H)) (v0 : Nat) (v2 : Int32) (v3 : Int32) (s0 : Int32) (s1 : Int32) (h : am_H) : Option (Int32 × am_H) := (Ref_nextRow v0 h).bind fun r28 => g (36, v2, v3, (s1 + s0), r28.1, v0, r28.2)
set_option maxHeartbeats 1000000 in
set_option maxRecDepth 100000 in
theorem Ref_longest_87_m {g g2 : (Nat × Int32 × Int32 × Int32 × Int32 × Nat × am_H) → Option (Int32 × am_H)} (hg : ∀ s, Le (g s) (g2 s)) (v0 : Nat) (v2 : Int32) (v3 : Int32) (s0 : Int32) (s1 : Int32) (h : am_H) : Le (Ref_longest_87_b g v0 v2 v3 s0 s1 h) (Ref_longest_87_b g2 v0 v2 v3 s0 s1 h) := by unfold Ref_longest_87_b; exact le_b (le_r _) fun r28 => hg _
noncomputable def Ref_longest_36_F (g : (Nat × Int32 × Int32 × Int32 × Int32 × Nat × am_H) → Option (Int32 × am_H)) (s : (Nat × Int32 × Int32 × Int32 × Int32 × Nat × am_H)) : Option (Int32 × am_H) := if s.1 = 36 then Ref_longest_36_b g s.2.2.2.2.2.1 s.2.1 s.2.2.1 s.2.2.2.1 s.2.2.2.2.1 s.2.2.2.2.2.2 else if s.1 = 68 then Ref_longest_68_b g s.2.2.2.2.2.1 s.2.1 s.2.2.1 s.2.2.2.1 s.2.2.2.2.1 s.2.2.2.2.2.2 else if s.1 = 86 then Ref_longest_86_b g s.2.2.2.2.2.1 s.2.1 s.2.2.1 s.2.2.2.1 s.2.2.2.2.2.2 else if s.1 = 87 then Ref_longest_87_b g s.2.2.2.2.2.1 s.2.1 s.2.2.1 s.2.2.2.1 s.2.2.2.2.1 s.2.2.2.2.2.2 else none
theorem Ref_longest_36_M : Mn Ref_longest_36_F := fun g g2 hg s => by unfold Ref_longest_36_F; exact le_i (Ref_longest_36_m hg s.2.2.2.2.2.1 s.2.1 s.2.2.1 s.2.2.2.1 s.2.2.2.2.1 s.2.2.2.2.2.2) (le_i (Ref_longest_68_m hg s.2.2.2.2.2.1 s.2.1 s.2.2.1 s.2.2.2.1 s.2.2.2.2.1 s.2.2.2.2.2.2) (le_i (Ref_longest_86_m hg s.2.2.2.2.2.1 s.2.1 s.2.2.1 s.2.2.2.1 s.2.2.2.2.2.2) (le_i (Ref_longest_87_m hg s.2.2.2.2.2.1 s.2.1 s.2.2.1 s.2.2.2.1 s.2.2.2.2.1 s.2.2.2.2.2.2) (le_r _))))
def Ref_longest_36_P (s : (Nat × Int32 × Int32 × Int32 × Int32 × Nat × am_H)) (r : (Int32 × am_H)) : Prop := (s.1 = 36 → Sx 89 mX12_longest 36 [.ref s.2.2.2.2.2.1, .retAddr 0, .int s.2.1, .int s.2.2.1, .int s.2.2.2.1, .int s.2.2.2.2.1, .retAddr 0] [] s.2.2.2.2.2.2 (some (.int r.1)) r.2) ∧ (s.1 = 68 → Sx 89 mX12_longest 68 [.ref s.2.2.2.2.2.1, .retAddr 0, .int s.2.1, .int s.2.2.1, .int s.2.2.2.1, .retAddr 0, .int s.2.2.2.2.1] [] s.2.2.2.2.2.2 (some (.int r.1)) r.2) ∧ (s.1 = 86 → Sx 89 mX12_longest 86 [.ref s.2.2.2.2.2.1, .retAddr 0, .int s.2.1, .int s.2.2.1, .retAddr 0, .retAddr 0, .retAddr 0] [.int s.2.2.2.1] s.2.2.2.2.2.2 (some (.int r.1)) r.2) ∧ (s.1 = 87 → Sx 89 mX12_longest 87 [.ref s.2.2.2.2.2.1, .retAddr 0, .int s.2.1, .int s.2.2.1, .retAddr 0, .retAddr 0, .retAddr 0] [.int s.2.2.2.1, .int s.2.2.2.2.1] s.2.2.2.2.2.2 (some (.int r.1)) r.2) ∧ True
set_option maxHeartbeats 1000000 in
set_option maxRecDepth 100000 in
theorem Ref_longest_36_t {g : (Nat × Int32 × Int32 × Int32 × Int32 × Nat × am_H) → Option (Int32 × am_H)} (hg : ∀ s r, g s = some r → Ref_longest_36_P s r) {v0 : Nat} {v2 : Int32} {v3 : Int32} {v4 : Int32} {v5 : Int32} {h : am_H} {r : (Int32 × am_H)} (hb : Ref_longest_36_b g v0 v2 v3 v4 v5 h = some r) : Sx 89 mX12_longest 36 [.ref v0, .retAddr 0, .int v2, .int v3, .int v4, .int v5, .retAddr 0] [] h (some (.int r.1)) r.2 := by
  unfold Ref_longest_36_b at hb
  refine Sx.o (fun _ _ _ k => ex_iload dX12_longest_36 rfl k) ?_
  refine Sx.b (fun _ _ _ k1 k2 => ex_if_eq 99 dX12_longest_38 (by decide) k1 k2) (fun q => ?_) (fun q => ?_)
  · have hb1 := ip q hb
    refine Sx.o (fun _ _ _ k => ex_iload_n dX12_longest_99 rfl k) ?_
    refine Sx.o (fun _ _ _ k => op_iconst (-1 : Int32) dX12_longest_100 (by decide) k) ?_
    refine Sx.b (fun _ _ _ k1 k2 => ex_icmp_eq 108 dX12_longest_101 (by decide) k1 k2) (fun q => ?_) (fun q => ?_)
    · have hb3 := ip q hb1
      refine Sx.o (fun _ _ _ k => ex_iload_n dX12_longest_108 rfl k) ?_
      refine Sx.o (fun _ _ _ k => ex_goto 130 dX12_longest_109 (by decide) k) ?_
      obtain rfl := Option.some.inj hb3
      exact Sx.r (fun _ _ _ k => ex_iret rfl dX12_longest_130 k)
    · have hb4 := iq q hb1
      refine Sx.o (fun _ _ _ k => ex_iload_n dX12_longest_104 rfl k) ?_
      refine Sx.bn (fun _ _ _ k1 k2 => ex_if_ne 112 dX12_longest_105 (by decide) k1 k2) (fun q => ?_) (fun q => ?_)
      · have hb5 := iq q hb4
        refine Sx.o (fun _ _ _ k => ex_iload_n dX12_longest_112 rfl k) ?_
        refine Sx.o (fun _ _ _ k => op_iconst (1 : Int32) dX12_longest_113 (by decide) k) ?_
        refine Sx.bn (fun _ _ _ k1 k2 => ex_icmp_ne 122 dX12_longest_114 (by decide) k1 k2) (fun q => ?_) (fun q => ?_)
        · have hb7 := iq q hb5
          refine Sx.o (fun _ _ _ k => ex_aload_n dX12_longest_122 rfl rfl k) ?_
          obtain ⟨x9, e_x9, hb10⟩ := ob2 hb7
          refine Sx.o (fun _ _ _ k => op_getR fX12_83 dX12_longest_123 e_x9 k) ?_
          refine Sx.o (fun _ _ _ k => ex_iload_n dX12_longest_126 rfl k) ?_
          refine Sx.o (fun _ _ _ k => op_iconst (2 : Int32) dX12_longest_127 (by decide) k) ?_
          refine Sx.o (fun _ _ _ k => ex_isub dX12_longest_128 k) ?_
          obtain ⟨x11, e_x11, hb12⟩ := ob2 hb10
          refine Sx.o (fun _ _ _ k => op_iald dX12_longest_129 e_x11 k) ?_
          obtain rfl := Option.some.inj hb12
          exact Sx.r (fun _ _ _ k => ex_iret rfl dX12_longest_130 k)
        · have hb8 := ip q hb5
          refine Sx.o (fun _ _ _ k => ex_iload dX12_longest_117 rfl k) ?_
          refine Sx.o (fun _ _ _ k => ex_goto 130 dX12_longest_119 (by decide) k) ?_
          obtain rfl := Option.some.inj hb8
          exact Sx.r (fun _ _ _ k => ex_iret rfl dX12_longest_130 k)
      · have hb6 := ip q hb4
        refine Sx.o (fun _ _ _ k => ex_iload_n dX12_longest_108 rfl k) ?_
        refine Sx.o (fun _ _ _ k => ex_goto 130 dX12_longest_109 (by decide) k) ?_
        obtain rfl := Option.some.inj hb6
        exact Sx.r (fun _ _ _ k => ex_iret rfl dX12_longest_130 k)
  · have hb2 := iq q hb
    refine Sx.o (fun _ _ _ k => ex_aload_n dX12_longest_41 rfl rfl k) ?_
    refine Sx.o (fun _ _ _ k => op_iconst (-1 : Int32) dX12_longest_42 (by decide) k) ?_
    obtain ⟨h13, e_h13, hb14⟩ := ob2 hb2
    refine sx_callV (dc := 0) (as := [.int (-1 : Int32)]) (stq := []) (by omega) dX12_longest_43 MX12_takesRow kX12_384 iX12_takesRow sX12_takesRow rfl rfl (Ref_takesRow_o e_h13) rfl rfl (Nat.le_of_ble_eq_true rfl) (Nat.le_of_ble_eq_true rfl) (Ref_takesRow_s e_h13) rfl ?_
    refine Sx.o (fun _ _ _ k => ex_aload_n dX12_longest_46 rfl rfl k) ?_
    obtain ⟨r16, e_r16, hb17⟩ := ob2 hb14
    refine sx_callV (dc := 88) (as := []) (stq := [.int r16.1]) (by omega) dX12_longest_47 MX12_endsBehind kX12_353 iX12_endsBehind sX12_endsBehind rfl rfl (Ref_endsBehind_o e_r16) rfl rfl (Nat.le_of_ble_eq_true rfl) (Nat.le_of_ble_eq_true rfl) (Ref_endsBehind_s e_r16) rfl ?_
    refine Sx.o (L' := [.ref v0, .retAddr 0, .int v2, .int v3, .int v4, .int v5, .int r16.1]) (fun _ _ _ k => ex_istore dX12_longest_50 (by decide) k) ?_
    refine Sx.o (fun _ _ _ k => ex_iload dX12_longest_52 rfl k) ?_
    refine Sx.o (fun _ _ _ k => ex_iload_n dX12_longest_54 rfl k) ?_
    refine Sx.b (fun _ _ _ k1 k2 => ex_icmp_le 68 dX12_longest_55 (by decide) k1 k2) (fun q => ?_) (fun q => ?_)
    · have hb19 := ip q hb17
      refine Sx.fg [true, true, true, true, true, false, true] ?_
      exact (hg _ _ hb19).2.1 rfl
    · have hb20 := iq q hb17
      refine Sx.o (fun _ _ _ k => ex_iload dX12_longest_58 rfl k) ?_
      refine Sx.o (L' := [.ref v0, .retAddr 0, .int v2, .int r16.1, .int v4, .int v5, .int r16.1]) (fun _ _ _ k => ex_istore_n dX12_longest_60 (by decide) k) ?_
      refine Sx.o (fun _ _ _ k => op_iconst (0 : Int32) dX12_longest_61 (by decide) k) ?_
      refine Sx.o (L' := [.ref v0, .retAddr 0, .int v2, .int r16.1, .int (0 : Int32), .int v5, .int r16.1]) (fun _ _ _ k => ex_istore dX12_longest_62 (by decide) k) ?_
      refine Sx.o (fun _ _ _ k => ex_aload_n dX12_longest_64 rfl rfl k) ?_
      obtain ⟨h21, e_h21, hb22⟩ := ob2 hb20
      refine sx_callV (dc := 0) (as := []) (stq := []) (by omega) dX12_longest_65 MX12_finds kX12_387 iX12_finds sX12_finds rfl rfl (Ref_finds_o e_h21) rfl rfl (Nat.le_of_ble_eq_true rfl) (Nat.le_of_ble_eq_true rfl) (Ref_finds_s e_h21) rfl ?_
      refine Sx.fg [true, true, true, true, true, false, true] ?_
      exact (hg _ _ hb22).2.1 rfl
set_option maxHeartbeats 1000000 in
set_option maxRecDepth 100000 in
theorem Ref_longest_68_t {g : (Nat × Int32 × Int32 × Int32 × Int32 × Nat × am_H) → Option (Int32 × am_H)} (hg : ∀ s r, g s = some r → Ref_longest_36_P s r) {v0 : Nat} {v2 : Int32} {v3 : Int32} {v4 : Int32} {v6 : Int32} {h : am_H} {r : (Int32 × am_H)} (hb : Ref_longest_68_b g v0 v2 v3 v4 v6 h = some r) : Sx 89 mX12_longest 68 [.ref v0, .retAddr 0, .int v2, .int v3, .int v4, .retAddr 0, .int v6] [] h (some (.int r.1)) r.2 := by
  unfold Ref_longest_68_b at hb
  refine Sx.o (fun _ _ _ k => ex_iload dX12_longest_68 rfl k) ?_
  refine Sx.o (fun _ _ _ k => ex_iload dX12_longest_70 rfl k) ?_
  refine Sx.o (fun _ _ _ k => ex_iload_n dX12_longest_72 rfl k) ?_
  refine Sx.bn (fun _ _ _ k1 k2 => ex_icmp_ne 86 dX12_longest_73 (by decide) k1 k2) (fun q => ?_) (fun q => ?_)
  · have hb24 := iq q hb
    refine Sx.fg [true, true, true, true, false, true, false] ?_
    exact (hg _ _ hb24).2.2.1 rfl
  · have hb25 := ip q hb
    refine Sx.o (fun _ _ _ k => ex_iload dX12_longest_76 rfl k) ?_
    refine Sx.o (fun _ _ _ k => op_iconst (-1 : Int32) dX12_longest_78 (by decide) k) ?_
    refine Sx.b (fun _ _ _ k1 k2 => ex_icmp_eq 86 dX12_longest_79 (by decide) k1 k2) (fun q => ?_) (fun q => ?_)
    · have hb26 := ip q hb25
      refine Sx.fg [true, true, true, true, false, true, false] ?_
      exact (hg _ _ hb26).2.2.1 rfl
    · have hb27 := iq q hb25
      refine Sx.o (fun _ _ _ k => op_iconst (1 : Int32) dX12_longest_82 (by decide) k) ?_
      refine Sx.o (fun _ _ _ k => ex_goto 87 dX12_longest_83 (by decide) k) ?_
      refine Sx.fg [true, true, true, true, false, true, false] ?_
      exact (hg _ _ hb27).2.2.2.1 rfl
set_option maxHeartbeats 1000000 in
set_option maxRecDepth 100000 in
theorem Ref_longest_86_t {g : (Nat × Int32 × Int32 × Int32 × Int32 × Nat × am_H) → Option (Int32 × am_H)} (hg : ∀ s r, g s = some r → Ref_longest_36_P s r) {v0 : Nat} {v2 : Int32} {v3 : Int32} {s0 : Int32} {h : am_H} {r : (Int32 × am_H)} (hb : Ref_longest_86_b g v0 v2 v3 s0 h = some r) : Sx 89 mX12_longest 86 [.ref v0, .retAddr 0, .int v2, .int v3, .retAddr 0, .retAddr 0, .retAddr 0] [.int s0] h (some (.int r.1)) r.2 := by
  unfold Ref_longest_86_b at hb
  refine Sx.o (fun _ _ _ k => op_iconst (0 : Int32) dX12_longest_86 (by decide) k) ?_
  exact (hg _ _ hb).2.2.2.1 rfl
set_option maxHeartbeats 1000000 in
set_option maxRecDepth 100000 in
theorem Ref_longest_87_t {g : (Nat × Int32 × Int32 × Int32 × Int32 × Nat × am_H) → Option (Int32 × am_H)} (hg : ∀ s r, g s = some r → Ref_longest_36_P s r) {v0 : Nat} {v2 : Int32} {v3 : Int32} {s0 : Int32} {s1 : Int32} {h : am_H} {r : (Int32 × am_H)} (hb : Ref_longest_87_b g v0 v2 v3 s0 s1 h = some r) : Sx 89 mX12_longest 87 [.ref v0, .retAddr 0, .int v2, .int v3, .retAddr 0, .retAddr 0, .retAddr 0] [.int s0, .int s1] h (some (.int r.1)) r.2 := by
  unfold Ref_longest_87_b at hb
  refine Sx.o (fun _ _ _ k => ex_iadd dX12_longest_87 k) ?_
  refine Sx.o (L' := [.ref v0, .retAddr 0, .int v2, .int v3, .int (s1 + s0), .retAddr 0, .retAddr 0]) (fun _ _ _ k => ex_istore dX12_longest_88 (by decide) k) ?_
  refine Sx.o (fun _ _ _ k => ex_aload_n dX12_longest_90 rfl rfl k) ?_
  obtain ⟨r28, e_r28, hb29⟩ := ob2 hb
  refine sx_callV (dc := 0) (as := []) (stq := [.int r28.1]) (by omega) dX12_longest_91 MX12_nextRow kX12_390 iX12_nextRow sX12_nextRow rfl rfl (Ref_nextRow_o e_r28) rfl rfl (Nat.le_of_ble_eq_true rfl) (Nat.le_of_ble_eq_true rfl) (Ref_nextRow_s e_r28) rfl ?_
  refine Sx.o (L' := [.ref v0, .retAddr 0, .int v2, .int v3, .int (s1 + s0), .int r28.1, .retAddr 0]) (fun _ _ _ k => ex_istore dX12_longest_94 (by decide) k) ?_
  refine Sx.o (fun _ _ _ k => ex_goto 36 dX12_longest_96 (by decide) k) ?_
  exact (hg _ _ hb29).1 rfl
theorem Ref_longest_36_T : ∀ s r, fx Ref_longest_36_F Ref_longest_36_M s = some r → Ref_longest_36_P s r := fx_ind Ref_longest_36_M Ref_longest_36_P (fun g hg s r hb => by
  unfold Ref_longest_36_F at hb
  exact ⟨fun q => Ref_longest_36_t hg (ip q hb), fun q => Ref_longest_68_t hg (ip q (iq (by rw [q]; decide) hb)), fun q => Ref_longest_86_t hg (ip q (iq (by rw [q]; decide) (iq (by rw [q]; decide) hb))), fun q => Ref_longest_87_t hg (ip q (iq (by rw [q]; decide) (iq (by rw [q]; decide) (iq (by rw [q]; decide) hb)))), trivial⟩)
set_option maxHeartbeats 1000000 in
set_option maxRecDepth 100000 in
theorem Ref_longest_36_r {g : (Nat × Int32 × Int32 × Int32 × Int32 × Nat × am_H) → Option (Int32 × am_H)} (hg : ∀ s r, g s = some r → Eqs s.2.2.2.2.2.2 r.2) {v0 : Nat} {v2 : Int32} {v3 : Int32} {v4 : Int32} {v5 : Int32} {h : am_H} {r : (Int32 × am_H)} (hb : Ref_longest_36_b g v0 v2 v3 v4 v5 h = some r) : Eqs h r.2 := by
  unfold Ref_longest_36_b at hb
  have w0 := Eqs.rf h
  by_cases q : v5 = (0 : Int32)
  · have hb1 := ip q hb
    by_cases q : v3 = (-1 : Int32)
    · have hb3 := ip q hb1
      obtain rfl := Option.some.inj hb3
      exact w0
    · have hb4 := iq q hb1
      by_cases q : v2 = (0 : Int32)
      · have hb6 := ip q hb4
        obtain rfl := Option.some.inj hb6
        exact w0
      · have hb5 := iq q hb4
        by_cases q : v2 = (1 : Int32)
        · have hb8 := ip q hb5
          obtain rfl := Option.some.inj hb8
          exact w0
        · have hb7 := iq q hb5
          obtain ⟨x9, e_x9, hb10⟩ := ob2 hb7
          obtain ⟨x11, e_x11, hb12⟩ := ob2 hb10
          obtain rfl := Option.some.inj hb12
          exact w0
  · have hb2 := iq q hb
    obtain ⟨h13, e_h13, hb14⟩ := ob2 hb2
    have w15 := w0.tr (Ref_takesRow_q e_h13)
    obtain ⟨r16, e_r16, hb17⟩ := ob2 hb14
    have w18 := w15.tr (Ref_endsBehind_q e_r16)
    by_cases q : r16.1 ≤ v3
    · have hb19 := ip q hb17
      exact w18.tr (hg _ _ hb19)
    · have hb20 := iq q hb17
      obtain ⟨h21, e_h21, hb22⟩ := ob2 hb20
      have w23 := w18.tr (Ref_finds_q e_h21)
      exact w23.tr (hg _ _ hb22)
set_option maxHeartbeats 1000000 in
set_option maxRecDepth 100000 in
theorem Ref_longest_68_r {g : (Nat × Int32 × Int32 × Int32 × Int32 × Nat × am_H) → Option (Int32 × am_H)} (hg : ∀ s r, g s = some r → Eqs s.2.2.2.2.2.2 r.2) {v0 : Nat} {v2 : Int32} {v3 : Int32} {v4 : Int32} {v6 : Int32} {h : am_H} {r : (Int32 × am_H)} (hb : Ref_longest_68_b g v0 v2 v3 v4 v6 h = some r) : Eqs h r.2 := by
  unfold Ref_longest_68_b at hb
  have w0 := Eqs.rf h
  by_cases q : v6 = v3
  · have hb25 := ip q hb
    by_cases q : v6 = (-1 : Int32)
    · have hb26 := ip q hb25
      exact w0.tr (hg _ _ hb26)
    · have hb27 := iq q hb25
      exact w0.tr (hg _ _ hb27)
  · have hb24 := iq q hb
    exact w0.tr (hg _ _ hb24)
set_option maxHeartbeats 1000000 in
set_option maxRecDepth 100000 in
theorem Ref_longest_86_r {g : (Nat × Int32 × Int32 × Int32 × Int32 × Nat × am_H) → Option (Int32 × am_H)} (hg : ∀ s r, g s = some r → Eqs s.2.2.2.2.2.2 r.2) {v0 : Nat} {v2 : Int32} {v3 : Int32} {s0 : Int32} {h : am_H} {r : (Int32 × am_H)} (hb : Ref_longest_86_b g v0 v2 v3 s0 h = some r) : Eqs h r.2 := by
  unfold Ref_longest_86_b at hb
  have w0 := Eqs.rf h
  exact w0.tr (hg _ _ hb)
set_option maxHeartbeats 1000000 in
set_option maxRecDepth 100000 in
theorem Ref_longest_87_r {g : (Nat × Int32 × Int32 × Int32 × Int32 × Nat × am_H) → Option (Int32 × am_H)} (hg : ∀ s r, g s = some r → Eqs s.2.2.2.2.2.2 r.2) {v0 : Nat} {v2 : Int32} {v3 : Int32} {s0 : Int32} {s1 : Int32} {h : am_H} {r : (Int32 × am_H)} (hb : Ref_longest_87_b g v0 v2 v3 s0 s1 h = some r) : Eqs h r.2 := by
  unfold Ref_longest_87_b at hb
  have w0 := Eqs.rf h
  obtain ⟨r28, e_r28, hb29⟩ := ob2 hb
  have w30 := w0.tr (Ref_nextRow_q e_r28)
  exact w30.tr (hg _ _ hb29)
theorem Ref_longest_36_Q : ∀ s r, fx Ref_longest_36_F Ref_longest_36_M s = some r → Eqs s.2.2.2.2.2.2 r.2 := fx_ind Ref_longest_36_M (fun s r => Eqs s.2.2.2.2.2.2 r.2) (fun g hg s r hb => by
  unfold Ref_longest_36_F at hb
  by_cases q0 : s.1 = 36
  · exact Ref_longest_36_r hg (ip q0 hb)
  · have hb0 := iq q0 hb
    by_cases q1 : s.1 = 68
    · exact Ref_longest_68_r hg (ip q1 hb0)
    · have hb1 := iq q1 hb0
      by_cases q2 : s.1 = 86
      · exact Ref_longest_86_r hg (ip q2 hb1)
      · have hb2 := iq q2 hb1
        by_cases q3 : s.1 = 87
        · exact Ref_longest_87_r hg (ip q3 hb2)
        · have hb3 := iq q3 hb2
          exact nomatch hb3)
noncomputable def Ref_longest_36 (v0 : Nat) (v2 : Int32) (v3 : Int32) (v4 : Int32) (v5 : Int32) (h : am_H) : Option (Int32 × am_H) := fx Ref_longest_36_F Ref_longest_36_M (36, v2, v3, v4, v5, v0, h)
noncomputable def Ref_longest_68 (v0 : Nat) (v2 : Int32) (v3 : Int32) (v4 : Int32) (v6 : Int32) (h : am_H) : Option (Int32 × am_H) := fx Ref_longest_36_F Ref_longest_36_M (68, v2, v3, v4, v6, v0, h)
noncomputable def Ref_longest_86 (v0 : Nat) (v2 : Int32) (v3 : Int32) (s0 : Int32) (h : am_H) : Option (Int32 × am_H) := fx Ref_longest_36_F Ref_longest_36_M (86, v2, v3, s0, 0, v0, h)
noncomputable def Ref_longest_87 (v0 : Nat) (v2 : Int32) (v3 : Int32) (s0 : Int32) (s1 : Int32) (h : am_H) : Option (Int32 × am_H) := fx Ref_longest_36_F Ref_longest_36_M (87, v2, v3, s0, s1, v0, h)
set_option maxHeartbeats 1000000 in
set_option maxRecDepth 100000 in
theorem Ref_longest_36_e (v0 : Nat) (v2 : Int32) (v3 : Int32) (v4 : Int32) (v5 : Int32) (h : am_H) : Ref_longest_36 v0 v2 v3 v4 v5 h = (if v5 = (0 : Int32) then if v3 = (-1 : Int32) then some (v3, h) else if v2 = (0 : Int32) then some (v3, h) else if v2 = (1 : Int32) then some (v4, h) else (gR h 12 v0 42).bind fun x9 => (aI h 0 x9 (v2 - (2 : Int32))).bind fun x11 => some (x11, h) else (Ref_takesRow v0 (-1 : Int32) h).bind fun h13 => (Ref_endsBehind v0 h13).bind fun r16 => if r16.1 ≤ v3 then Ref_longest_68 v0 v2 v3 v4 r16.1 r16.2 else (Ref_finds v0 r16.2).bind fun h21 => Ref_longest_68 v0 v2 r16.1 (0 : Int32) r16.1 h21) := (fx_eq Ref_longest_36_M (36, v2, v3, v4, v5, v0, h)).trans (if_pos rfl)
theorem Ref_longest_36_q {v0 : Nat} {v2 : Int32} {v3 : Int32} {v4 : Int32} {v5 : Int32} {h : am_H} {r : (Int32 × am_H)} (hb : Ref_longest_36 v0 v2 v3 v4 v5 h = some r) : Eqs h r.2 := Ref_longest_36_Q _ _ hb
theorem Ref_longest_36_s {v0 : Nat} {v2 : Int32} {v3 : Int32} {v4 : Int32} {v5 : Int32} {h : am_H} {r : (Int32 × am_H)} (hb : Ref_longest_36 v0 v2 v3 v4 v5 h = some r) : Sx 89 mX12_longest 36 [.ref v0, .retAddr 0, .int v2, .int v3, .int v4, .int v5, .retAddr 0] [] h (some (.int r.1)) r.2 := (Ref_longest_36_T _ _ hb).1 rfl
set_option maxHeartbeats 1000000 in
set_option maxRecDepth 100000 in
theorem Ref_longest_68_e (v0 : Nat) (v2 : Int32) (v3 : Int32) (v4 : Int32) (v6 : Int32) (h : am_H) : Ref_longest_68 v0 v2 v3 v4 v6 h = (if v6 = v3 then if v6 = (-1 : Int32) then Ref_longest_86 v0 v2 v3 v4 h else Ref_longest_87 v0 v2 v3 (1 : Int32) v4 h else Ref_longest_86 v0 v2 v3 v4 h) := (fx_eq Ref_longest_36_M (68, v2, v3, v4, v6, v0, h)).trans ((if_neg (show ¬ (68 : Nat) = 36 by decide)).trans (if_pos rfl))
theorem Ref_longest_68_q {v0 : Nat} {v2 : Int32} {v3 : Int32} {v4 : Int32} {v6 : Int32} {h : am_H} {r : (Int32 × am_H)} (hb : Ref_longest_68 v0 v2 v3 v4 v6 h = some r) : Eqs h r.2 := Ref_longest_36_Q _ _ hb
theorem Ref_longest_68_s {v0 : Nat} {v2 : Int32} {v3 : Int32} {v4 : Int32} {v6 : Int32} {h : am_H} {r : (Int32 × am_H)} (hb : Ref_longest_68 v0 v2 v3 v4 v6 h = some r) : Sx 89 mX12_longest 68 [.ref v0, .retAddr 0, .int v2, .int v3, .int v4, .retAddr 0, .int v6] [] h (some (.int r.1)) r.2 := (Ref_longest_36_T _ _ hb).2.1 rfl
set_option maxHeartbeats 1000000 in
set_option maxRecDepth 100000 in
theorem Ref_longest_86_e (v0 : Nat) (v2 : Int32) (v3 : Int32) (s0 : Int32) (h : am_H) : Ref_longest_86 v0 v2 v3 s0 h = (Ref_longest_87 v0 v2 v3 (0 : Int32) s0 h) := (fx_eq Ref_longest_36_M (86, v2, v3, s0, 0, v0, h)).trans ((if_neg (show ¬ (86 : Nat) = 36 by decide)).trans ((if_neg (show ¬ (86 : Nat) = 68 by decide)).trans (if_pos rfl)))
theorem Ref_longest_86_q {v0 : Nat} {v2 : Int32} {v3 : Int32} {s0 : Int32} {h : am_H} {r : (Int32 × am_H)} (hb : Ref_longest_86 v0 v2 v3 s0 h = some r) : Eqs h r.2 := Ref_longest_36_Q _ _ hb
theorem Ref_longest_86_s {v0 : Nat} {v2 : Int32} {v3 : Int32} {s0 : Int32} {h : am_H} {r : (Int32 × am_H)} (hb : Ref_longest_86 v0 v2 v3 s0 h = some r) : Sx 89 mX12_longest 86 [.ref v0, .retAddr 0, .int v2, .int v3, .retAddr 0, .retAddr 0, .retAddr 0] [.int s0] h (some (.int r.1)) r.2 := (Ref_longest_36_T _ _ hb).2.2.1 rfl
set_option maxHeartbeats 1000000 in
set_option maxRecDepth 100000 in
theorem Ref_longest_87_e (v0 : Nat) (v2 : Int32) (v3 : Int32) (s0 : Int32) (s1 : Int32) (h : am_H) : Ref_longest_87 v0 v2 v3 s0 s1 h = ((Ref_nextRow v0 h).bind fun r28 => Ref_longest_36 v0 v2 v3 (s1 + s0) r28.1 r28.2) := (fx_eq Ref_longest_36_M (87, v2, v3, s0, s1, v0, h)).trans ((if_neg (show ¬ (87 : Nat) = 36 by decide)).trans ((if_neg (show ¬ (87 : Nat) = 68 by decide)).trans ((if_neg (show ¬ (87 : Nat) = 86 by decide)).trans (if_pos rfl))))
theorem Ref_longest_87_q {v0 : Nat} {v2 : Int32} {v3 : Int32} {s0 : Int32} {s1 : Int32} {h : am_H} {r : (Int32 × am_H)} (hb : Ref_longest_87 v0 v2 v3 s0 s1 h = some r) : Eqs h r.2 := Ref_longest_36_Q _ _ hb
theorem Ref_longest_87_s {v0 : Nat} {v2 : Int32} {v3 : Int32} {s0 : Int32} {s1 : Int32} {h : am_H} {r : (Int32 × am_H)} (hb : Ref_longest_87 v0 v2 v3 s0 s1 h = some r) : Sx 89 mX12_longest 87 [.ref v0, .retAddr 0, .int v2, .int v3, .retAddr 0, .retAddr 0, .retAddr 0] [.int s0, .int s1] h (some (.int r.1)) r.2 := (Ref_longest_36_T _ _ hb).2.2.2.1 rfl
set_option maxHeartbeats 1000000 in
set_option maxRecDepth 100000 in
noncomputable def Ref_longest (v0 : Nat) (v1 : Int32) (v2 : Int32) (h : am_H) : Option (Int32 × am_H) := if isO h 12 v0 = true then (Ref_lies v1 (1 : Int32) (7 : Int32) h).bind fun x31 => if x31 = (0 : Int32) then some ((-1 : Int32), h) else (Ref_lies v2 (0 : Int32) ((1 : Int32) + v1) h).bind fun x35 => if x35 = (0 : Int32) then some ((-1 : Int32), h) else (Ref_firstOrder v0 v1 h).bind fun h39 => Ref_longest_36 v0 v2 (-1 : Int32) (0 : Int32) (1 : Int32) h39 else none
set_option maxHeartbeats 1000000 in
set_option maxRecDepth 100000 in
theorem Ref_longest_s {v0 : Nat} {v1 : Int32} {v2 : Int32} {h : am_H} {r : (Int32 × am_H)} (hb : Ref_longest v0 v1 v2 h = some r) : Sx 89 mX12_longest 0 (am_en [.ref v0, .int v1, .int v2] 7) [] h (some (.int r.1)) r.2 := by
  unfold Ref_longest at hb
  have hb := (iz hb).2
  show Sx 89 mX12_longest 0 [.ref v0, .int v1, .int v2, .retAddr 0, .retAddr 0, .retAddr 0, .retAddr 0] [] h (some (.int r.1)) r.2
  refine Sx.o (fun _ _ _ k => ex_iload_n dX12_longest_0 rfl k) ?_
  refine Sx.o (fun _ _ _ k => op_iconst (1 : Int32) dX12_longest_1 (by decide) k) ?_
  refine Sx.o (fun _ _ _ k => op_bipush (7 : Int32) dX12_longest_2 (by decide) k) ?_
  obtain ⟨x31, e_x31, hb32⟩ := ob2 hb
  refine sx_callS (dc := 0) (as := [.int v1, .int (1 : Int32), .int (7 : Int32)]) (stq := [.int x31]) (by omega) dX12_longest_4 MX12_lies kX12_102 tX12_lies rfl rfl (Nat.le_of_ble_eq_true rfl) (Nat.le_of_ble_eq_true rfl) (Ref_lies_s e_x31) rfl ?_
  refine Sx.b (fun _ _ _ k1 k2 => ex_if_eq 21 dX12_longest_7 (by decide) k1 k2) (fun q => ?_) (fun q => ?_)
  · have hb33 := ip q hb32
    refine Sx.o (fun _ _ _ k => op_iconst (-1 : Int32) dX12_longest_21 (by decide) k) ?_
    obtain rfl := Option.some.inj hb33
    exact Sx.r (fun _ _ _ k => ex_iret rfl dX12_longest_22 k)
  · have hb34 := iq q hb32
    refine Sx.o (fun _ _ _ k => ex_iload_n dX12_longest_10 rfl k) ?_
    refine Sx.o (fun _ _ _ k => op_iconst (0 : Int32) dX12_longest_11 (by decide) k) ?_
    refine Sx.o (fun _ _ _ k => op_iconst (1 : Int32) dX12_longest_12 (by decide) k) ?_
    refine Sx.o (fun _ _ _ k => ex_iload_n dX12_longest_13 rfl k) ?_
    refine Sx.o (fun _ _ _ k => ex_iadd dX12_longest_14 k) ?_
    obtain ⟨x35, e_x35, hb36⟩ := ob2 hb34
    refine sx_callS (dc := 0) (as := [.int v2, .int (0 : Int32), .int ((1 : Int32) + v1)]) (stq := [.int x35]) (by omega) dX12_longest_15 MX12_lies kX12_102 tX12_lies rfl rfl (Nat.le_of_ble_eq_true rfl) (Nat.le_of_ble_eq_true rfl) (Ref_lies_s e_x35) rfl ?_
    refine Sx.bn (fun _ _ _ k1 k2 => ex_if_ne 23 dX12_longest_18 (by decide) k1 k2) (fun q => ?_) (fun q => ?_)
    · have hb37 := iq q hb36
      refine Sx.o (fun _ _ _ k => op_iconst (-1 : Int32) dX12_longest_23 (by decide) k) ?_
      refine Sx.o (L' := [.ref v0, .int v1, .int v2, .int (-1 : Int32), .retAddr 0, .retAddr 0, .retAddr 0]) (fun _ _ _ k => ex_istore_n dX12_longest_24 (by decide) k) ?_
      refine Sx.o (fun _ _ _ k => op_iconst (0 : Int32) dX12_longest_25 (by decide) k) ?_
      refine Sx.o (L' := [.ref v0, .int v1, .int v2, .int (-1 : Int32), .int (0 : Int32), .retAddr 0, .retAddr 0]) (fun _ _ _ k => ex_istore dX12_longest_26 (by decide) k) ?_
      refine Sx.o (fun _ _ _ k => ex_aload_n dX12_longest_28 rfl rfl k) ?_
      refine Sx.o (fun _ _ _ k => ex_iload_n dX12_longest_29 rfl k) ?_
      obtain ⟨h39, e_h39, hb40⟩ := ob2 hb37
      refine sx_callV (dc := 0) (as := [.int v1]) (stq := []) (by omega) dX12_longest_30 MX12_firstOrder kX12_381 iX12_firstOrder sX12_firstOrder rfl rfl (Ref_firstOrder_o e_h39) rfl rfl (Nat.le_of_ble_eq_true rfl) (Nat.le_of_ble_eq_true rfl) (Ref_firstOrder_s e_h39) rfl ?_
      refine Sx.o (fun _ _ _ k => op_iconst (1 : Int32) dX12_longest_33 (by decide) k) ?_
      refine Sx.o (L' := [.ref v0, .int v1, .int v2, .int (-1 : Int32), .int (0 : Int32), .int (1 : Int32), .retAddr 0]) (fun _ _ _ k => ex_istore dX12_longest_34 (by decide) k) ?_
      refine Sx.fg [true, false, true, true, true, true, true] ?_
      exact Ref_longest_36_s hb40
    · have hb38 := ip q hb36
      refine Sx.o (fun _ _ _ k => op_iconst (-1 : Int32) dX12_longest_21 (by decide) k) ?_
      obtain rfl := Option.some.inj hb38
      exact Sx.r (fun _ _ _ k => ex_iret rfl dX12_longest_22 k)
set_option maxHeartbeats 1000000 in
set_option maxRecDepth 100000 in
theorem Ref_longest_q {v0 : Nat} {v1 : Int32} {v2 : Int32} {h : am_H} {r : (Int32 × am_H)} (hb : Ref_longest v0 v1 v2 h = some r) : Eqs h r.2 := by
  unfold Ref_longest at hb
  have hb := (iz hb).2
  have w0 := Eqs.rf h
  obtain ⟨x31, e_x31, hb32⟩ := ob2 hb
  by_cases q : x31 = (0 : Int32)
  · have hb33 := ip q hb32
    obtain rfl := Option.some.inj hb33
    exact w0
  · have hb34 := iq q hb32
    obtain ⟨x35, e_x35, hb36⟩ := ob2 hb34
    by_cases q : x35 = (0 : Int32)
    · have hb38 := ip q hb36
      obtain rfl := Option.some.inj hb38
      exact w0
    · have hb37 := iq q hb36
      obtain ⟨h39, e_h39, hb40⟩ := ob2 hb37
      have w41 := w0.tr (Ref_firstOrder_q e_h39)
      exact w41.tr (Ref_longest_36_q hb40)
theorem Ref_longest_o {v0 : Nat} {v1 : Int32} {v2 : Int32} {h : am_H} {r : (Int32 × am_H)} (hb : Ref_longest v0 v1 v2 h = some r) : isO h 12 v0 = true := by
  unfold Ref_longest at hb
  exact (iz hb).1
