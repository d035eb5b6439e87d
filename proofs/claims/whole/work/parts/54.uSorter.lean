/-! Sorter: its methods as functions (by wip/whole/dec.py) -/
set_option maxHeartbeats 1000000 in
set_option maxRecDepth 100000 in
noncomputable def Sorter_init (v0 : Nat) (h : am_H) : Option am_H := if isO h 5 v0 = true then (nA h 0 (12 : Int32)).bind fun h1 => (pV h1 5 v0 1 (.ref (List.length h))).bind fun h3 => (nA h3 0 (16 : Int32)).bind fun h6 => (pV h6 5 v0 2 (.ref (List.length h3))).bind fun h8 => some h8 else none
set_option maxHeartbeats 1000000 in
set_option maxRecDepth 100000 in
theorem Sorter_init_s {v0 : Nat} {h : am_H} {r : am_H} (hb : Sorter_init v0 h = some r) : Sx 1 mX5_init 0 (am_en [.ref v0] 1) [] h none r := by
  unfold Sorter_init at hb
  have hb := (iz hb).2
  show Sx 1 mX5_init 0 [.ref v0] [] h none r
  refine Sx.o (fun _ _ _ k => ex_aload_n dX5_init_0 rfl rfl k) ?_
  refine Sx.o (fun _ _ _ k => op_obj (by omega) dX5_init_1 kX5_3 (Nat.le_of_ble_eq_true rfl) k) ?_
  refine Sx.o (fun _ _ _ k => ex_aload_n dX5_init_4 rfl rfl k) ?_
  refine Sx.o (fun _ _ _ k => op_bipush (12 : Int32) dX5_init_5 (by decide) k) ?_
  obtain ⟨h1, e_h1, hb2⟩ := ob2 hb
  refine sx_newa (t := 0) (fun _ _ _ N c1 c2 c3 kk => ex_newa0 a_int dX5_init_7 c1 c2 c3 kk) e_h1 ?_
  obtain ⟨h3, e_h3, hb4⟩ := ob2 hb2
  refine Sx.p (pV_q e_h3) (fun _ _ _ k => op_putF pX5_11 (fun r hr => by cases hr; rfl) rfl dX5_init_9 e_h3 (fun _ => rfl) (fun _ => rfl) k) ?_
  refine Sx.o (fun _ _ _ k => ex_aload_n dX5_init_12 rfl rfl k) ?_
  refine Sx.o (fun _ _ _ k => op_bipush (16 : Int32) dX5_init_13 (by decide) k) ?_
  obtain ⟨h6, e_h6, hb7⟩ := ob2 hb4
  refine sx_newa (t := 0) (fun _ _ _ N c1 c2 c3 kk => ex_newa0 a_int dX5_init_15 c1 c2 c3 kk) e_h6 ?_
  obtain ⟨h8, e_h8, hb9⟩ := ob2 hb7
  refine Sx.p (pV_q e_h8) (fun _ _ _ k => op_putF pX5_15 (fun r hr => by cases hr; rfl) rfl dX5_init_17 e_h8 (fun _ => rfl) (fun _ => rfl) k) ?_
  obtain rfl := Option.some.inj hb9
  exact Sx.r (fun _ _ _ k => ex_vret rfl dX5_init_20 k)
theorem Sorter_init_o {v0 : Nat} {h : am_H} {r : am_H} (hb : Sorter_init v0 h = some r) : isO h 5 v0 = true := by
  unfold Sorter_init at hb
  exact (iz hb).1
set_option maxHeartbeats 1000000 in
set_option maxRecDepth 100000 in
noncomputable def Sorter_block (v0 : Nat) (v1 : Int32) (h : am_H) : Option Int32 := if isO h 5 v0 = true then if v1 < (0 : Int32) then some (-1 : Int32) else (gI h 5 v0 0).bind fun x3 => if x3 ≤ v1 then some (-1 : Int32) else if (12 : Int32) ≤ v1 then some (-1 : Int32) else (gR h 5 v0 1).bind fun x9 => (aI h 0 x9 v1).bind fun x11 => some x11 else none
set_option maxHeartbeats 1000000 in
set_option maxRecDepth 100000 in
theorem Sorter_block_s {v0 : Nat} {v1 : Int32} {h : am_H} {r : Int32} (hb : Sorter_block v0 v1 h = some r) : Sx 0 mX5_block 0 (am_en [.ref v0, .int v1] 2) [] h (some (.int r)) h := by
  unfold Sorter_block at hb
  have hb := (iz hb).2
  show Sx 0 mX5_block 0 [.ref v0, .int v1] [] h (some (.int r)) h
  refine Sx.o (fun _ _ _ k => ex_iload_n dX5_block_0 rfl k) ?_
  refine Sx.b (fun _ _ _ k1 k2 => ex_if_lt 27 dX5_block_1 (by decide) k1 k2) (fun q => ?_) (fun q => ?_)
  · have hb1 := ip q hb
    refine Sx.o (fun _ _ _ k => op_iconst (-1 : Int32) dX5_block_27 (by decide) k) ?_
    obtain rfl := Option.some.inj hb1
    exact Sx.r (fun _ _ _ k => ex_iret rfl dX5_block_28 k)
  · have hb2 := iq q hb
    refine Sx.o (fun _ _ _ k => ex_iload_n dX5_block_4 rfl k) ?_
    refine Sx.o (fun _ _ _ k => ex_aload_n dX5_block_5 rfl rfl k) ?_
    obtain ⟨x3, e_x3, hb4⟩ := ob2 hb2
    refine Sx.o (fun _ _ _ k => op_getI fX5_18 dX5_block_6 e_x3 k) ?_
    refine Sx.b (fun _ _ _ k1 k2 => ex_icmp_ge 27 dX5_block_9 (by decide) k1 k2) (fun q => ?_) (fun q => ?_)
    · have hb5 := ip q hb4
      refine Sx.o (fun _ _ _ k => op_iconst (-1 : Int32) dX5_block_27 (by decide) k) ?_
      obtain rfl := Option.some.inj hb5
      exact Sx.r (fun _ _ _ k => ex_iret rfl dX5_block_28 k)
    · have hb6 := iq q hb4
      refine Sx.o (fun _ _ _ k => ex_iload_n dX5_block_12 rfl k) ?_
      refine Sx.o (fun _ _ _ k => op_bipush (12 : Int32) dX5_block_13 (by decide) k) ?_
      refine Sx.b (fun _ _ _ k1 k2 => ex_icmp_ge 27 dX5_block_15 (by decide) k1 k2) (fun q => ?_) (fun q => ?_)
      · have hb7 := ip q hb6
        refine Sx.o (fun _ _ _ k => op_iconst (-1 : Int32) dX5_block_27 (by decide) k) ?_
        obtain rfl := Option.some.inj hb7
        exact Sx.r (fun _ _ _ k => ex_iret rfl dX5_block_28 k)
      · have hb8 := iq q hb6
        refine Sx.o (fun _ _ _ k => ex_aload_n dX5_block_18 rfl rfl k) ?_
        obtain ⟨x9, e_x9, hb10⟩ := ob2 hb8
        refine Sx.o (fun _ _ _ k => op_getR fX5_11 dX5_block_19 e_x9 k) ?_
        refine Sx.o (fun _ _ _ k => ex_iload_n dX5_block_22 rfl k) ?_
        obtain ⟨x11, e_x11, hb12⟩ := ob2 hb10
        refine Sx.o (fun _ _ _ k => op_iald dX5_block_23 e_x11 k) ?_
        refine Sx.o (fun _ _ _ k => ex_goto 28 dX5_block_24 (by decide) k) ?_
        obtain rfl := Option.some.inj hb12
        exact Sx.r (fun _ _ _ k => ex_iret rfl dX5_block_28 k)
theorem Sorter_block_o {v0 : Nat} {v1 : Int32} {h : am_H} {r : Int32} (hb : Sorter_block v0 v1 h = some r) : isO h 5 v0 = true := by
  unfold Sorter_block at hb
  exact (iz hb).1
set_option maxHeartbeats 1000000 in
set_option maxRecDepth 100000 in
noncomputable def Sorter_rankCards_46_b (g : (Nat × Int32 × Nat × am_H) → Option am_H) (v0 : Nat) (v2 : Int32) (h : am_H) : Option am_H := (gR h 5 v0 2).bind fun x1 => (aL h x1).bind fun x3 => if x3 ≤ v2 then some h else (gI h 5 v0 3).bind fun x7 => (gR h 5 v0 2).bind fun x9 => (aI h 0 x9 v2).bind fun x11 => (pV h 5 v0 3 (.int (x7 + x11))).bind fun h13 => (gR h13 5 v0 2).bind fun x16 => (gI h13 5 v0 3).bind fun x18 => (sI h13 x16 v2 x18).bind fun h20 => g (46, (v2 + (1 : Int32)), v0, h20)
set_option maxHeartbeats 1000000 in
set_option maxRecDepth 100000 in
theorem Sorter_rankCards_46_m {g g2 : (Nat × Int32 × Nat × am_H) → Option am_H} (hg : ∀ s, Le (g s) (g2 s)) (v0 : Nat) (v2 : Int32) (h : am_H) : Le (Sorter_rankCards_46_b g v0 v2 h) (Sorter_rankCards_46_b g2 v0 v2 h) := by unfold Sorter_rankCards_46_b; exact le_b (le_r _) fun x1 => le_b (le_r _) fun x3 => le_i (le_r _) (le_b (le_r _) fun x7 => le_b (le_r _) fun x9 => le_b (le_r _) fun x11 => le_b (le_r _) fun h13 => le_b (le_r _) fun x16 => le_b (le_r _) fun x18 => le_b (le_r _) fun h20 => hg _)
noncomputable def Sorter_rankCards_46_F (g : (Nat × Int32 × Nat × am_H) → Option am_H) (s : (Nat × Int32 × Nat × am_H)) : Option am_H := if s.1 = 46 then Sorter_rankCards_46_b g s.2.2.1 s.2.1 s.2.2.2 else none
theorem Sorter_rankCards_46_M : Mn Sorter_rankCards_46_F := fun g g2 hg s => by unfold Sorter_rankCards_46_F; exact le_i (Sorter_rankCards_46_m hg s.2.2.1 s.2.1 s.2.2.2) (le_r _)
def Sorter_rankCards_46_P (s : (Nat × Int32 × Nat × am_H)) (r : am_H) : Prop := (s.1 = 46 → Sx 1 mX5_rankCards 46 [.ref s.2.2.1, .retAddr 0, .int s.2.1] [] s.2.2.2 none r) ∧ True
set_option maxHeartbeats 1000000 in
set_option maxRecDepth 100000 in
theorem Sorter_rankCards_46_t {g : (Nat × Int32 × Nat × am_H) → Option am_H} (hg : ∀ s r, g s = some r → Sorter_rankCards_46_P s r) {v0 : Nat} {v2 : Int32} {h : am_H} {r : am_H} (hb : Sorter_rankCards_46_b g v0 v2 h = some r) : Sx 1 mX5_rankCards 46 [.ref v0, .retAddr 0, .int v2] [] h none r := by
  unfold Sorter_rankCards_46_b at hb
  refine Sx.o (fun _ _ _ k => ex_iload_n dX5_rankCards_46 rfl k) ?_
  refine Sx.o (fun _ _ _ k => ex_aload_n dX5_rankCards_47 rfl rfl k) ?_
  obtain ⟨x1, e_x1, hb2⟩ := ob2 hb
  refine Sx.o (fun _ _ _ k => op_getR fX5_15 dX5_rankCards_48 e_x1 k) ?_
  obtain ⟨x3, e_x3, hb4⟩ := ob2 hb2
  refine Sx.o (fun _ _ _ k => op_alen dX5_rankCards_51 e_x3 k) ?_
  refine Sx.b (fun _ _ _ k1 k2 => ex_icmp_ge 86 dX5_rankCards_52 (by decide) k1 k2) (fun q => ?_) (fun q => ?_)
  · have hb5 := ip q hb4
    obtain rfl := Option.some.inj hb5
    exact Sx.r (fun _ _ _ k => ex_vret rfl dX5_rankCards_86 k)
  · have hb6 := iq q hb4
    refine Sx.o (fun _ _ _ k => ex_aload_n dX5_rankCards_55 rfl rfl k) ?_
    refine Sx.o (fun _ _ _ k => ex_dup dX5_rankCards_56 rfl k) ?_
    obtain ⟨x7, e_x7, hb8⟩ := ob2 hb6
    refine Sx.o (fun _ _ _ k => op_getI fX5_44 dX5_rankCards_57 e_x7 k) ?_
    refine Sx.o (fun _ _ _ k => ex_aload_n dX5_rankCards_60 rfl rfl k) ?_
    obtain ⟨x9, e_x9, hb10⟩ := ob2 hb8
    refine Sx.o (fun _ _ _ k => op_getR fX5_15 dX5_rankCards_61 e_x9 k) ?_
    refine Sx.o (fun _ _ _ k => ex_iload_n dX5_rankCards_64 rfl k) ?_
    obtain ⟨x11, e_x11, hb12⟩ := ob2 hb10
    refine Sx.o (fun _ _ _ k => op_iald dX5_rankCards_65 e_x11 k) ?_
    refine Sx.o (fun _ _ _ k => ex_iadd dX5_rankCards_66 k) ?_
    obtain ⟨h13, e_h13, hb14⟩ := ob2 hb12
    refine Sx.p (pV_q e_h13) (fun _ _ _ k => op_put pX5_44 dX5_rankCards_67 e_h13 (fun _ => rfl) (fun _ => rfl) k) ?_
    refine Sx.o (fun _ _ _ k => ex_aload_n dX5_rankCards_70 rfl rfl k) ?_
    obtain ⟨x16, e_x16, hb17⟩ := ob2 hb14
    refine Sx.o (fun _ _ _ k => op_getR fX5_15 dX5_rankCards_71 e_x16 k) ?_
    refine Sx.o (fun _ _ _ k => ex_iload_n dX5_rankCards_74 rfl k) ?_
    refine Sx.o (fun _ _ _ k => ex_aload_n dX5_rankCards_75 rfl rfl k) ?_
    obtain ⟨x18, e_x18, hb19⟩ := ob2 hb17
    refine Sx.o (fun _ _ _ k => op_getI fX5_44 dX5_rankCards_76 e_x18 k) ?_
    obtain ⟨h20, e_h20, hb21⟩ := ob2 hb19
    refine Sx.p (sI_q e_h20) (fun _ _ _ k => op_iast dX5_rankCards_79 e_h20 k) ?_
    refine Sx.o (L' := [.ref v0, .retAddr 0, .int (v2 + (1 : Int32))]) (fun _ _ _ k => op_iinc (1 : Int32) dX5_rankCards_80 (by decide) rfl (by decide) k) ?_
    refine Sx.o (fun _ _ _ k => ex_goto 46 dX5_rankCards_83 (by decide) k) ?_
    exact (hg _ _ hb21).1 rfl
theorem Sorter_rankCards_46_T : ∀ s r, fx Sorter_rankCards_46_F Sorter_rankCards_46_M s = some r → Sorter_rankCards_46_P s r := fx_ind Sorter_rankCards_46_M Sorter_rankCards_46_P (fun g hg s r hb => by
  unfold Sorter_rankCards_46_F at hb
  exact ⟨fun q => Sorter_rankCards_46_t hg (ip q hb), trivial⟩)
set_option maxHeartbeats 1000000 in
set_option maxRecDepth 100000 in
theorem Sorter_rankCards_46_r {g : (Nat × Int32 × Nat × am_H) → Option am_H} (hg : ∀ s r, g s = some r → Eqs s.2.2.2 r) {v0 : Nat} {v2 : Int32} {h : am_H} {r : am_H} (hb : Sorter_rankCards_46_b g v0 v2 h = some r) : Eqs h r := by
  unfold Sorter_rankCards_46_b at hb
  have w0 := Eqs.rf h
  obtain ⟨x1, e_x1, hb2⟩ := ob2 hb
  obtain ⟨x3, e_x3, hb4⟩ := ob2 hb2
  by_cases q : x3 ≤ v2
  · have hb5 := ip q hb4
    obtain rfl := Option.some.inj hb5
    exact w0
  · have hb6 := iq q hb4
    obtain ⟨x7, e_x7, hb8⟩ := ob2 hb6
    obtain ⟨x9, e_x9, hb10⟩ := ob2 hb8
    obtain ⟨x11, e_x11, hb12⟩ := ob2 hb10
    obtain ⟨h13, e_h13, hb14⟩ := ob2 hb12
    have w15 := w0.tr (pV_q e_h13)
    obtain ⟨x16, e_x16, hb17⟩ := ob2 hb14
    obtain ⟨x18, e_x18, hb19⟩ := ob2 hb17
    obtain ⟨h20, e_h20, hb21⟩ := ob2 hb19
    have w22 := w15.tr (sI_q e_h20)
    exact w22.tr (hg _ _ hb21)
theorem Sorter_rankCards_46_Q : ∀ s r, fx Sorter_rankCards_46_F Sorter_rankCards_46_M s = some r → Eqs s.2.2.2 r := fx_ind Sorter_rankCards_46_M (fun s r => Eqs s.2.2.2 r) (fun g hg s r hb => by
  unfold Sorter_rankCards_46_F at hb
  by_cases q0 : s.1 = 46
  · exact Sorter_rankCards_46_r hg (ip q0 hb)
  · have hb0 := iq q0 hb
    exact nomatch hb0)
noncomputable def Sorter_rankCards_46 (v0 : Nat) (v2 : Int32) (h : am_H) : Option am_H := fx Sorter_rankCards_46_F Sorter_rankCards_46_M (46, v2, v0, h)
set_option maxHeartbeats 1000000 in
set_option maxRecDepth 100000 in
theorem Sorter_rankCards_46_e (v0 : Nat) (v2 : Int32) (h : am_H) : Sorter_rankCards_46 v0 v2 h = ((gR h 5 v0 2).bind fun x1 => (aL h x1).bind fun x3 => if x3 ≤ v2 then some h else (gI h 5 v0 3).bind fun x7 => (gR h 5 v0 2).bind fun x9 => (aI h 0 x9 v2).bind fun x11 => (pV h 5 v0 3 (.int (x7 + x11))).bind fun h13 => (gR h13 5 v0 2).bind fun x16 => (gI h13 5 v0 3).bind fun x18 => (sI h13 x16 v2 x18).bind fun h20 => Sorter_rankCards_46 v0 (v2 + (1 : Int32)) h20) := (fx_eq Sorter_rankCards_46_M (46, v2, v0, h)).trans (if_pos rfl)
theorem Sorter_rankCards_46_q {v0 : Nat} {v2 : Int32} {h : am_H} {r : am_H} (hb : Sorter_rankCards_46 v0 v2 h = some r) : Eqs h r := Sorter_rankCards_46_Q _ _ hb
theorem Sorter_rankCards_46_s {v0 : Nat} {v2 : Int32} {h : am_H} {r : am_H} (hb : Sorter_rankCards_46 v0 v2 h = some r) : Sx 1 mX5_rankCards 46 [.ref v0, .retAddr 0, .int v2] [] h none r := (Sorter_rankCards_46_T _ _ hb).1 rfl
set_option maxHeartbeats 1000000 in
set_option maxRecDepth 100000 in
noncomputable def Sorter_rankCards_10_b (g : (Nat × Int32 × Nat × Nat × am_H) → Option am_H) (v0 : Nat) (v1 : Nat) (v2 : Int32) (h : am_H) : Option am_H := (gI h 4 v1 1).bind fun x23 => if x23 ≤ v2 then (pV h 5 v0 3 (.int (0 : Int32))).bind fun h27 => Sorter_rankCards_46 v0 (0 : Int32) h27 else (gR h 5 v0 2).bind fun x30 => (gR h 4 v1 0).bind fun x32 => (aI h 0 x32 v2).bind fun x34 => (sI h x30 (x34 &&& (15 : Int32)) (1 : Int32)).bind fun h36 => g (10, (v2 + (1 : Int32)), v0, v1, h36)
set_option maxHeartbeats 1000000 in
set_option maxRecDepth 100000 in
theorem Sorter_rankCards_10_m {g g2 : (Nat × Int32 × Nat × Nat × am_H) → Option am_H} (hg : ∀ s, Le (g s) (g2 s)) (v0 : Nat) (v1 : Nat) (v2 : Int32) (h : am_H) : Le (Sorter_rankCards_10_b g v0 v1 v2 h) (Sorter_rankCards_10_b g2 v0 v1 v2 h) := by unfold Sorter_rankCards_10_b; exact le_b (le_r _) fun x23 => le_i (le_r _) (le_b (le_r _) fun x30 => le_b (le_r _) fun x32 => le_b (le_r _) fun x34 => le_b (le_r _) fun h36 => hg _)
noncomputable def Sorter_rankCards_10_F (g : (Nat × Int32 × Nat × Nat × am_H) → Option am_H) (s : (Nat × Int32 × Nat × Nat × am_H)) : Option am_H := if s.1 = 10 then Sorter_rankCards_10_b g s.2.2.1 s.2.2.2.1 s.2.1 s.2.2.2.2 else none
theorem Sorter_rankCards_10_M : Mn Sorter_rankCards_10_F := fun g g2 hg s => by unfold Sorter_rankCards_10_F; exact le_i (Sorter_rankCards_10_m hg s.2.2.1 s.2.2.2.1 s.2.1 s.2.2.2.2) (le_r _)
def Sorter_rankCards_10_P (s : (Nat × Int32 × Nat × Nat × am_H)) (r : am_H) : Prop := (s.1 = 10 → Sx 1 mX5_rankCards 10 [.ref s.2.2.1, .ref s.2.2.2.1, .int s.2.1] [] s.2.2.2.2 none r) ∧ True
set_option maxHeartbeats 1000000 in
set_option maxRecDepth 100000 in
theorem Sorter_rankCards_10_t {g : (Nat × Int32 × Nat × Nat × am_H) → Option am_H} (hg : ∀ s r, g s = some r → Sorter_rankCards_10_P s r) {v0 : Nat} {v1 : Nat} {v2 : Int32} {h : am_H} {r : am_H} (hb : Sorter_rankCards_10_b g v0 v1 v2 h = some r) : Sx 1 mX5_rankCards 10 [.ref v0, .ref v1, .int v2] [] h none r := by
  unfold Sorter_rankCards_10_b at hb
  refine Sx.o (fun _ _ _ k => ex_iload_n dX5_rankCards_10 rfl k) ?_
  refine Sx.o (fun _ _ _ k => ex_aload_n dX5_rankCards_11 rfl rfl k) ?_
  obtain ⟨x23, e_x23, hb24⟩ := ob2 hb
  refine Sx.o (fun _ _ _ k => op_getI fX5_36 dX5_rankCards_12 e_x23 k) ?_
  refine Sx.b (fun _ _ _ k1 k2 => ex_icmp_ge 39 dX5_rankCards_15 (by decide) k1 k2) (fun q => ?_) (fun q => ?_)
  · have hb25 := ip q hb24
    refine Sx.o (fun _ _ _ k => ex_aload_n dX5_rankCards_39 rfl rfl k) ?_
    refine Sx.o (fun _ _ _ k => op_iconst (0 : Int32) dX5_rankCards_40 (by decide) k) ?_
    obtain ⟨h27, e_h27, hb28⟩ := ob2 hb25
    refine Sx.p (pV_q e_h27) (fun _ _ _ k => op_put pX5_44 dX5_rankCards_41 e_h27 (fun _ => rfl) (fun _ => rfl) k) ?_
    refine Sx.o (fun _ _ _ k => op_iconst (0 : Int32) dX5_rankCards_44 (by decide) k) ?_
    refine Sx.o (L' := [.ref v0, .ref v1, .int (0 : Int32)]) (fun _ _ _ k => ex_istore_n dX5_rankCards_45 (by decide) k) ?_
    refine Sx.fg [true, false, true] ?_
    exact Sorter_rankCards_46_s hb28
  · have hb26 := iq q hb24
    refine Sx.o (fun _ _ _ k => ex_aload_n dX5_rankCards_18 rfl rfl k) ?_
    obtain ⟨x30, e_x30, hb31⟩ := ob2 hb26
    refine Sx.o (fun _ _ _ k => op_getR fX5_15 dX5_rankCards_19 e_x30 k) ?_
    refine Sx.o (fun _ _ _ k => ex_aload_n dX5_rankCards_22 rfl rfl k) ?_
    obtain ⟨x32, e_x32, hb33⟩ := ob2 hb31
    refine Sx.o (fun _ _ _ k => op_getR fX5_41 dX5_rankCards_23 e_x32 k) ?_
    refine Sx.o (fun _ _ _ k => ex_iload_n dX5_rankCards_26 rfl k) ?_
    obtain ⟨x34, e_x34, hb35⟩ := ob2 hb33
    refine Sx.o (fun _ _ _ k => op_iald dX5_rankCards_27 e_x34 k) ?_
    refine Sx.o (fun _ _ _ k => op_bipush (15 : Int32) dX5_rankCards_28 (by decide) k) ?_
    refine Sx.o (fun _ _ _ k => ex_iand dX5_rankCards_30 k) ?_
    refine Sx.o (fun _ _ _ k => op_iconst (1 : Int32) dX5_rankCards_31 (by decide) k) ?_
    obtain ⟨h36, e_h36, hb37⟩ := ob2 hb35
    refine Sx.p (sI_q e_h36) (fun _ _ _ k => op_iast dX5_rankCards_32 e_h36 k) ?_
    refine Sx.o (L' := [.ref v0, .ref v1, .int (v2 + (1 : Int32))]) (fun _ _ _ k => op_iinc (1 : Int32) dX5_rankCards_33 (by decide) rfl (by decide) k) ?_
    refine Sx.o (fun _ _ _ k => ex_goto 10 dX5_rankCards_36 (by decide) k) ?_
    exact (hg _ _ hb37).1 rfl
theorem Sorter_rankCards_10_T : ∀ s r, fx Sorter_rankCards_10_F Sorter_rankCards_10_M s = some r → Sorter_rankCards_10_P s r := fx_ind Sorter_rankCards_10_M Sorter_rankCards_10_P (fun g hg s r hb => by
  unfold Sorter_rankCards_10_F at hb
  exact ⟨fun q => Sorter_rankCards_10_t hg (ip q hb), trivial⟩)
set_option maxHeartbeats 1000000 in
set_option maxRecDepth 100000 in
theorem Sorter_rankCards_10_r {g : (Nat × Int32 × Nat × Nat × am_H) → Option am_H} (hg : ∀ s r, g s = some r → Eqs s.2.2.2.2 r) {v0 : Nat} {v1 : Nat} {v2 : Int32} {h : am_H} {r : am_H} (hb : Sorter_rankCards_10_b g v0 v1 v2 h = some r) : Eqs h r := by
  unfold Sorter_rankCards_10_b at hb
  have w0 := Eqs.rf h
  obtain ⟨x23, e_x23, hb24⟩ := ob2 hb
  by_cases q : x23 ≤ v2
  · have hb25 := ip q hb24
    obtain ⟨h27, e_h27, hb28⟩ := ob2 hb25
    have w29 := w0.tr (pV_q e_h27)
    exact w29.tr (Sorter_rankCards_46_q hb28)
  · have hb26 := iq q hb24
    obtain ⟨x30, e_x30, hb31⟩ := ob2 hb26
    obtain ⟨x32, e_x32, hb33⟩ := ob2 hb31
    obtain ⟨x34, e_x34, hb35⟩ := ob2 hb33
    obtain ⟨h36, e_h36, hb37⟩ := ob2 hb35
    have w38 := w0.tr (sI_q e_h36)
    exact w38.tr (hg _ _ hb37)
theorem Sorter_rankCards_10_Q : ∀ s r, fx Sorter_rankCards_10_F Sorter_rankCards_10_M s = some r → Eqs s.2.2.2.2 r := fx_ind Sorter_rankCards_10_M (fun s r => Eqs s.2.2.2.2 r) (fun g hg s r hb => by
  unfold Sorter_rankCards_10_F at hb
  by_cases q0 : s.1 = 10
  · exact Sorter_rankCards_10_r hg (ip q0 hb)
  · have hb0 := iq q0 hb
    exact nomatch hb0)
noncomputable def Sorter_rankCards_10 (v0 : Nat) (v1 : Nat) (v2 : Int32) (h : am_H) : Option am_H := fx Sorter_rankCards_10_F Sorter_rankCards_10_M (10, v2, v0, v1, h)
set_option maxHeartbeats 1000000 in
set_option maxRecDepth 100000 in
theorem Sorter_rankCards_10_e (v0 : Nat) (v1 : Nat) (v2 : Int32) (h : am_H) : Sorter_rankCards_10 v0 v1 v2 h = ((gI h 4 v1 1).bind fun x23 => if x23 ≤ v2 then (pV h 5 v0 3 (.int (0 : Int32))).bind fun h27 => Sorter_rankCards_46 v0 (0 : Int32) h27 else (gR h 5 v0 2).bind fun x30 => (gR h 4 v1 0).bind fun x32 => (aI h 0 x32 v2).bind fun x34 => (sI h x30 (x34 &&& (15 : Int32)) (1 : Int32)).bind fun h36 => Sorter_rankCards_10 v0 v1 (v2 + (1 : Int32)) h36) := (fx_eq Sorter_rankCards_10_M (10, v2, v0, v1, h)).trans (if_pos rfl)
theorem Sorter_rankCards_10_q {v0 : Nat} {v1 : Nat} {v2 : Int32} {h : am_H} {r : am_H} (hb : Sorter_rankCards_10 v0 v1 v2 h = some r) : Eqs h r := Sorter_rankCards_10_Q _ _ hb
theorem Sorter_rankCards_10_s {v0 : Nat} {v1 : Nat} {v2 : Int32} {h : am_H} {r : am_H} (hb : Sorter_rankCards_10 v0 v1 v2 h = some r) : Sx 1 mX5_rankCards 10 [.ref v0, .ref v1, .int v2] [] h none r := (Sorter_rankCards_10_T _ _ hb).1 rfl
set_option maxHeartbeats 1000000 in
set_option maxRecDepth 100000 in
noncomputable def Sorter_rankCards (v0 : Nat) (v1 : Nat) (h : am_H) : Option am_H := if isO h 5 v0 = true then (gR h 5 v0 2).bind fun x39 => (Arr_fill x39 (0 : Int32) h).bind fun h41 => Sorter_rankCards_10 v0 v1 (0 : Int32) h41 else none
set_option maxHeartbeats 1000000 in
set_option maxRecDepth 100000 in
theorem Sorter_rankCards_s {v0 : Nat} {v1 : Nat} {h : am_H} {r : am_H} (hb : Sorter_rankCards v0 v1 h = some r) : Sx 1 mX5_rankCards 0 (am_en [.ref v0, .ref v1] 3) [] h none r := by
  unfold Sorter_rankCards at hb
  have hb := (iz hb).2
  show Sx 1 mX5_rankCards 0 [.ref v0, .ref v1, .retAddr 0] [] h none r
  refine Sx.o (fun _ _ _ k => ex_aload_n dX5_rankCards_0 rfl rfl k) ?_
  obtain ⟨x39, e_x39, hb40⟩ := ob2 hb
  refine Sx.o (fun _ _ _ k => op_getR fX5_15 dX5_rankCards_1 e_x39 k) ?_
  refine Sx.o (fun _ _ _ k => op_iconst (0 : Int32) dX5_rankCards_4 (by decide) k) ?_
  obtain ⟨h41, e_h41, hb42⟩ := ob2 hb40
  refine sx_callS (dc := 0) (as := [.ref x39, .int (0 : Int32)]) (stq := []) (by omega) dX5_rankCards_5 MJ7_fill_53178 kX5_30 tJ7_fill_53178 rfl rfl (Nat.le_of_ble_eq_true rfl) (Nat.le_of_ble_eq_true rfl) (Arr_fill_s e_h41) rfl ?_
  refine Sx.o (fun _ _ _ k => op_iconst (0 : Int32) dX5_rankCards_8 (by decide) k) ?_
  refine Sx.o (L' := [.ref v0, .ref v1, .int (0 : Int32)]) (fun _ _ _ k => ex_istore_n dX5_rankCards_9 (by decide) k) ?_
  exact Sorter_rankCards_10_s hb42
set_option maxHeartbeats 1000000 in
set_option maxRecDepth 100000 in
theorem Sorter_rankCards_q {v0 : Nat} {v1 : Nat} {h : am_H} {r : am_H} (hb : Sorter_rankCards v0 v1 h = some r) : Eqs h r := by
  unfold Sorter_rankCards at hb
  have hb := (iz hb).2
  have w0 := Eqs.rf h
  obtain ⟨x39, e_x39, hb40⟩ := ob2 hb
  obtain ⟨h41, e_h41, hb42⟩ := ob2 hb40
  have w43 := w0.tr (Arr_fill_q e_h41)
  exact w43.tr (Sorter_rankCards_10_q hb42)
theorem Sorter_rankCards_o {v0 : Nat} {v1 : Nat} {h : am_H} {r : am_H} (hb : Sorter_rankCards v0 v1 h = some r) : isO h 5 v0 = true := by
  unfold Sorter_rankCards at hb
  exact (iz hb).1
set_option maxHeartbeats 1000000 in
set_option maxRecDepth 100000 in
noncomputable def Sorter_atLeast_7_b (g : (Nat × Int32 × Int32 × Int32 × Int32 × Int32 × Nat × Nat × am_H) → Option Int32) (v0 : Nat) (v1 : Nat) (v2 : Int32) (v3 : Int32) (v4 : Int32) (h : am_H) : Option Int32 := (gI h 4 v1 1).bind fun x1 => if x1 ≤ v4 then (gI h 5 v0 3).bind fun x5 => some (if v2 < (v3 - x5) + (1 : Int32) then (v3 - x5) + (1 : Int32) else v2) else (gR h 5 v0 2).bind fun x7 => (gR h 4 v1 0).bind fun x9 => (aI h 0 x9 v4).bind fun x11 => (aI h 0 x7 (x11 &&& (15 : Int32))).bind fun x13 => (gI h 4 v1 1).bind fun x15 => if x15 ≤ (v4 + (1 : Int32)) then (gI h 5 v0 3).bind fun x19 => g (68, v2, v3, v4, x13, x19, v0, v1, h) else (gR h 5 v0 2).bind fun x21 => (gR h 4 v1 0).bind fun x23 => (aI h 0 x23 (v4 + (1 : Int32))).bind fun x25 => (aI h 0 x21 (x25 &&& (15 : Int32))).bind fun x27 => g (68, v2, v3, v4, x13, x27, v0, v1, h)
set_option maxHeartbeats 1000000 in
set_option maxRecDepth 100000 in
theorem Sorter_atLeast_7_m {g g2 : (Nat × Int32 × Int32 × Int32 × Int32 × Int32 × Nat × Nat × am_H) → Option Int32} (hg : ∀ s, Le (g s) (g2 s)) (v0 : Nat) (v1 : Nat) (v2 : Int32) (v3 : Int32) (v4 : Int32) (h : am_H) : Le (Sorter_atLeast_7_b g v0 v1 v2 v3 v4 h) (Sorter_atLeast_7_b g2 v0 v1 v2 v3 v4 h) := by unfold Sorter_atLeast_7_b; exact le_b (le_r _) fun x1 => le_i (le_r _) (le_b (le_r _) fun x7 => le_b (le_r _) fun x9 => le_b (le_r _) fun x11 => le_b (le_r _) fun x13 => le_b (le_r _) fun x15 => le_i (le_b (le_r _) fun x19 => hg _) (le_b (le_r _) fun x21 => le_b (le_r _) fun x23 => le_b (le_r _) fun x25 => le_b (le_r _) fun x27 => hg _))
set_option maxHeartbeats 1000000 in
set_option maxRecDepth 100000 in
noncomputable def Sorter_atLeast_68_b (g : (Nat × Int32 × Int32 × Int32 × Int32 × Int32 × Nat × Nat × am_H) → Option Int32) (v0 : Nat) (v1 : Nat) (v2 : Int32) (v3 : Int32) (v4 : Int32) (v5 : Int32) (s0 : Int32) (h : am_H) : Option Int32 := if (1 : Int32) < (if (0 : Int32) ≤ v5 - s0 then v5 - s0 else 0 - (v5 - s0)) then g (100, v2, v3, v4, v5, s0, v0, v1, h) else (gI h 4 v1 1).bind fun x31 => if (v4 + (1 : Int32)) = x31 then if v5 = s0 then g (103, v2, v3, v4, v5, s0, v0, v1, h) else g (100, v2, v3, v4, v5, s0, v0, v1, h) else g (103, v2, v3, v4, v5, s0, v0, v1, h)
set_option maxHeartbeats 1000000 in
set_option maxRecDepth 100000 in
theorem Sorter_atLeast_68_m {g g2 : (Nat × Int32 × Int32 × Int32 × Int32 × Int32 × Nat × Nat × am_H) → Option Int32} (hg : ∀ s, Le (g s) (g2 s)) (v0 : Nat) (v1 : Nat) (v2 : Int32) (v3 : Int32) (v4 : Int32) (v5 : Int32) (s0 : Int32) (h : am_H) : Le (Sorter_atLeast_68_b g v0 v1 v2 v3 v4 v5 s0 h) (Sorter_atLeast_68_b g2 v0 v1 v2 v3 v4 v5 s0 h) := by unfold Sorter_atLeast_68_b; exact le_i (hg _) (le_b (le_r _) fun x31 => le_i (le_i (hg _) (hg _)) (hg _))
set_option maxHeartbeats 1000000 in
set_option maxRecDepth 100000 in
noncomputable def Sorter_atLeast_100_b (g : (Nat × Int32 × Int32 × Int32 × Int32 × Int32 × Nat × Nat × am_H) → Option Int32) (v0 : Nat) (v1 : Nat) (v2 : Int32) (v3 : Int32) (v4 : Int32) (v5 : Int32) (v6 : Int32) (h : am_H) : Option Int32 := g (103, (v2 + (1 : Int32)), v3, v4, v5, v6, v0, v1, h)
set_option maxHeartbeats 1000000 in
set_option maxRecDepth 100000 in
theorem Sorter_atLeast_100_m {g g2 : (Nat × Int32 × Int32 × Int32 × Int32 × Int32 × Nat × Nat × am_H) → Option Int32} (hg : ∀ s, Le (g s) (g2 s)) (v0 : Nat) (v1 : Nat) (v2 : Int32) (v3 : Int32) (v4 : Int32) (v5 : Int32) (v6 : Int32) (h : am_H) : Le (Sorter_atLeast_100_b g v0 v1 v2 v3 v4 v5 v6 h) (Sorter_atLeast_100_b g2 v0 v1 v2 v3 v4 v5 v6 h) := by unfold Sorter_atLeast_100_b; exact hg _
set_option maxHeartbeats 1000000 in
set_option maxRecDepth 100000 in
noncomputable def Sorter_atLeast_103_b (g : (Nat × Int32 × Int32 × Int32 × Int32 × Int32 × Nat × Nat × am_H) → Option Int32) (v0 : Nat) (v1 : Nat) (v2 : Int32) (v3 : Int32) (v4 : Int32) (v5 : Int32) (v6 : Int32) (h : am_H) : Option Int32 := (gI h 4 v1 1).bind fun x37 => if x37 ≤ (v4 + (1 : Int32)) then g (124, v2, v3, v4, 0, 0, v0, v1, h) else if v5 = v6 then g (124, v2, v3, v4, 0, 0, v0, v1, h) else g (124, v2, (v3 + (1 : Int32)), v4, 0, 0, v0, v1, h)
set_option maxHeartbeats 1000000 in
set_option maxRecDepth 100000 in
theorem Sorter_atLeast_103_m {g g2 : (Nat × Int32 × Int32 × Int32 × Int32 × Int32 × Nat × Nat × am_H) → Option Int32} (hg : ∀ s, Le (g s) (g2 s)) (v0 : Nat) (v1 : Nat) (v2 : Int32) (v3 : Int32) (v4 : Int32) (v5 : Int32) (v6 : Int32) (h : am_H) : Le (Sorter_atLeast_103_b g v0 v1 v2 v3 v4 v5 v6 h) (Sorter_atLeast_103_b g2 v0 v1 v2 v3 v4 v5 v6 h) := by unfold Sorter_atLeast_103_b; exact le_b (le_r _) fun x37 => le_i (hg _) (le_i (hg _) (hg _))
set_option maxHeartbeats 1000000 in
set_option maxRecDepth 100000 in
noncomputable def Sorter_atLeast_124_b (g : (Nat × Int32 × Int32 × Int32 × Int32 × Int32 × Nat × Nat × am_H) → Option Int32) (v0 : Nat) (v1 : Nat) (v2 : Int32) (v3 : Int32) (v4 : Int32) (h : am_H) : Option Int32 := g (7, v2, v3, (v4 + (1 : Int32)), 0, 0, v0, v1, h)
set_option maxHeartbeats 1000000 in
set_option maxRecDepth 100000 in
theorem Sorter_atLeast_124_m {g g2 : (Nat × Int32 × Int32 × Int32 × Int32 × Int32 × Nat × Nat × am_H) → Option Int32} (hg : ∀ s, Le (g s) (g2 s)) (v0 : Nat) (v1 : Nat) (v2 : Int32) (v3 : Int32) (v4 : Int32) (h : am_H) : Le (Sorter_atLeast_124_b g v0 v1 v2 v3 v4 h) (Sorter_atLeast_124_b g2 v0 v1 v2 v3 v4 h) := by unfold Sorter_atLeast_124_b; exact hg _
noncomputable def Sorter_atLeast_7_F (g : (Nat × Int32 × Int32 × Int32 × Int32 × Int32 × Nat × Nat × am_H) → Option Int32) (s : (Nat × Int32 × Int32 × Int32 × Int32 × Int32 × Nat × Nat × am_H)) : Option Int32 := if s.1 = 7 then Sorter_atLeast_7_b g s.2.2.2.2.2.2.1 s.2.2.2.2.2.2.2.1 s.2.1 s.2.2.1 s.2.2.2.1 s.2.2.2.2.2.2.2.2 else if s.1 = 68 then Sorter_atLeast_68_b g s.2.2.2.2.2.2.1 s.2.2.2.2.2.2.2.1 s.2.1 s.2.2.1 s.2.2.2.1 s.2.2.2.2.1 s.2.2.2.2.2.1 s.2.2.2.2.2.2.2.2 else if s.1 = 100 then Sorter_atLeast_100_b g s.2.2.2.2.2.2.1 s.2.2.2.2.2.2.2.1 s.2.1 s.2.2.1 s.2.2.2.1 s.2.2.2.2.1 s.2.2.2.2.2.1 s.2.2.2.2.2.2.2.2 else if s.1 = 103 then Sorter_atLeast_103_b g s.2.2.2.2.2.2.1 s.2.2.2.2.2.2.2.1 s.2.1 s.2.2.1 s.2.2.2.1 s.2.2.2.2.1 s.2.2.2.2.2.1 s.2.2.2.2.2.2.2.2 else if s.1 = 124 then Sorter_atLeast_124_b g s.2.2.2.2.2.2.1 s.2.2.2.2.2.2.2.1 s.2.1 s.2.2.1 s.2.2.2.1 s.2.2.2.2.2.2.2.2 else none
theorem Sorter_atLeast_7_M : Mn Sorter_atLeast_7_F := fun g g2 hg s => by unfold Sorter_atLeast_7_F; exact le_i (Sorter_atLeast_7_m hg s.2.2.2.2.2.2.1 s.2.2.2.2.2.2.2.1 s.2.1 s.2.2.1 s.2.2.2.1 s.2.2.2.2.2.2.2.2) (le_i (Sorter_atLeast_68_m hg s.2.2.2.2.2.2.1 s.2.2.2.2.2.2.2.1 s.2.1 s.2.2.1 s.2.2.2.1 s.2.2.2.2.1 s.2.2.2.2.2.1 s.2.2.2.2.2.2.2.2) (le_i (Sorter_atLeast_100_m hg s.2.2.2.2.2.2.1 s.2.2.2.2.2.2.2.1 s.2.1 s.2.2.1 s.2.2.2.1 s.2.2.2.2.1 s.2.2.2.2.2.1 s.2.2.2.2.2.2.2.2) (le_i (Sorter_atLeast_103_m hg s.2.2.2.2.2.2.1 s.2.2.2.2.2.2.2.1 s.2.1 s.2.2.1 s.2.2.2.1 s.2.2.2.2.1 s.2.2.2.2.2.1 s.2.2.2.2.2.2.2.2) (le_i (Sorter_atLeast_124_m hg s.2.2.2.2.2.2.1 s.2.2.2.2.2.2.2.1 s.2.1 s.2.2.1 s.2.2.2.1 s.2.2.2.2.2.2.2.2) (le_r _)))))
def Sorter_atLeast_7_P (s : (Nat × Int32 × Int32 × Int32 × Int32 × Int32 × Nat × Nat × am_H)) (r : Int32) : Prop := (s.1 = 7 → Sx 1 mX5_atLeast 7 [.ref s.2.2.2.2.2.2.1, .ref s.2.2.2.2.2.2.2.1, .int s.2.1, .int s.2.2.1, .int s.2.2.2.1, .retAddr 0, .retAddr 0] [] s.2.2.2.2.2.2.2.2 (some (.int r)) s.2.2.2.2.2.2.2.2) ∧ (s.1 = 68 → Sx 1 mX5_atLeast 68 [.ref s.2.2.2.2.2.2.1, .ref s.2.2.2.2.2.2.2.1, .int s.2.1, .int s.2.2.1, .int s.2.2.2.1, .int s.2.2.2.2.1, .retAddr 0] [.int s.2.2.2.2.2.1] s.2.2.2.2.2.2.2.2 (some (.int r)) s.2.2.2.2.2.2.2.2) ∧ (s.1 = 100 → Sx 1 mX5_atLeast 100 [.ref s.2.2.2.2.2.2.1, .ref s.2.2.2.2.2.2.2.1, .int s.2.1, .int s.2.2.1, .int s.2.2.2.1, .int s.2.2.2.2.1, .int s.2.2.2.2.2.1] [] s.2.2.2.2.2.2.2.2 (some (.int r)) s.2.2.2.2.2.2.2.2) ∧ (s.1 = 103 → Sx 1 mX5_atLeast 103 [.ref s.2.2.2.2.2.2.1, .ref s.2.2.2.2.2.2.2.1, .int s.2.1, .int s.2.2.1, .int s.2.2.2.1, .int s.2.2.2.2.1, .int s.2.2.2.2.2.1] [] s.2.2.2.2.2.2.2.2 (some (.int r)) s.2.2.2.2.2.2.2.2) ∧ (s.1 = 124 → Sx 1 mX5_atLeast 124 [.ref s.2.2.2.2.2.2.1, .ref s.2.2.2.2.2.2.2.1, .int s.2.1, .int s.2.2.1, .int s.2.2.2.1, .retAddr 0, .retAddr 0] [] s.2.2.2.2.2.2.2.2 (some (.int r)) s.2.2.2.2.2.2.2.2) ∧ True
set_option maxHeartbeats 1000000 in
set_option maxRecDepth 100000 in
theorem Sorter_atLeast_7_t {g : (Nat × Int32 × Int32 × Int32 × Int32 × Int32 × Nat × Nat × am_H) → Option Int32} (hg : ∀ s r, g s = some r → Sorter_atLeast_7_P s r) {v0 : Nat} {v1 : Nat} {v2 : Int32} {v3 : Int32} {v4 : Int32} {h : am_H} {r : Int32} (hb : Sorter_atLeast_7_b g v0 v1 v2 v3 v4 h = some r) : Sx 1 mX5_atLeast 7 [.ref v0, .ref v1, .int v2, .int v3, .int v4, .retAddr 0, .retAddr 0] [] h (some (.int r)) h := by
  unfold Sorter_atLeast_7_b at hb
  refine Sx.o (fun _ _ _ k => ex_iload dX5_atLeast_7 rfl k) ?_
  refine Sx.o (fun _ _ _ k => ex_aload_n dX5_atLeast_9 rfl rfl k) ?_
  obtain ⟨x1, e_x1, hb2⟩ := ob2 hb
  refine Sx.o (fun _ _ _ k => op_getI fX5_36 dX5_atLeast_10 e_x1 k) ?_
  refine Sx.b (fun _ _ _ k1 k2 => ex_icmp_ge 130 dX5_atLeast_13 (by decide) k1 k2) (fun q => ?_) (fun q => ?_)
  · have hb3 := ip q hb2
    refine Sx.o (fun _ _ _ k => ex_iload_n dX5_atLeast_130 rfl k) ?_
    refine Sx.o (fun _ _ _ k => ex_iload_n dX5_atLeast_131 rfl k) ?_
    refine Sx.o (fun _ _ _ k => ex_aload_n dX5_atLeast_132 rfl rfl k) ?_
    obtain ⟨x5, e_x5, hb6⟩ := ob2 hb3
    refine Sx.o (fun _ _ _ k => op_getI fX5_44 dX5_atLeast_133 e_x5 k) ?_
    refine Sx.o (fun _ _ _ k => ex_isub dX5_atLeast_136 k) ?_
    refine Sx.o (fun _ _ _ k => op_iconst (1 : Int32) dX5_atLeast_137 (by decide) k) ?_
    refine Sx.o (fun _ _ _ k => ex_iadd dX5_atLeast_138 k) ?_
    refine Sx.o (fun _ _ _ k => op_mmax (by omega) dX5_atLeast_139 kX5_65 (Nat.le_of_ble_eq_true rfl) k) ?_
    obtain rfl := Option.some.inj hb6
    exact Sx.r (fun _ _ _ k => ex_iret rfl dX5_atLeast_142 k)
  · have hb4 := iq q hb2
    refine Sx.o (fun _ _ _ k => ex_aload_n dX5_atLeast_16 rfl rfl k) ?_
    obtain ⟨x7, e_x7, hb8⟩ := ob2 hb4
    refine Sx.o (fun _ _ _ k => op_getR fX5_15 dX5_atLeast_17 e_x7 k) ?_
    refine Sx.o (fun _ _ _ k => ex_aload_n dX5_atLeast_20 rfl rfl k) ?_
    obtain ⟨x9, e_x9, hb10⟩ := ob2 hb8
    refine Sx.o (fun _ _ _ k => op_getR fX5_41 dX5_atLeast_21 e_x9 k) ?_
    refine Sx.o (fun _ _ _ k => ex_iload dX5_atLeast_24 rfl k) ?_
    obtain ⟨x11, e_x11, hb12⟩ := ob2 hb10
    refine Sx.o (fun _ _ _ k => op_iald dX5_atLeast_26 e_x11 k) ?_
    refine Sx.o (fun _ _ _ k => op_bipush (15 : Int32) dX5_atLeast_27 (by decide) k) ?_
    refine Sx.o (fun _ _ _ k => ex_iand dX5_atLeast_29 k) ?_
    obtain ⟨x13, e_x13, hb14⟩ := ob2 hb12
    refine Sx.o (fun _ _ _ k => op_iald dX5_atLeast_30 e_x13 k) ?_
    refine Sx.o (L' := [.ref v0, .ref v1, .int v2, .int v3, .int v4, .int x13, .retAddr 0]) (fun _ _ _ k => ex_istore dX5_atLeast_31 (by decide) k) ?_
    refine Sx.o (fun _ _ _ k => ex_iload dX5_atLeast_33 rfl k) ?_
    refine Sx.o (fun _ _ _ k => op_iconst (1 : Int32) dX5_atLeast_35 (by decide) k) ?_
    refine Sx.o (fun _ _ _ k => ex_iadd dX5_atLeast_36 k) ?_
    refine Sx.o (fun _ _ _ k => ex_aload_n dX5_atLeast_37 rfl rfl k) ?_
    obtain ⟨x15, e_x15, hb16⟩ := ob2 hb14
    refine Sx.o (fun _ _ _ k => op_getI fX5_36 dX5_atLeast_38 e_x15 k) ?_
    refine Sx.b (fun _ _ _ k1 k2 => ex_icmp_ge 64 dX5_atLeast_41 (by decide) k1 k2) (fun q => ?_) (fun q => ?_)
    · have hb17 := ip q hb16
      refine Sx.o (fun _ _ _ k => ex_aload_n dX5_atLeast_64 rfl rfl k) ?_
      obtain ⟨x19, e_x19, hb20⟩ := ob2 hb17
      refine Sx.o (fun _ _ _ k => op_getI fX5_44 dX5_atLeast_65 e_x19 k) ?_
      exact (hg _ _ hb20).2.1 rfl
    · have hb18 := iq q hb16
      refine Sx.o (fun _ _ _ k => ex_aload_n dX5_atLeast_44 rfl rfl k) ?_
      obtain ⟨x21, e_x21, hb22⟩ := ob2 hb18
      refine Sx.o (fun _ _ _ k => op_getR fX5_15 dX5_atLeast_45 e_x21 k) ?_
      refine Sx.o (fun _ _ _ k => ex_aload_n dX5_atLeast_48 rfl rfl k) ?_
      obtain ⟨x23, e_x23, hb24⟩ := ob2 hb22
      refine Sx.o (fun _ _ _ k => op_getR fX5_41 dX5_atLeast_49 e_x23 k) ?_
      refine Sx.o (fun _ _ _ k => ex_iload dX5_atLeast_52 rfl k) ?_
      refine Sx.o (fun _ _ _ k => op_iconst (1 : Int32) dX5_atLeast_54 (by decide) k) ?_
      refine Sx.o (fun _ _ _ k => ex_iadd dX5_atLeast_55 k) ?_
      obtain ⟨x25, e_x25, hb26⟩ := ob2 hb24
      refine Sx.o (fun _ _ _ k => op_iald dX5_atLeast_56 e_x25 k) ?_
      refine Sx.o (fun _ _ _ k => op_bipush (15 : Int32) dX5_atLeast_57 (by decide) k) ?_
      refine Sx.o (fun _ _ _ k => ex_iand dX5_atLeast_59 k) ?_
      obtain ⟨x27, e_x27, hb28⟩ := ob2 hb26
      refine Sx.o (fun _ _ _ k => op_iald dX5_atLeast_60 e_x27 k) ?_
      refine Sx.o (fun _ _ _ k => ex_goto 68 dX5_atLeast_61 (by decide) k) ?_
      exact (hg _ _ hb28).2.1 rfl
set_option maxHeartbeats 1000000 in
set_option maxRecDepth 100000 in
theorem Sorter_atLeast_68_t {g : (Nat × Int32 × Int32 × Int32 × Int32 × Int32 × Nat × Nat × am_H) → Option Int32} (hg : ∀ s r, g s = some r → Sorter_atLeast_7_P s r) {v0 : Nat} {v1 : Nat} {v2 : Int32} {v3 : Int32} {v4 : Int32} {v5 : Int32} {s0 : Int32} {h : am_H} {r : Int32} (hb : Sorter_atLeast_68_b g v0 v1 v2 v3 v4 v5 s0 h = some r) : Sx 1 mX5_atLeast 68 [.ref v0, .ref v1, .int v2, .int v3, .int v4, .int v5, .retAddr 0] [.int s0] h (some (.int r)) h := by
  unfold Sorter_atLeast_68_b at hb
  refine Sx.o (L' := [.ref v0, .ref v1, .int v2, .int v3, .int v4, .int v5, .int s0]) (fun _ _ _ k => ex_istore dX5_atLeast_68 (by decide) k) ?_
  refine Sx.o (fun _ _ _ k => ex_iload dX5_atLeast_70 rfl k) ?_
  refine Sx.o (fun _ _ _ k => ex_iload dX5_atLeast_72 rfl k) ?_
  refine Sx.o (fun _ _ _ k => ex_isub dX5_atLeast_74 k) ?_
  refine Sx.o (fun _ _ _ k => op_mabs (by omega) dX5_atLeast_75 kX5_59 (Nat.le_of_ble_eq_true rfl) k) ?_
  refine Sx.o (fun _ _ _ k => op_iconst (1 : Int32) dX5_atLeast_78 (by decide) k) ?_
  refine Sx.b (fun _ _ _ k1 k2 => ex_icmp_gt 100 dX5_atLeast_79 (by decide) k1 k2) (fun q => ?_) (fun q => ?_)
  · have hb29 := ip q hb
    exact (hg _ _ hb29).2.2.1 rfl
  · have hb30 := iq q hb
    refine Sx.o (fun _ _ _ k => ex_iload dX5_atLeast_82 rfl k) ?_
    refine Sx.o (fun _ _ _ k => op_iconst (1 : Int32) dX5_atLeast_84 (by decide) k) ?_
    refine Sx.o (fun _ _ _ k => ex_iadd dX5_atLeast_85 k) ?_
    refine Sx.o (fun _ _ _ k => ex_aload_n dX5_atLeast_86 rfl rfl k) ?_
    obtain ⟨x31, e_x31, hb32⟩ := ob2 hb30
    refine Sx.o (fun _ _ _ k => op_getI fX5_36 dX5_atLeast_87 e_x31 k) ?_
    refine Sx.bn (fun _ _ _ k1 k2 => ex_icmp_ne 103 dX5_atLeast_90 (by decide) k1 k2) (fun q => ?_) (fun q => ?_)
    · have hb33 := iq q hb32
      exact (hg _ _ hb33).2.2.2.1 rfl
    · have hb34 := ip q hb32
      refine Sx.o (fun _ _ _ k => ex_iload dX5_atLeast_93 rfl k) ?_
      refine Sx.o (fun _ _ _ k => ex_iload dX5_atLeast_95 rfl k) ?_
      refine Sx.b (fun _ _ _ k1 k2 => ex_icmp_eq 103 dX5_atLeast_97 (by decide) k1 k2) (fun q => ?_) (fun q => ?_)
      · have hb35 := ip q hb34
        exact (hg _ _ hb35).2.2.2.1 rfl
      · have hb36 := iq q hb34
        exact (hg _ _ hb36).2.2.1 rfl
set_option maxHeartbeats 1000000 in
set_option maxRecDepth 100000 in
theorem Sorter_atLeast_100_t {g : (Nat × Int32 × Int32 × Int32 × Int32 × Int32 × Nat × Nat × am_H) → Option Int32} (hg : ∀ s r, g s = some r → Sorter_atLeast_7_P s r) {v0 : Nat} {v1 : Nat} {v2 : Int32} {v3 : Int32} {v4 : Int32} {v5 : Int32} {v6 : Int32} {h : am_H} {r : Int32} (hb : Sorter_atLeast_100_b g v0 v1 v2 v3 v4 v5 v6 h = some r) : Sx 1 mX5_atLeast 100 [.ref v0, .ref v1, .int v2, .int v3, .int v4, .int v5, .int v6] [] h (some (.int r)) h := by
  unfold Sorter_atLeast_100_b at hb
  refine Sx.o (L' := [.ref v0, .ref v1, .int (v2 + (1 : Int32)), .int v3, .int v4, .int v5, .int v6]) (fun _ _ _ k => op_iinc (1 : Int32) dX5_atLeast_100 (by decide) rfl (by decide) k) ?_
  exact (hg _ _ hb).2.2.2.1 rfl
set_option maxHeartbeats 1000000 in
set_option maxRecDepth 100000 in
theorem Sorter_atLeast_103_t {g : (Nat × Int32 × Int32 × Int32 × Int32 × Int32 × Nat × Nat × am_H) → Option Int32} (hg : ∀ s r, g s = some r → Sorter_atLeast_7_P s r) {v0 : Nat} {v1 : Nat} {v2 : Int32} {v3 : Int32} {v4 : Int32} {v5 : Int32} {v6 : Int32} {h : am_H} {r : Int32} (hb : Sorter_atLeast_103_b g v0 v1 v2 v3 v4 v5 v6 h = some r) : Sx 1 mX5_atLeast 103 [.ref v0, .ref v1, .int v2, .int v3, .int v4, .int v5, .int v6] [] h (some (.int r)) h := by
  unfold Sorter_atLeast_103_b at hb
  refine Sx.o (fun _ _ _ k => ex_iload dX5_atLeast_103 rfl k) ?_
  refine Sx.o (fun _ _ _ k => op_iconst (1 : Int32) dX5_atLeast_105 (by decide) k) ?_
  refine Sx.o (fun _ _ _ k => ex_iadd dX5_atLeast_106 k) ?_
  refine Sx.o (fun _ _ _ k => ex_aload_n dX5_atLeast_107 rfl rfl k) ?_
  obtain ⟨x37, e_x37, hb38⟩ := ob2 hb
  refine Sx.o (fun _ _ _ k => op_getI fX5_36 dX5_atLeast_108 e_x37 k) ?_
  refine Sx.b (fun _ _ _ k1 k2 => ex_icmp_ge 124 dX5_atLeast_111 (by decide) k1 k2) (fun q => ?_) (fun q => ?_)
  · have hb39 := ip q hb38
    refine Sx.fg [true, true, true, true, true, false, false] ?_
    exact (hg _ _ hb39).2.2.2.2.1 rfl
  · have hb40 := iq q hb38
    refine Sx.o (fun _ _ _ k => ex_iload dX5_atLeast_114 rfl k) ?_
    refine Sx.o (fun _ _ _ k => ex_iload dX5_atLeast_116 rfl k) ?_
    refine Sx.b (fun _ _ _ k1 k2 => ex_icmp_eq 124 dX5_atLeast_118 (by decide) k1 k2) (fun q => ?_) (fun q => ?_)
    · have hb41 := ip q hb40
      refine Sx.fg [true, true, true, true, true, false, false] ?_
      exact (hg _ _ hb41).2.2.2.2.1 rfl
    · have hb42 := iq q hb40
      refine Sx.o (L' := [.ref v0, .ref v1, .int v2, .int (v3 + (1 : Int32)), .int v4, .int v5, .int v6]) (fun _ _ _ k => op_iinc (1 : Int32) dX5_atLeast_121 (by decide) rfl (by decide) k) ?_
      refine Sx.fg [true, true, true, true, true, false, false] ?_
      exact (hg _ _ hb42).2.2.2.2.1 rfl
set_option maxHeartbeats 1000000 in
set_option maxRecDepth 100000 in
theorem Sorter_atLeast_124_t {g : (Nat × Int32 × Int32 × Int32 × Int32 × Int32 × Nat × Nat × am_H) → Option Int32} (hg : ∀ s r, g s = some r → Sorter_atLeast_7_P s r) {v0 : Nat} {v1 : Nat} {v2 : Int32} {v3 : Int32} {v4 : Int32} {h : am_H} {r : Int32} (hb : Sorter_atLeast_124_b g v0 v1 v2 v3 v4 h = some r) : Sx 1 mX5_atLeast 124 [.ref v0, .ref v1, .int v2, .int v3, .int v4, .retAddr 0, .retAddr 0] [] h (some (.int r)) h := by
  unfold Sorter_atLeast_124_b at hb
  refine Sx.o (L' := [.ref v0, .ref v1, .int v2, .int v3, .int (v4 + (1 : Int32)), .retAddr 0, .retAddr 0]) (fun _ _ _ k => op_iinc (1 : Int32) dX5_atLeast_124 (by decide) rfl (by decide) k) ?_
  refine Sx.o (fun _ _ _ k => ex_goto 7 dX5_atLeast_127 (by decide) k) ?_
  exact (hg _ _ hb).1 rfl
theorem Sorter_atLeast_7_T : ∀ s r, fx Sorter_atLeast_7_F Sorter_atLeast_7_M s = some r → Sorter_atLeast_7_P s r := fx_ind Sorter_atLeast_7_M Sorter_atLeast_7_P (fun g hg s r hb => by
  unfold Sorter_atLeast_7_F at hb
  exact ⟨fun q => Sorter_atLeast_7_t hg (ip q hb), fun q => Sorter_atLeast_68_t hg (ip q (iq (by rw [q]; decide) hb)), fun q => Sorter_atLeast_100_t hg (ip q (iq (by rw [q]; decide) (iq (by rw [q]; decide) hb))), fun q => Sorter_atLeast_103_t hg (ip q (iq (by rw [q]; decide) (iq (by rw [q]; decide) (iq (by rw [q]; decide) hb)))), fun q => Sorter_atLeast_124_t hg (ip q (iq (by rw [q]; decide) (iq (by rw [q]; decide) (iq (by rw [q]; decide) (iq (by rw [q]; decide) hb))))), trivial⟩)
noncomputable def Sorter_atLeast_7 (v0 : Nat) (v1 : Nat) (v2 : Int32) (v3 : Int32) (v4 : Int32) (h : am_H) : Option Int32 := fx Sorter_atLeast_7_F Sorter_atLeast_7_M (7, v2, v3, v4, 0, 0, v0, v1, h)
noncomputable def Sorter_atLeast_68 (v0 : Nat) (v1 : Nat) (v2 : Int32) (v3 : Int32) (v4 : Int32) (v5 : Int32) (s0 : Int32) (h : am_H) : Option Int32 := fx Sorter_atLeast_7_F Sorter_atLeast_7_M (68, v2, v3, v4, v5, s0, v0, v1, h)
noncomputable def Sorter_atLeast_100 (v0 : Nat) (v1 : Nat) (v2 : Int32) (v3 : Int32) (v4 : Int32) (v5 : Int32) (v6 : Int32) (h : am_H) : Option Int32 := fx Sorter_atLeast_7_F Sorter_atLeast_7_M (100, v2, v3, v4, v5, v6, v0, v1, h)
noncomputable def Sorter_atLeast_103 (v0 : Nat) (v1 : Nat) (v2 : Int32) (v3 : Int32) (v4 : Int32) (v5 : Int32) (v6 : Int32) (h : am_H) : Option Int32 := fx Sorter_atLeast_7_F Sorter_atLeast_7_M (103, v2, v3, v4, v5, v6, v0, v1, h)
noncomputable def Sorter_atLeast_124 (v0 : Nat) (v1 : Nat) (v2 : Int32) (v3 : Int32) (v4 : Int32) (h : am_H) : Option Int32 := fx Sorter_atLeast_7_F Sorter_atLeast_7_M (124, v2, v3, v4, 0, 0, v0, v1, h)
set_option maxHeartbeats 1000000 in
set_option maxRecDepth 100000 in
theorem Sorter_atLeast_7_e (v0 : Nat) (v1 : Nat) (v2 : Int32) (v3 : Int32) (v4 : Int32) (h : am_H) : Sorter_atLeast_7 v0 v1 v2 v3 v4 h = ((gI h 4 v1 1).bind fun x1 => if x1 ≤ v4 then (gI h 5 v0 3).bind fun x5 => some (if v2 < (v3 - x5) + (1 : Int32) then (v3 - x5) + (1 : Int32) else v2) else (gR h 5 v0 2).bind fun x7 => (gR h 4 v1 0).bind fun x9 => (aI h 0 x9 v4).bind fun x11 => (aI h 0 x7 (x11 &&& (15 : Int32))).bind fun x13 => (gI h 4 v1 1).bind fun x15 => if x15 ≤ (v4 + (1 : Int32)) then (gI h 5 v0 3).bind fun x19 => Sorter_atLeast_68 v0 v1 v2 v3 v4 x13 x19 h else (gR h 5 v0 2).bind fun x21 => (gR h 4 v1 0).bind fun x23 => (aI h 0 x23 (v4 + (1 : Int32))).bind fun x25 => (aI h 0 x21 (x25 &&& (15 : Int32))).bind fun x27 => Sorter_atLeast_68 v0 v1 v2 v3 v4 x13 x27 h) := (fx_eq Sorter_atLeast_7_M (7, v2, v3, v4, 0, 0, v0, v1, h)).trans (if_pos rfl)
theorem Sorter_atLeast_7_s {v0 : Nat} {v1 : Nat} {v2 : Int32} {v3 : Int32} {v4 : Int32} {h : am_H} {r : Int32} (hb : Sorter_atLeast_7 v0 v1 v2 v3 v4 h = some r) : Sx 1 mX5_atLeast 7 [.ref v0, .ref v1, .int v2, .int v3, .int v4, .retAddr 0, .retAddr 0] [] h (some (.int r)) h := (Sorter_atLeast_7_T _ _ hb).1 rfl
set_option maxHeartbeats 1000000 in
set_option maxRecDepth 100000 in
theorem Sorter_atLeast_68_e (v0 : Nat) (v1 : Nat) (v2 : Int32) (v3 : Int32) (v4 : Int32) (v5 : Int32) (s0 : Int32) (h : am_H) : Sorter_atLeast_68 v0 v1 v2 v3 v4 v5 s0 h = (if (1 : Int32) < (if (0 : Int32) ≤ v5 - s0 then v5 - s0 else 0 - (v5 - s0)) then Sorter_atLeast_100 v0 v1 v2 v3 v4 v5 s0 h else (gI h 4 v1 1).bind fun x31 => if (v4 + (1 : Int32)) = x31 then if v5 = s0 then Sorter_atLeast_103 v0 v1 v2 v3 v4 v5 s0 h else Sorter_atLeast_100 v0 v1 v2 v3 v4 v5 s0 h else Sorter_atLeast_103 v0 v1 v2 v3 v4 v5 s0 h) := (fx_eq Sorter_atLeast_7_M (68, v2, v3, v4, v5, s0, v0, v1, h)).trans ((if_neg (show ¬ (68 : Nat) = 7 by decide)).trans (if_pos rfl))
theorem Sorter_atLeast_68_s {v0 : Nat} {v1 : Nat} {v2 : Int32} {v3 : Int32} {v4 : Int32} {v5 : Int32} {s0 : Int32} {h : am_H} {r : Int32} (hb : Sorter_atLeast_68 v0 v1 v2 v3 v4 v5 s0 h = some r) : Sx 1 mX5_atLeast 68 [.ref v0, .ref v1, .int v2, .int v3, .int v4, .int v5, .retAddr 0] [.int s0] h (some (.int r)) h := (Sorter_atLeast_7_T _ _ hb).2.1 rfl
set_option maxHeartbeats 1000000 in
set_option maxRecDepth 100000 in
theorem Sorter_atLeast_100_e (v0 : Nat) (v1 : Nat) (v2 : Int32) (v3 : Int32) (v4 : Int32) (v5 : Int32) (v6 : Int32) (h : am_H) : Sorter_atLeast_100 v0 v1 v2 v3 v4 v5 v6 h = (Sorter_atLeast_103 v0 v1 (v2 + (1 : Int32)) v3 v4 v5 v6 h) := (fx_eq Sorter_atLeast_7_M (100, v2, v3, v4, v5, v6, v0, v1, h)).trans ((if_neg (show ¬ (100 : Nat) = 7 by decide)).trans ((if_neg (show ¬ (100 : Nat) = 68 by decide)).trans (if_pos rfl)))
theorem Sorter_atLeast_100_s {v0 : Nat} {v1 : Nat} {v2 : Int32} {v3 : Int32} {v4 : Int32} {v5 : Int32} {v6 : Int32} {h : am_H} {r : Int32} (hb : Sorter_atLeast_100 v0 v1 v2 v3 v4 v5 v6 h = some r) : Sx 1 mX5_atLeast 100 [.ref v0, .ref v1, .int v2, .int v3, .int v4, .int v5, .int v6] [] h (some (.int r)) h := (Sorter_atLeast_7_T _ _ hb).2.2.1 rfl
set_option maxHeartbeats 1000000 in
set_option maxRecDepth 100000 in
theorem Sorter_atLeast_103_e (v0 : Nat) (v1 : Nat) (v2 : Int32) (v3 : Int32) (v4 : Int32) (v5 : Int32) (v6 : Int32) (h : am_H) : Sorter_atLeast_103 v0 v1 v2 v3 v4 v5 v6 h = ((gI h 4 v1 1).bind fun x37 => if x37 ≤ (v4 + (1 : Int32)) then Sorter_atLeast_124 v0 v1 v2 v3 v4 h else if v5 = v6 then Sorter_atLeast_124 v0 v1 v2 v3 v4 h else Sorter_atLeast_124 v0 v1 v2 (v3 + (1 : Int32)) v4 h) := (fx_eq Sorter_atLeast_7_M (103, v2, v3, v4, v5, v6, v0, v1, h)).trans ((if_neg (show ¬ (103 : Nat) = 7 by decide)).trans ((if_neg (show ¬ (103 : Nat) = 68 by decide)).trans ((if_neg (show ¬ (103 : Nat) = 100 by decide)).trans (if_pos rfl))))
theorem Sorter_atLeast_103_s {v0 : Nat} {v1 : Nat} {v2 : Int32} {v3 : Int32} {v4 : Int32} {v5 : Int32} {v6 : Int32} {h : am_H} {r : Int32} (hb : Sorter_atLeast_103 v0 v1 v2 v3 v4 v5 v6 h = some r) : Sx 1 mX5_atLeast 103 [.ref v0, .ref v1, .int v2, .int v3, .int v4, .int v5, .int v6] [] h (some (.int r)) h := (Sorter_atLeast_7_T _ _ hb).2.2.2.1 rfl
set_option maxHeartbeats 1000000 in
set_option maxRecDepth 100000 in
theorem Sorter_atLeast_124_e (v0 : Nat) (v1 : Nat) (v2 : Int32) (v3 : Int32) (v4 : Int32) (h : am_H) : Sorter_atLeast_124 v0 v1 v2 v3 v4 h = (Sorter_atLeast_7 v0 v1 v2 v3 (v4 + (1 : Int32)) h) := (fx_eq Sorter_atLeast_7_M (124, v2, v3, v4, 0, 0, v0, v1, h)).trans ((if_neg (show ¬ (124 : Nat) = 7 by decide)).trans ((if_neg (show ¬ (124 : Nat) = 68 by decide)).trans ((if_neg (show ¬ (124 : Nat) = 100 by decide)).trans ((if_neg (show ¬ (124 : Nat) = 103 by decide)).trans (if_pos rfl)))))
theorem Sorter_atLeast_124_s {v0 : Nat} {v1 : Nat} {v2 : Int32} {v3 : Int32} {v4 : Int32} {h : am_H} {r : Int32} (hb : Sorter_atLeast_124 v0 v1 v2 v3 v4 h = some r) : Sx 1 mX5_atLeast 124 [.ref v0, .ref v1, .int v2, .int v3, .int v4, .retAddr 0, .retAddr 0] [] h (some (.int r)) h := (Sorter_atLeast_7_T _ _ hb).2.2.2.2.1 rfl
set_option maxHeartbeats 1000000 in
set_option maxRecDepth 100000 in
noncomputable def Sorter_atLeast (v0 : Nat) (v1 : Nat) (h : am_H) : Option Int32 := if isO h 5 v0 = true then Sorter_atLeast_7 v0 v1 (0 : Int32) (0 : Int32) (0 : Int32) h else none
set_option maxHeartbeats 1000000 in
set_option maxRecDepth 100000 in
theorem Sorter_atLeast_s {v0 : Nat} {v1 : Nat} {h : am_H} {r : Int32} (hb : Sorter_atLeast v0 v1 h = some r) : Sx 1 mX5_atLeast 0 (am_en [.ref v0, .ref v1] 7) [] h (some (.int r)) h := by
  unfold Sorter_atLeast at hb
  have hb := (iz hb).2
  show Sx 1 mX5_atLeast 0 [.ref v0, .ref v1, .retAddr 0, .retAddr 0, .retAddr 0, .retAddr 0, .retAddr 0] [] h (some (.int r)) h
  refine Sx.o (fun _ _ _ k => op_iconst (0 : Int32) dX5_atLeast_0 (by decide) k) ?_
  refine Sx.o (L' := [.ref v0, .ref v1, .int (0 : Int32), .retAddr 0, .retAddr 0, .retAddr 0, .retAddr 0]) (fun _ _ _ k => ex_istore_n dX5_atLeast_1 (by decide) k) ?_
  refine Sx.o (fun _ _ _ k => op_iconst (0 : Int32) dX5_atLeast_2 (by decide) k) ?_
  refine Sx.o (L' := [.ref v0, .ref v1, .int (0 : Int32), .int (0 : Int32), .retAddr 0, .retAddr 0, .retAddr 0]) (fun _ _ _ k => ex_istore_n dX5_atLeast_3 (by decide) k) ?_
  refine Sx.o (fun _ _ _ k => op_iconst (0 : Int32) dX5_atLeast_4 (by decide) k) ?_
  refine Sx.o (L' := [.ref v0, .ref v1, .int (0 : Int32), .int (0 : Int32), .int (0 : Int32), .retAddr 0, .retAddr 0]) (fun _ _ _ k => ex_istore dX5_atLeast_5 (by decide) k) ?_
  exact Sorter_atLeast_7_s hb
theorem Sorter_atLeast_o {v0 : Nat} {v1 : Nat} {h : am_H} {r : Int32} (hb : Sorter_atLeast v0 v1 h = some r) : isO h 5 v0 = true := by
  unfold Sorter_atLeast at hb
  exact (iz hb).1
set_option maxHeartbeats 1000000 in
set_option maxRecDepth 100000 in
noncomputable def Sorter_search_b (g : (Nat × Nat × Int32 × Int32 × Int32 × Nat × Nat × am_H) → Option (Int32 × am_H)) (dd : Nat) (v0 : Nat) (v1 : Nat) (v2 : Int32) (v3 : Int32) (h : am_H) : Option (Int32 × am_H) := if isO h 5 v0 = true then if v2 < v3 then (Sorter_atLeast v0 v1 h).bind fun x3 => if v3 < (v2 + x3) then some ((0 : Int32), h) else if v2 < (12 : Int32) then g (32, dd, v2, v3, (2 : Int32), v0, v1, h) else some ((0 : Int32), h) else (Row_rises v1 h).bind fun x9 => (nrZ x9).bind fun u11 => some (x9, h) else none
set_option maxHeartbeats 1000000 in
set_option maxRecDepth 100000 in
theorem Sorter_search_m {g g2 : (Nat × Nat × Int32 × Int32 × Int32 × Nat × Nat × am_H) → Option (Int32 × am_H)} (hg : ∀ s, Le (g s) (g2 s)) (dd : Nat) (v0 : Nat) (v1 : Nat) (v2 : Int32) (v3 : Int32) (h : am_H) : Le (Sorter_search_b g dd v0 v1 v2 v3 h) (Sorter_search_b g2 dd v0 v1 v2 v3 h) := by unfold Sorter_search_b; exact le_i (le_i (le_b (le_r _) fun x3 => le_i (le_r _) (le_i (hg _) (le_r _))) (le_r _)) (le_r _)
set_option maxHeartbeats 1000000 in
set_option maxRecDepth 100000 in
noncomputable def Sorter_search_32_b (g : (Nat × Nat × Int32 × Int32 × Int32 × Nat × Nat × am_H) → Option (Int32 × am_H)) (dd : Nat) (v0 : Nat) (v1 : Nat) (v2 : Int32) (v3 : Int32) (v4 : Int32) (h : am_H) : Option (Int32 × am_H) := (gI h 4 v1 1).bind fun x13 => if x13 < v4 then some ((0 : Int32), h) else (gR h 5 v0 1).bind fun x17 => (sI h x17 v2 v4).bind fun h19 => (Row_reverse v1 (0 : Int32) (v4 - (1 : Int32)) h19).bind fun h22 => (if 0 < dd then g (0, dd - 1, (v2 + (1 : Int32)), v3, 0, v0, v1, h22) else none).bind fun r25 => (Row_reverse v1 (0 : Int32) (v4 - (1 : Int32)) r25.2).bind fun h28 => if r25.1 = (0 : Int32) then g (32, dd, v2, v3, (v4 + (1 : Int32)), v0, v1, h28) else some ((1 : Int32), h28)
set_option maxHeartbeats 1000000 in
set_option maxRecDepth 100000 in
theorem Sorter_search_32_m {g g2 : (Nat × Nat × Int32 × Int32 × Int32 × Nat × Nat × am_H) → Option (Int32 × am_H)} (hg : ∀ s, Le (g s) (g2 s)) (dd : Nat) (v0 : Nat) (v1 : Nat) (v2 : Int32) (v3 : Int32) (v4 : Int32) (h : am_H) : Le (Sorter_search_32_b g dd v0 v1 v2 v3 v4 h) (Sorter_search_32_b g2 dd v0 v1 v2 v3 v4 h) := by unfold Sorter_search_32_b; exact le_b (le_r _) fun x13 => le_i (le_r _) (le_b (le_r _) fun x17 => le_b (le_r _) fun h19 => le_b (le_r _) fun h22 => le_b (le_i (hg _) (le_r _)) fun r25 => le_b (le_r _) fun h28 => le_i (hg _) (le_r _))
noncomputable def Sorter_searchG_F (g : (Nat × Nat × Int32 × Int32 × Int32 × Nat × Nat × am_H) → Option (Int32 × am_H)) (s : (Nat × Nat × Int32 × Int32 × Int32 × Nat × Nat × am_H)) : Option (Int32 × am_H) := if s.1 = 0 then Sorter_search_b g s.2.1 s.2.2.2.2.2.1 s.2.2.2.2.2.2.1 s.2.2.1 s.2.2.2.1 s.2.2.2.2.2.2.2 else if s.1 = 32 then Sorter_search_32_b g s.2.1 s.2.2.2.2.2.1 s.2.2.2.2.2.2.1 s.2.2.1 s.2.2.2.1 s.2.2.2.2.1 s.2.2.2.2.2.2.2 else none
theorem Sorter_searchG_M : Mn Sorter_searchG_F := fun g g2 hg s => by unfold Sorter_searchG_F; exact le_i (Sorter_search_m hg s.2.1 s.2.2.2.2.2.1 s.2.2.2.2.2.2.1 s.2.2.1 s.2.2.2.1 s.2.2.2.2.2.2.2) (le_i (Sorter_search_32_m hg s.2.1 s.2.2.2.2.2.1 s.2.2.2.2.2.2.1 s.2.2.1 s.2.2.2.1 s.2.2.2.2.1 s.2.2.2.2.2.2.2) (le_r _))
def Sorter_searchG_P (s : (Nat × Nat × Int32 × Int32 × Int32 × Nat × Nat × am_H)) (r : (Int32 × am_H)) : Prop := (s.1 = 0 → isO s.2.2.2.2.2.2.2 5 s.2.2.2.2.2.1 = true ∧ Sx (2 + s.2.1) mX5_search 0 (am_en [.ref s.2.2.2.2.2.1, .ref s.2.2.2.2.2.2.1, .int s.2.2.1, .int s.2.2.2.1] 6) [] s.2.2.2.2.2.2.2 (some (.int r.1)) r.2) ∧ (s.1 = 32 → Sx (2 + s.2.1) mX5_search 32 [.ref s.2.2.2.2.2.1, .ref s.2.2.2.2.2.2.1, .int s.2.2.1, .int s.2.2.2.1, .int s.2.2.2.2.1, .retAddr 0] [] s.2.2.2.2.2.2.2 (some (.int r.1)) r.2) ∧ True
set_option maxHeartbeats 1000000 in
set_option maxRecDepth 100000 in
theorem Sorter_search_t {g : (Nat × Nat × Int32 × Int32 × Int32 × Nat × Nat × am_H) → Option (Int32 × am_H)} (hg : ∀ s r, g s = some r → Sorter_searchG_P s r) {dd : Nat} {v0 : Nat} {v1 : Nat} {v2 : Int32} {v3 : Int32} {h : am_H} {r : (Int32 × am_H)} (hb : Sorter_search_b g dd v0 v1 v2 v3 h = some r) : isO h 5 v0 = true ∧ Sx (2 + dd) mX5_search 0 (am_en [.ref v0, .ref v1, .int v2, .int v3] 6) [] h (some (.int r.1)) r.2 := by
  unfold Sorter_search_b at hb
  obtain ⟨ho, hb⟩ := iz hb
  refine ⟨ho, ?_⟩
  show Sx (2 + dd) mX5_search 0 [.ref v0, .ref v1, .int v2, .int v3, .retAddr 0, .retAddr 0] [] h (some (.int r.1)) r.2
  refine Sx.o (fun _ _ _ k => ex_iload_n dX5_search_0 rfl k) ?_
  refine Sx.o (fun _ _ _ k => ex_iload_n dX5_search_1 rfl k) ?_
  refine Sx.b (fun _ _ _ k1 k2 => ex_icmp_lt 10 dX5_search_2 (by decide) k1 k2) (fun q => ?_) (fun q => ?_)
  · have hb1 := ip q hb
    refine Sx.o (fun _ _ _ k => ex_iload_n dX5_search_10 rfl k) ?_
    refine Sx.o (fun _ _ _ k => ex_aload_n dX5_search_11 rfl rfl k) ?_
    refine Sx.o (fun _ _ _ k => ex_aload_n dX5_search_12 rfl rfl k) ?_
    obtain ⟨x3, e_x3, hb4⟩ := ob2 hb1
    refine sx_callV (dc := 1) (as := [.ref v1]) (stq := [.int x3, .int v2]) (by omega) dX5_search_13 MX5_atLeast kX5_51 iX5_atLeast sX5_atLeast rfl rfl (Sorter_atLeast_o e_x3) rfl rfl (Nat.le_of_ble_eq_true rfl) (Nat.le_of_ble_eq_true rfl) (Sorter_atLeast_s e_x3) rfl ?_
    refine Sx.o (fun _ _ _ k => ex_iadd dX5_search_16 k) ?_
    refine Sx.o (fun _ _ _ k => ex_iload_n dX5_search_17 rfl k) ?_
    refine Sx.b (fun _ _ _ k1 k2 => ex_icmp_gt 27 dX5_search_18 (by decide) k1 k2) (fun q => ?_) (fun q => ?_)
    · have hb5 := ip q hb4
      refine Sx.o (fun _ _ _ k => op_iconst (0 : Int32) dX5_search_27 (by decide) k) ?_
      obtain rfl := Option.some.inj hb5
      exact Sx.r (fun _ _ _ k => ex_zret rfl rfl dX5_search_28 k)
    · have hb6 := iq q hb4
      refine Sx.o (fun _ _ _ k => ex_iload_n dX5_search_21 rfl k) ?_
      refine Sx.o (fun _ _ _ k => op_bipush (12 : Int32) dX5_search_22 (by decide) k) ?_
      refine Sx.b (fun _ _ _ k1 k2 => ex_icmp_lt 29 dX5_search_24 (by decide) k1 k2) (fun q => ?_) (fun q => ?_)
      · have hb7 := ip q hb6
        refine Sx.o (fun _ _ _ k => op_iconst (2 : Int32) dX5_search_29 (by decide) k) ?_
        refine Sx.o (L' := [.ref v0, .ref v1, .int v2, .int v3, .int (2 : Int32), .retAddr 0]) (fun _ _ _ k => ex_istore dX5_search_30 (by decide) k) ?_
        exact (hg _ _ hb7).2.1 rfl
      · have hb8 := iq q hb6
        refine Sx.o (fun _ _ _ k => op_iconst (0 : Int32) dX5_search_27 (by decide) k) ?_
        obtain rfl := Option.some.inj hb8
        exact Sx.r (fun _ _ _ k => ex_zret rfl rfl dX5_search_28 k)
  · have hb2 := iq q hb
    refine Sx.o (fun _ _ _ k => ex_aload_n dX5_search_5 rfl rfl k) ?_
    obtain ⟨x9, e_x9, hb10⟩ := ob2 hb2
    refine sx_callV (dc := 0) (as := []) (stq := [.int x9]) (by omega) dX5_search_6 MX4_rises kX5_47 iX4_rises sX4_rises rfl rfl (Row_rises_o e_x9) rfl rfl (Nat.le_of_ble_eq_true rfl) (Nat.le_of_ble_eq_true rfl) (Row_rises_s e_x9) rfl ?_
    obtain ⟨u11, e_u11, hb12⟩ := ob2 hb10
    obtain rfl := Option.some.inj hb12
    exact Sx.r (fun _ _ _ k => ex_zret rfl (nrZ_n e_u11) dX5_search_9 k)
set_option maxHeartbeats 1000000 in
set_option maxRecDepth 100000 in
theorem Sorter_search_32_t {g : (Nat × Nat × Int32 × Int32 × Int32 × Nat × Nat × am_H) → Option (Int32 × am_H)} (hg : ∀ s r, g s = some r → Sorter_searchG_P s r) {dd : Nat} {v0 : Nat} {v1 : Nat} {v2 : Int32} {v3 : Int32} {v4 : Int32} {h : am_H} {r : (Int32 × am_H)} (hb : Sorter_search_32_b g dd v0 v1 v2 v3 v4 h = some r) : Sx (2 + dd) mX5_search 32 [.ref v0, .ref v1, .int v2, .int v3, .int v4, .retAddr 0] [] h (some (.int r.1)) r.2 := by
  unfold Sorter_search_32_b at hb
  refine Sx.o (fun _ _ _ k => ex_iload dX5_search_32 rfl k) ?_
  refine Sx.o (fun _ _ _ k => ex_aload_n dX5_search_34 rfl rfl k) ?_
  obtain ⟨x13, e_x13, hb14⟩ := ob2 hb
  refine Sx.o (fun _ _ _ k => op_getI fX5_36 dX5_search_35 e_x13 k) ?_
  refine Sx.b (fun _ _ _ k1 k2 => ex_icmp_gt 91 dX5_search_38 (by decide) k1 k2) (fun q => ?_) (fun q => ?_)
  · have hb15 := ip q hb14
    refine Sx.o (fun _ _ _ k => op_iconst (0 : Int32) dX5_search_91 (by decide) k) ?_
    obtain rfl := Option.some.inj hb15
    exact Sx.r (fun _ _ _ k => ex_zret rfl rfl dX5_search_92 k)
  · have hb16 := iq q hb14
    refine Sx.o (fun _ _ _ k => ex_aload_n dX5_search_41 rfl rfl k) ?_
    obtain ⟨x17, e_x17, hb18⟩ := ob2 hb16
    refine Sx.o (fun _ _ _ k => op_getR fX5_11 dX5_search_42 e_x17 k) ?_
    refine Sx.o (fun _ _ _ k => ex_iload_n dX5_search_45 rfl k) ?_
    refine Sx.o (fun _ _ _ k => ex_iload dX5_search_46 rfl k) ?_
    obtain ⟨h19, e_h19, hb20⟩ := ob2 hb18
    refine Sx.p (sI_q e_h19) (fun _ _ _ k => op_iast dX5_search_48 e_h19 k) ?_
    refine Sx.o (fun _ _ _ k => ex_aload_n dX5_search_49 rfl rfl k) ?_
    refine Sx.o (fun _ _ _ k => op_iconst (0 : Int32) dX5_search_50 (by decide) k) ?_
    refine Sx.o (fun _ _ _ k => ex_iload dX5_search_51 rfl k) ?_
    refine Sx.o (fun _ _ _ k => op_iconst (1 : Int32) dX5_search_53 (by decide) k) ?_
    refine Sx.o (fun _ _ _ k => ex_isub dX5_search_54 k) ?_
    obtain ⟨h22, e_h22, hb23⟩ := ob2 hb20
    refine sx_callV (dc := 1) (as := [.int (0 : Int32), .int (v4 - (1 : Int32))]) (stq := []) (by omega) dX5_search_55 MX4_reverse kX5_55 iX4_reverse sX4_reverse rfl rfl (Row_reverse_o e_h22) rfl rfl (Nat.le_of_ble_eq_true rfl) (Nat.le_of_ble_eq_true rfl) (Row_reverse_s e_h22) rfl ?_
    refine Sx.o (fun _ _ _ k => ex_aload_n dX5_search_58 rfl rfl k) ?_
    refine Sx.o (fun _ _ _ k => ex_aload_n dX5_search_59 rfl rfl k) ?_
    refine Sx.o (fun _ _ _ k => ex_iload_n dX5_search_60 rfl k) ?_
    refine Sx.o (fun _ _ _ k => op_iconst (1 : Int32) dX5_search_61 (by decide) k) ?_
    refine Sx.o (fun _ _ _ k => ex_iadd dX5_search_62 k) ?_
    refine Sx.o (fun _ _ _ k => ex_iload_n dX5_search_63 rfl k) ?_
    obtain ⟨r25, e_r25, hb26⟩ := ob2 hb23
    obtain ⟨hdd_r25, e_r25⟩ := iz e_r25
    refine sx_callV (dc := (2 + (dd - 1))) (as := [.ref v1, .int (v2 + (1 : Int32)), .int v3]) (stq := [.int r25.1]) (by omega) dX5_search_64 MX5_search kX5_26 iX5_search sX5_search rfl rfl ((fun e => ((hg _ _ e).1 rfl).1) e_r25) rfl rfl (Nat.le_of_ble_eq_true rfl) (Nat.le_of_ble_eq_true rfl) ((fun e => ((hg _ _ e).1 rfl).2) e_r25) rfl ?_
    refine Sx.o (L' := [.ref v0, .ref v1, .int v2, .int v3, .int v4, .int r25.1]) (fun _ _ _ k => ex_istore dX5_search_67 (by decide) k) ?_
    refine Sx.o (fun _ _ _ k => ex_aload_n dX5_search_69 rfl rfl k) ?_
    refine Sx.o (fun _ _ _ k => op_iconst (0 : Int32) dX5_search_70 (by decide) k) ?_
    refine Sx.o (fun _ _ _ k => ex_iload dX5_search_71 rfl k) ?_
    refine Sx.o (fun _ _ _ k => op_iconst (1 : Int32) dX5_search_73 (by decide) k) ?_
    refine Sx.o (fun _ _ _ k => ex_isub dX5_search_74 k) ?_
    obtain ⟨h28, e_h28, hb29⟩ := ob2 hb26
    refine sx_callV (dc := 1) (as := [.int (0 : Int32), .int (v4 - (1 : Int32))]) (stq := []) (by omega) dX5_search_75 MX4_reverse kX5_55 iX4_reverse sX4_reverse rfl rfl (Row_reverse_o e_h28) rfl rfl (Nat.le_of_ble_eq_true rfl) (Nat.le_of_ble_eq_true rfl) (Row_reverse_s e_h28) rfl ?_
    refine Sx.o (fun _ _ _ k => ex_iload dX5_search_78 rfl k) ?_
    refine Sx.b (fun _ _ _ k1 k2 => ex_if_eq 85 dX5_search_80 (by decide) k1 k2) (fun q => ?_) (fun q => ?_)
    · have hb31 := ip q hb29
      refine Sx.o (L' := [.ref v0, .ref v1, .int v2, .int v3, .int (v4 + (1 : Int32)), .int r25.1]) (fun _ _ _ k => op_iinc (1 : Int32) dX5_search_85 (by decide) rfl (by decide) k) ?_
      refine Sx.o (fun _ _ _ k => ex_goto 32 dX5_search_88 (by decide) k) ?_
      refine Sx.fg [true, true, true, true, true, false] ?_
      exact (hg _ _ hb31).2.1 rfl
    · have hb32 := iq q hb29
      refine Sx.o (fun _ _ _ k => op_iconst (1 : Int32) dX5_search_83 (by decide) k) ?_
      obtain rfl := Option.some.inj hb32
      exact Sx.r (fun _ _ _ k => ex_zret rfl rfl dX5_search_84 k)
theorem Sorter_searchG_T : ∀ s r, fx Sorter_searchG_F Sorter_searchG_M s = some r → Sorter_searchG_P s r := fx_ind Sorter_searchG_M Sorter_searchG_P (fun g hg s r hb => by
  unfold Sorter_searchG_F at hb
  exact ⟨fun q => Sorter_search_t hg (ip q hb), fun q => Sorter_search_32_t hg (ip q (iq (by rw [q]; decide) hb)), trivial⟩)
set_option maxHeartbeats 1000000 in
set_option maxRecDepth 100000 in
theorem Sorter_search_r {g : (Nat × Nat × Int32 × Int32 × Int32 × Nat × Nat × am_H) → Option (Int32 × am_H)} (hg : ∀ s r, g s = some r → Eqs s.2.2.2.2.2.2.2 r.2) {dd : Nat} {v0 : Nat} {v1 : Nat} {v2 : Int32} {v3 : Int32} {h : am_H} {r : (Int32 × am_H)} (hb : Sorter_search_b g dd v0 v1 v2 v3 h = some r) : Eqs h r.2 := by
  unfold Sorter_search_b at hb
  have w0 := Eqs.rf h
  obtain ⟨ho, hb⟩ := iz hb
  by_cases q : v2 < v3
  · have hb1 := ip q hb
    obtain ⟨x3, e_x3, hb4⟩ := ob2 hb1
    by_cases q : v3 < (v2 + x3)
    · have hb5 := ip q hb4
      obtain rfl := Option.some.inj hb5
      exact w0
    · have hb6 := iq q hb4
      by_cases q : v2 < (12 : Int32)
      · have hb7 := ip q hb6
        exact w0.tr (hg _ _ hb7)
      · have hb8 := iq q hb6
        obtain rfl := Option.some.inj hb8
        exact w0
  · have hb2 := iq q hb
    obtain ⟨x9, e_x9, hb10⟩ := ob2 hb2
    obtain ⟨u11, e_u11, hb12⟩ := ob2 hb10
    obtain rfl := Option.some.inj hb12
    exact w0
set_option maxHeartbeats 1000000 in
set_option maxRecDepth 100000 in
theorem Sorter_search_32_r {g : (Nat × Nat × Int32 × Int32 × Int32 × Nat × Nat × am_H) → Option (Int32 × am_H)} (hg : ∀ s r, g s = some r → Eqs s.2.2.2.2.2.2.2 r.2) {dd : Nat} {v0 : Nat} {v1 : Nat} {v2 : Int32} {v3 : Int32} {v4 : Int32} {h : am_H} {r : (Int32 × am_H)} (hb : Sorter_search_32_b g dd v0 v1 v2 v3 v4 h = some r) : Eqs h r.2 := by
  unfold Sorter_search_32_b at hb
  have w0 := Eqs.rf h
  obtain ⟨x13, e_x13, hb14⟩ := ob2 hb
  by_cases q : x13 < v4
  · have hb15 := ip q hb14
    obtain rfl := Option.some.inj hb15
    exact w0
  · have hb16 := iq q hb14
    obtain ⟨x17, e_x17, hb18⟩ := ob2 hb16
    obtain ⟨h19, e_h19, hb20⟩ := ob2 hb18
    have w21 := w0.tr (sI_q e_h19)
    obtain ⟨h22, e_h22, hb23⟩ := ob2 hb20
    have w24 := w21.tr (Row_reverse_q e_h22)
    obtain ⟨r25, e_r25, hb26⟩ := ob2 hb23
    obtain ⟨hdd_r25, e_r25⟩ := iz e_r25
    have w27 := w24.tr (hg _ _ e_r25)
    obtain ⟨h28, e_h28, hb29⟩ := ob2 hb26
    have w30 := w27.tr (Row_reverse_q e_h28)
    by_cases q : r25.1 = (0 : Int32)
    · have hb31 := ip q hb29
      exact w30.tr (hg _ _ hb31)
    · have hb32 := iq q hb29
      obtain rfl := Option.some.inj hb32
      exact w30
theorem Sorter_searchG_Q : ∀ s r, fx Sorter_searchG_F Sorter_searchG_M s = some r → Eqs s.2.2.2.2.2.2.2 r.2 := fx_ind Sorter_searchG_M (fun s r => Eqs s.2.2.2.2.2.2.2 r.2) (fun g hg s r hb => by
  unfold Sorter_searchG_F at hb
  by_cases q0 : s.1 = 0
  · exact Sorter_search_r hg (ip q0 hb)
  · have hb0 := iq q0 hb
    by_cases q1 : s.1 = 32
    · exact Sorter_search_32_r hg (ip q1 hb0)
    · have hb1 := iq q1 hb0
      exact nomatch hb1)
noncomputable def Sorter_search (dd : Nat) (v0 : Nat) (v1 : Nat) (v2 : Int32) (v3 : Int32) (h : am_H) : Option (Int32 × am_H) := fx Sorter_searchG_F Sorter_searchG_M (0, dd, v2, v3, 0, v0, v1, h)
noncomputable def Sorter_search_32 (dd : Nat) (v0 : Nat) (v1 : Nat) (v2 : Int32) (v3 : Int32) (v4 : Int32) (h : am_H) : Option (Int32 × am_H) := fx Sorter_searchG_F Sorter_searchG_M (32, dd, v2, v3, v4, v0, v1, h)
set_option maxHeartbeats 1000000 in
set_option maxRecDepth 100000 in
theorem Sorter_search_e (dd : Nat) (v0 : Nat) (v1 : Nat) (v2 : Int32) (v3 : Int32) (h : am_H) : Sorter_search dd v0 v1 v2 v3 h = (if isO h 5 v0 = true then if v2 < v3 then (Sorter_atLeast v0 v1 h).bind fun x3 => if v3 < (v2 + x3) then some ((0 : Int32), h) else if v2 < (12 : Int32) then Sorter_search_32 dd v0 v1 v2 v3 (2 : Int32) h else some ((0 : Int32), h) else (Row_rises v1 h).bind fun x9 => (nrZ x9).bind fun u11 => some (x9, h) else none) := (fx_eq Sorter_searchG_M (0, dd, v2, v3, 0, v0, v1, h)).trans (if_pos rfl)
theorem Sorter_search_q {dd : Nat} {v0 : Nat} {v1 : Nat} {v2 : Int32} {v3 : Int32} {h : am_H} {r : (Int32 × am_H)} (hb : Sorter_search dd v0 v1 v2 v3 h = some r) : Eqs h r.2 := Sorter_searchG_Q _ _ hb
theorem Sorter_search_s {dd : Nat} {v0 : Nat} {v1 : Nat} {v2 : Int32} {v3 : Int32} {h : am_H} {r : (Int32 × am_H)} (hb : Sorter_search dd v0 v1 v2 v3 h = some r) : Sx (2 + dd) mX5_search 0 (am_en [.ref v0, .ref v1, .int v2, .int v3] 6) [] h (some (.int r.1)) r.2 := ((Sorter_searchG_T _ _ hb).1 rfl).2
theorem Sorter_search_o {dd : Nat} {v0 : Nat} {v1 : Nat} {v2 : Int32} {v3 : Int32} {h : am_H} {r : (Int32 × am_H)} (hb : Sorter_search dd v0 v1 v2 v3 h = some r) : isO h 5 v0 = true := ((Sorter_searchG_T _ _ hb).1 rfl).1
set_option maxHeartbeats 1000000 in
set_option maxRecDepth 100000 in
theorem Sorter_search_32_e (dd : Nat) (v0 : Nat) (v1 : Nat) (v2 : Int32) (v3 : Int32) (v4 : Int32) (h : am_H) : Sorter_search_32 dd v0 v1 v2 v3 v4 h = ((gI h 4 v1 1).bind fun x13 => if x13 < v4 then some ((0 : Int32), h) else (gR h 5 v0 1).bind fun x17 => (sI h x17 v2 v4).bind fun h19 => (Row_reverse v1 (0 : Int32) (v4 - (1 : Int32)) h19).bind fun h22 => (if 0 < dd then Sorter_search (dd - 1) v0 v1 (v2 + (1 : Int32)) v3 h22 else none).bind fun r25 => (Row_reverse v1 (0 : Int32) (v4 - (1 : Int32)) r25.2).bind fun h28 => if r25.1 = (0 : Int32) then Sorter_search_32 dd v0 v1 v2 v3 (v4 + (1 : Int32)) h28 else some ((1 : Int32), h28)) := (fx_eq Sorter_searchG_M (32, dd, v2, v3, v4, v0, v1, h)).trans ((if_neg (show ¬ (32 : Nat) = 0 by decide)).trans (if_pos rfl))
theorem Sorter_search_32_q {dd : Nat} {v0 : Nat} {v1 : Nat} {v2 : Int32} {v3 : Int32} {v4 : Int32} {h : am_H} {r : (Int32 × am_H)} (hb : Sorter_search_32 dd v0 v1 v2 v3 v4 h = some r) : Eqs h r.2 := Sorter_searchG_Q _ _ hb
theorem Sorter_search_32_s {dd : Nat} {v0 : Nat} {v1 : Nat} {v2 : Int32} {v3 : Int32} {v4 : Int32} {h : am_H} {r : (Int32 × am_H)} (hb : Sorter_search_32 dd v0 v1 v2 v3 v4 h = some r) : Sx (2 + dd) mX5_search 32 [.ref v0, .ref v1, .int v2, .int v3, .int v4, .retAddr 0] [] h (some (.int r.1)) r.2 := (Sorter_searchG_T _ _ hb).2.1 rfl
set_option maxHeartbeats 1000000 in
set_option maxRecDepth 100000 in
noncomputable def Sorter_putInOrder_12_b (g : (Nat × Int32 × Nat × Nat × am_H) → Option am_H) (v0 : Nat) (v1 : Nat) (v2 : Int32) (h : am_H) : Option am_H := if (12 : Int32) ≤ v2 then some h else (Sorter_search 40 v0 v1 (0 : Int32) v2 h).bind fun r3 => if r3.1 = (0 : Int32) then g (12, (v2 + (1 : Int32)), v0, v1, r3.2) else (pV r3.2 5 v0 0 (.int v2)).bind fun h8 => some h8
set_option maxHeartbeats 1000000 in
set_option maxRecDepth 100000 in
theorem Sorter_putInOrder_12_m {g g2 : (Nat × Int32 × Nat × Nat × am_H) → Option am_H} (hg : ∀ s, Le (g s) (g2 s)) (v0 : Nat) (v1 : Nat) (v2 : Int32) (h : am_H) : Le (Sorter_putInOrder_12_b g v0 v1 v2 h) (Sorter_putInOrder_12_b g2 v0 v1 v2 h) := by unfold Sorter_putInOrder_12_b; exact le_i (le_r _) (le_b (le_r _) fun r3 => le_i (hg _) (le_r _))
noncomputable def Sorter_putInOrder_12_F (g : (Nat × Int32 × Nat × Nat × am_H) → Option am_H) (s : (Nat × Int32 × Nat × Nat × am_H)) : Option am_H := if s.1 = 12 then Sorter_putInOrder_12_b g s.2.2.1 s.2.2.2.1 s.2.1 s.2.2.2.2 else none
theorem Sorter_putInOrder_12_M : Mn Sorter_putInOrder_12_F := fun g g2 hg s => by unfold Sorter_putInOrder_12_F; exact le_i (Sorter_putInOrder_12_m hg s.2.2.1 s.2.2.2.1 s.2.1 s.2.2.2.2) (le_r _)
def Sorter_putInOrder_12_P (s : (Nat × Int32 × Nat × Nat × am_H)) (r : am_H) : Prop := (s.1 = 12 → Sx 43 mX5_putInOrder 12 [.ref s.2.2.1, .ref s.2.2.2.1, .int s.2.1] [] s.2.2.2.2 none r) ∧ True
set_option maxHeartbeats 1000000 in
set_option maxRecDepth 100000 in
theorem Sorter_putInOrder_12_t {g : (Nat × Int32 × Nat × Nat × am_H) → Option am_H} (hg : ∀ s r, g s = some r → Sorter_putInOrder_12_P s r) {v0 : Nat} {v1 : Nat} {v2 : Int32} {h : am_H} {r : am_H} (hb : Sorter_putInOrder_12_b g v0 v1 v2 h = some r) : Sx 43 mX5_putInOrder 12 [.ref v0, .ref v1, .int v2] [] h none r := by
  unfold Sorter_putInOrder_12_b at hb
  refine Sx.o (fun _ _ _ k => ex_iload_n dX5_putInOrder_12 rfl k) ?_
  refine Sx.o (fun _ _ _ k => op_bipush (12 : Int32) dX5_putInOrder_13 (by decide) k) ?_
  refine Sx.b (fun _ _ _ k1 k2 => ex_icmp_ge 40 dX5_putInOrder_15 (by decide) k1 k2) (fun q => ?_) (fun q => ?_)
  · have hb1 := ip q hb
    obtain rfl := Option.some.inj hb1
    exact Sx.r (fun _ _ _ k => ex_vret rfl dX5_putInOrder_40 k)
  · have hb2 := iq q hb
    refine Sx.o (fun _ _ _ k => ex_aload_n dX5_putInOrder_18 rfl rfl k) ?_
    refine Sx.o (fun _ _ _ k => ex_aload_n dX5_putInOrder_19 rfl rfl k) ?_
    refine Sx.o (fun _ _ _ k => op_iconst (0 : Int32) dX5_putInOrder_20 (by decide) k) ?_
    refine Sx.o (fun _ _ _ k => ex_iload_n dX5_putInOrder_21 rfl k) ?_
    obtain ⟨r3, e_r3, hb4⟩ := ob2 hb2
    refine sx_callV (dc := (2 + 40)) (as := [.ref v1, .int (0 : Int32), .int v2]) (stq := [.int r3.1]) (by omega) dX5_putInOrder_22 MX5_search kX5_26 iX5_search sX5_search rfl rfl (Sorter_search_o e_r3) rfl rfl (Nat.le_of_ble_eq_true rfl) (Nat.le_of_ble_eq_true rfl) (Sorter_search_s e_r3) rfl ?_
    refine Sx.b (fun _ _ _ k1 k2 => ex_if_eq 34 dX5_putInOrder_25 (by decide) k1 k2) (fun q => ?_) (fun q => ?_)
    · have hb6 := ip q hb4
      refine Sx.o (L' := [.ref v0, .ref v1, .int (v2 + (1 : Int32))]) (fun _ _ _ k => op_iinc (1 : Int32) dX5_putInOrder_34 (by decide) rfl (by decide) k) ?_
      refine Sx.o (fun _ _ _ k => ex_goto 12 dX5_putInOrder_37 (by decide) k) ?_
      exact (hg _ _ hb6).1 rfl
    · have hb7 := iq q hb4
      refine Sx.o (fun _ _ _ k => ex_aload_n dX5_putInOrder_28 rfl rfl k) ?_
      refine Sx.o (fun _ _ _ k => ex_iload_n dX5_putInOrder_29 rfl k) ?_
      obtain ⟨h8, e_h8, hb9⟩ := ob2 hb7
      refine Sx.p (pV_q e_h8) (fun _ _ _ k => op_put pX5_18 dX5_putInOrder_30 e_h8 (fun _ => rfl) (fun _ => rfl) k) ?_
      obtain rfl := Option.some.inj hb9
      exact Sx.r (fun _ _ _ k => ex_vret rfl dX5_putInOrder_33 k)
theorem Sorter_putInOrder_12_T : ∀ s r, fx Sorter_putInOrder_12_F Sorter_putInOrder_12_M s = some r → Sorter_putInOrder_12_P s r := fx_ind Sorter_putInOrder_12_M Sorter_putInOrder_12_P (fun g hg s r hb => by
  unfold Sorter_putInOrder_12_F at hb
  exact ⟨fun q => Sorter_putInOrder_12_t hg (ip q hb), trivial⟩)
set_option maxHeartbeats 1000000 in
set_option maxRecDepth 100000 in
theorem Sorter_putInOrder_12_r {g : (Nat × Int32 × Nat × Nat × am_H) → Option am_H} (hg : ∀ s r, g s = some r → Eqs s.2.2.2.2 r) {v0 : Nat} {v1 : Nat} {v2 : Int32} {h : am_H} {r : am_H} (hb : Sorter_putInOrder_12_b g v0 v1 v2 h = some r) : Eqs h r := by
  unfold Sorter_putInOrder_12_b at hb
  have w0 := Eqs.rf h
  by_cases q : (12 : Int32) ≤ v2
  · have hb1 := ip q hb
    obtain rfl := Option.some.inj hb1
    exact w0
  · have hb2 := iq q hb
    obtain ⟨r3, e_r3, hb4⟩ := ob2 hb2
    have w5 := w0.tr (Sorter_search_q e_r3)
    by_cases q : r3.1 = (0 : Int32)
    · have hb6 := ip q hb4
      exact w5.tr (hg _ _ hb6)
    · have hb7 := iq q hb4
      obtain ⟨h8, e_h8, hb9⟩ := ob2 hb7
      have w10 := w5.tr (pV_q e_h8)
      obtain rfl := Option.some.inj hb9
      exact w10
theorem Sorter_putInOrder_12_Q : ∀ s r, fx Sorter_putInOrder_12_F Sorter_putInOrder_12_M s = some r → Eqs s.2.2.2.2 r := fx_ind Sorter_putInOrder_12_M (fun s r => Eqs s.2.2.2.2 r) (fun g hg s r hb => by
  unfold Sorter_putInOrder_12_F at hb
  by_cases q0 : s.1 = 12
  · exact Sorter_putInOrder_12_r hg (ip q0 hb)
  · have hb0 := iq q0 hb
    exact nomatch hb0)
noncomputable def Sorter_putInOrder_12 (v0 : Nat) (v1 : Nat) (v2 : Int32) (h : am_H) : Option am_H := fx Sorter_putInOrder_12_F Sorter_putInOrder_12_M (12, v2, v0, v1, h)
set_option maxHeartbeats 1000000 in
set_option maxRecDepth 100000 in
theorem Sorter_putInOrder_12_e (v0 : Nat) (v1 : Nat) (v2 : Int32) (h : am_H) : Sorter_putInOrder_12 v0 v1 v2 h = (if (12 : Int32) ≤ v2 then some h else (Sorter_search 40 v0 v1 (0 : Int32) v2 h).bind fun r3 => if r3.1 = (0 : Int32) then Sorter_putInOrder_12 v0 v1 (v2 + (1 : Int32)) r3.2 else (pV r3.2 5 v0 0 (.int v2)).bind fun h8 => some h8) := (fx_eq Sorter_putInOrder_12_M (12, v2, v0, v1, h)).trans (if_pos rfl)
theorem Sorter_putInOrder_12_q {v0 : Nat} {v1 : Nat} {v2 : Int32} {h : am_H} {r : am_H} (hb : Sorter_putInOrder_12 v0 v1 v2 h = some r) : Eqs h r := Sorter_putInOrder_12_Q _ _ hb
theorem Sorter_putInOrder_12_s {v0 : Nat} {v1 : Nat} {v2 : Int32} {h : am_H} {r : am_H} (hb : Sorter_putInOrder_12 v0 v1 v2 h = some r) : Sx 43 mX5_putInOrder 12 [.ref v0, .ref v1, .int v2] [] h none r := (Sorter_putInOrder_12_T _ _ hb).1 rfl
set_option maxHeartbeats 1000000 in
set_option maxRecDepth 100000 in
noncomputable def Sorter_putInOrder (v0 : Nat) (v1 : Nat) (h : am_H) : Option am_H := if isO h 5 v0 = true then (Sorter_rankCards v0 v1 h).bind fun h11 => (pV h11 5 v0 0 (.int (0 : Int32))).bind fun h14 => Sorter_putInOrder_12 v0 v1 (0 : Int32) h14 else none
set_option maxHeartbeats 1000000 in
set_option maxRecDepth 100000 in
theorem Sorter_putInOrder_s {v0 : Nat} {v1 : Nat} {h : am_H} {r : am_H} (hb : Sorter_putInOrder v0 v1 h = some r) : Sx 43 mX5_putInOrder 0 (am_en [.ref v0, .ref v1] 3) [] h none r := by
  unfold Sorter_putInOrder at hb
  have hb := (iz hb).2
  show Sx 43 mX5_putInOrder 0 [.ref v0, .ref v1, .retAddr 0] [] h none r
  refine Sx.o (fun _ _ _ k => ex_aload_n dX5_putInOrder_0 rfl rfl k) ?_
  refine Sx.o (fun _ _ _ k => ex_aload_n dX5_putInOrder_1 rfl rfl k) ?_
  obtain ⟨h11, e_h11, hb12⟩ := ob2 hb
  refine sx_callV (dc := 1) (as := [.ref v1]) (stq := []) (by omega) dX5_putInOrder_2 MX5_rankCards kX5_22 iX5_rankCards sX5_rankCards rfl rfl (Sorter_rankCards_o e_h11) rfl rfl (Nat.le_of_ble_eq_true rfl) (Nat.le_of_ble_eq_true rfl) (Sorter_rankCards_s e_h11) rfl ?_
  refine Sx.o (fun _ _ _ k => ex_aload_n dX5_putInOrder_5 rfl rfl k) ?_
  refine Sx.o (fun _ _ _ k => op_iconst (0 : Int32) dX5_putInOrder_6 (by decide) k) ?_
  obtain ⟨h14, e_h14, hb15⟩ := ob2 hb12
  refine Sx.p (pV_q e_h14) (fun _ _ _ k => op_put pX5_18 dX5_putInOrder_7 e_h14 (fun _ => rfl) (fun _ => rfl) k) ?_
  refine Sx.o (fun _ _ _ k => op_iconst (0 : Int32) dX5_putInOrder_10 (by decide) k) ?_
  refine Sx.o (L' := [.ref v0, .ref v1, .int (0 : Int32)]) (fun _ _ _ k => ex_istore_n dX5_putInOrder_11 (by decide) k) ?_
  exact Sorter_putInOrder_12_s hb15
set_option maxHeartbeats 1000000 in
set_option maxRecDepth 100000 in
theorem Sorter_putInOrder_q {v0 : Nat} {v1 : Nat} {h : am_H} {r : am_H} (hb : Sorter_putInOrder v0 v1 h = some r) : Eqs h r := by
  unfold Sorter_putInOrder at hb
  have hb := (iz hb).2
  have w0 := Eqs.rf h
  obtain ⟨h11, e_h11, hb12⟩ := ob2 hb
  have w13 := w0.tr (Sorter_rankCards_q e_h11)
  obtain ⟨h14, e_h14, hb15⟩ := ob2 hb12
  have w16 := w13.tr (pV_q e_h14)
  exact w16.tr (Sorter_putInOrder_12_q hb15)
theorem Sorter_putInOrder_o {v0 : Nat} {v1 : Nat} {h : am_H} {r : am_H} (hb : Sorter_putInOrder v0 v1 h = some r) : isO h 5 v0 = true := by
  unfold Sorter_putInOrder at hb
  exact (iz hb).1
