/-! Ways: its methods as functions (by wip/whole/dec.py) -/
set_option maxHeartbeats 1000000 in
set_option maxRecDepth 100000 in
noncomputable def Ways_rowsOf (v0 : Int32) (h : am_H) : Option Int32 := if v0 < (0 : Int32) then some (1 : Int32) else if (8 : Int32) ≤ v0 then some (1 : Int32) else (rwsA v0).bind fun x5 => some x5
set_option maxHeartbeats 1000000 in
set_option maxRecDepth 100000 in
theorem Ways_rowsOf_s {v0 : Int32} {h : am_H} {r : Int32} (hb : Ways_rowsOf v0 h = some r) : Sx 0 mX10_rowsOf 0 (am_en [.int v0] 1) [] h (some (.int r)) h := by
  unfold Ways_rowsOf at hb
  show Sx 0 mX10_rowsOf 0 [.int v0] [] h (some (.int r)) h
  refine Sx.o (fun _ _ _ k => ex_iload_n dX10_rowsOf_0 rfl k) ?_
  refine Sx.b (fun _ _ _ k1 k2 => ex_if_lt 20 dX10_rowsOf_1 (by decide) k1 k2) (fun q => ?_) (fun q => ?_)
  · have hb1 := ip q hb
    refine Sx.o (fun _ _ _ k => op_iconst (1 : Int32) dX10_rowsOf_20 (by decide) k) ?_
    obtain rfl := Option.some.inj hb1
    exact Sx.r (fun _ _ _ k => ex_iret rfl dX10_rowsOf_21 k)
  · have hb2 := iq q hb
    refine Sx.o (fun _ _ _ k => ex_iload_n dX10_rowsOf_4 rfl k) ?_
    refine Sx.o (fun _ _ _ k => ex_getsR gX10_121 dX10_rowsOf_5 k) ?_
    refine Sx.o (fun _ _ _ k => ex_rowsLen dX10_rowsOf_8 k) ?_
    refine Sx.b (fun _ _ _ k1 k2 => ex_icmp_ge 20 dX10_rowsOf_9 (by decide) k1 k2) (fun q => ?_) (fun q => ?_)
    · have hb3 := ip q hb2
      refine Sx.o (fun _ _ _ k => op_iconst (1 : Int32) dX10_rowsOf_20 (by decide) k) ?_
      obtain rfl := Option.some.inj hb3
      exact Sx.r (fun _ _ _ k => ex_iret rfl dX10_rowsOf_21 k)
    · have hb4 := iq q hb2
      refine Sx.o (fun _ _ _ k => ex_getsR gX10_121 dX10_rowsOf_12 k) ?_
      refine Sx.o (fun _ _ _ k => ex_iload_n dX10_rowsOf_15 rfl k) ?_
      obtain ⟨x5, e_x5, hb6⟩ := ob2 hb4
      refine Sx.o (fun _ _ _ k => op_rows dX10_rowsOf_16 e_x5 k) ?_
      refine Sx.o (fun _ _ _ k => ex_goto 21 dX10_rowsOf_17 (by decide) k) ?_
      obtain rfl := Option.some.inj hb6
      exact Sx.r (fun _ _ _ k => ex_iret rfl dX10_rowsOf_21 k)
set_option maxHeartbeats 1000000 in
set_option maxRecDepth 100000 in
noncomputable def Ways_layOut_44_b (g : (Nat × Int32 × Int32 × Int32 × Int32 × Int32 × Nat × am_H) → Option am_H) (v0 : Nat) (v2 : Int32) (v3 : Int32) (v4 : Int32) (h : am_H) : Option am_H := (gR h 10 v0 8).bind fun x1 => (gI h 4 x1 1).bind fun x3 => if x3 ≤ v4 then some h else (gR h 10 v0 8).bind fun x7 => (gI h 4 x7 1).bind fun x9 => (Ways_rowsOf ((x9 - (1 : Int32)) - v4) h).bind fun x11 => (dvI v3 (if x11 < (1 : Int32) then (1 : Int32) else x11)).bind fun x13 => (rmI v3 (if x11 < (1 : Int32) then (1 : Int32) else x11)).bind fun x15 => g (91, v2, x15, v4, x13, (0 : Int32), v0, h)
set_option maxHeartbeats 1000000 in
set_option maxRecDepth 100000 in
theorem Ways_layOut_44_m {g g2 : (Nat × Int32 × Int32 × Int32 × Int32 × Int32 × Nat × am_H) → Option am_H} (hg : ∀ s, Le (g s) (g2 s)) (v0 : Nat) (v2 : Int32) (v3 : Int32) (v4 : Int32) (h : am_H) : Le (Ways_layOut_44_b g v0 v2 v3 v4 h) (Ways_layOut_44_b g2 v0 v2 v3 v4 h) := by unfold Ways_layOut_44_b; exact le_b (le_r _) fun x1 => le_b (le_r _) fun x3 => le_i (le_r _) (le_b (le_r _) fun x7 => le_b (le_r _) fun x9 => le_b (le_r _) fun x11 => le_b (le_r _) fun x13 => le_b (le_r _) fun x15 => hg _)
set_option maxHeartbeats 1000000 in
set_option maxRecDepth 100000 in
noncomputable def Ways_layOut_91_b (g : (Nat × Int32 × Int32 × Int32 × Int32 × Int32 × Nat × am_H) → Option am_H) (v0 : Nat) (v2 : Int32) (v3 : Int32) (v4 : Int32) (v6 : Int32) (v7 : Int32) (h : am_H) : Option am_H := (gR h 10 v0 8).bind fun x17 => (gI h 4 x17 1).bind fun x19 => if x19 ≤ v7 then g (156, v2, v3, v4, 0, 0, v0, h) else if ((v2 >>> (v7 &&& 31)) &&& (1 : Int32)) = (0 : Int32) then if v6 = (0 : Int32) then (gR h 10 v0 10).bind fun x27 => (gR h 4 x27 0).bind fun x29 => (gR h 10 v0 8).bind fun x31 => (gR h 4 x31 0).bind fun x33 => (aI h 0 x33 v7).bind fun x35 => (sI h x29 v4 x35).bind fun h37 => g (156, (v2 ||| ((1 : Int32) <<< (v7 &&& 31))), v3, v4, 0, 0, v0, h37) else g (150, v2, v3, v4, (v6 + (-1 : Int32)), v7, v0, h) else g (150, v2, v3, v4, v6, v7, v0, h)
set_option maxHeartbeats 1000000 in
set_option maxRecDepth 100000 in
theorem Ways_layOut_91_m {g g2 : (Nat × Int32 × Int32 × Int32 × Int32 × Int32 × Nat × am_H) → Option am_H} (hg : ∀ s, Le (g s) (g2 s)) (v0 : Nat) (v2 : Int32) (v3 : Int32) (v4 : Int32) (v6 : Int32) (v7 : Int32) (h : am_H) : Le (Ways_layOut_91_b g v0 v2 v3 v4 v6 v7 h) (Ways_layOut_91_b g2 v0 v2 v3 v4 v6 v7 h) := by unfold Ways_layOut_91_b; exact le_b (le_r _) fun x17 => le_b (le_r _) fun x19 => le_i (hg _) (le_i (le_i (le_b (le_r _) fun x27 => le_b (le_r _) fun x29 => le_b (le_r _) fun x31 => le_b (le_r _) fun x33 => le_b (le_r _) fun x35 => le_b (le_r _) fun h37 => hg _) (hg _)) (hg _))
set_option maxHeartbeats 1000000 in
set_option maxRecDepth 100000 in
noncomputable def Ways_layOut_150_b (g : (Nat × Int32 × Int32 × Int32 × Int32 × Int32 × Nat × am_H) → Option am_H) (v0 : Nat) (v2 : Int32) (v3 : Int32) (v4 : Int32) (v6 : Int32) (v7 : Int32) (h : am_H) : Option am_H := g (91, v2, v3, v4, v6, (v7 + (1 : Int32)), v0, h)
set_option maxHeartbeats 1000000 in
set_option maxRecDepth 100000 in
theorem Ways_layOut_150_m {g g2 : (Nat × Int32 × Int32 × Int32 × Int32 × Int32 × Nat × am_H) → Option am_H} (hg : ∀ s, Le (g s) (g2 s)) (v0 : Nat) (v2 : Int32) (v3 : Int32) (v4 : Int32) (v6 : Int32) (v7 : Int32) (h : am_H) : Le (Ways_layOut_150_b g v0 v2 v3 v4 v6 v7 h) (Ways_layOut_150_b g2 v0 v2 v3 v4 v6 v7 h) := by unfold Ways_layOut_150_b; exact hg _
set_option maxHeartbeats 1000000 in
set_option maxRecDepth 100000 in
noncomputable def Ways_layOut_156_b (g : (Nat × Int32 × Int32 × Int32 × Int32 × Int32 × Nat × am_H) → Option am_H) (v0 : Nat) (v2 : Int32) (v3 : Int32) (v4 : Int32) (h : am_H) : Option am_H := g (44, v2, v3, (v4 + (1 : Int32)), 0, 0, v0, h)
set_option maxHeartbeats 1000000 in
set_option maxRecDepth 100000 in
theorem Ways_layOut_156_m {g g2 : (Nat × Int32 × Int32 × Int32 × Int32 × Int32 × Nat × am_H) → Option am_H} (hg : ∀ s, Le (g s) (g2 s)) (v0 : Nat) (v2 : Int32) (v3 : Int32) (v4 : Int32) (h : am_H) : Le (Ways_layOut_156_b g v0 v2 v3 v4 h) (Ways_layOut_156_b g2 v0 v2 v3 v4 h) := by unfold Ways_layOut_156_b; exact hg _
noncomputable def Ways_layOut_44_F (g : (Nat × Int32 × Int32 × Int32 × Int32 × Int32 × Nat × am_H) → Option am_H) (s : (Nat × Int32 × Int32 × Int32 × Int32 × Int32 × Nat × am_H)) : Option am_H := if s.1 = 44 then Ways_layOut_44_b g s.2.2.2.2.2.2.1 s.2.1 s.2.2.1 s.2.2.2.1 s.2.2.2.2.2.2.2 else if s.1 = 91 then Ways_layOut_91_b g s.2.2.2.2.2.2.1 s.2.1 s.2.2.1 s.2.2.2.1 s.2.2.2.2.1 s.2.2.2.2.2.1 s.2.2.2.2.2.2.2 else if s.1 = 150 then Ways_layOut_150_b g s.2.2.2.2.2.2.1 s.2.1 s.2.2.1 s.2.2.2.1 s.2.2.2.2.1 s.2.2.2.2.2.1 s.2.2.2.2.2.2.2 else if s.1 = 156 then Ways_layOut_156_b g s.2.2.2.2.2.2.1 s.2.1 s.2.2.1 s.2.2.2.1 s.2.2.2.2.2.2.2 else none
theorem Ways_layOut_44_M : Mn Ways_layOut_44_F := fun g g2 hg s => by unfold Ways_layOut_44_F; exact le_i (Ways_layOut_44_m hg s.2.2.2.2.2.2.1 s.2.1 s.2.2.1 s.2.2.2.1 s.2.2.2.2.2.2.2) (le_i (Ways_layOut_91_m hg s.2.2.2.2.2.2.1 s.2.1 s.2.2.1 s.2.2.2.1 s.2.2.2.2.1 s.2.2.2.2.2.1 s.2.2.2.2.2.2.2) (le_i (Ways_layOut_150_m hg s.2.2.2.2.2.2.1 s.2.1 s.2.2.1 s.2.2.2.1 s.2.2.2.2.1 s.2.2.2.2.2.1 s.2.2.2.2.2.2.2) (le_i (Ways_layOut_156_m hg s.2.2.2.2.2.2.1 s.2.1 s.2.2.1 s.2.2.2.1 s.2.2.2.2.2.2.2) (le_r _))))
def Ways_layOut_44_P (s : (Nat × Int32 × Int32 × Int32 × Int32 × Int32 × Nat × am_H)) (r : am_H) : Prop := (s.1 = 44 → Sx 2 mX10_layOut 44 [.ref s.2.2.2.2.2.2.1, .retAddr 0, .int s.2.1, .int s.2.2.1, .int s.2.2.2.1, .retAddr 0, .retAddr 0, .retAddr 0] [] s.2.2.2.2.2.2.2 none r) ∧ (s.1 = 91 → Sx 2 mX10_layOut 91 [.ref s.2.2.2.2.2.2.1, .retAddr 0, .int s.2.1, .int s.2.2.1, .int s.2.2.2.1, .retAddr 0, .int s.2.2.2.2.1, .int s.2.2.2.2.2.1] [] s.2.2.2.2.2.2.2 none r) ∧ (s.1 = 150 → Sx 2 mX10_layOut 150 [.ref s.2.2.2.2.2.2.1, .retAddr 0, .int s.2.1, .int s.2.2.1, .int s.2.2.2.1, .retAddr 0, .int s.2.2.2.2.1, .int s.2.2.2.2.2.1] [] s.2.2.2.2.2.2.2 none r) ∧ (s.1 = 156 → Sx 2 mX10_layOut 156 [.ref s.2.2.2.2.2.2.1, .retAddr 0, .int s.2.1, .int s.2.2.1, .int s.2.2.2.1, .retAddr 0, .retAddr 0, .retAddr 0] [] s.2.2.2.2.2.2.2 none r) ∧ True
set_option maxHeartbeats 1000000 in
set_option maxRecDepth 100000 in
theorem Ways_layOut_44_t {g : (Nat × Int32 × Int32 × Int32 × Int32 × Int32 × Nat × am_H) → Option am_H} (hg : ∀ s r, g s = some r → Ways_layOut_44_P s r) {v0 : Nat} {v2 : Int32} {v3 : Int32} {v4 : Int32} {h : am_H} {r : am_H} (hb : Ways_layOut_44_b g v0 v2 v3 v4 h = some r) : Sx 2 mX10_layOut 44 [.ref v0, .retAddr 0, .int v2, .int v3, .int v4, .retAddr 0, .retAddr 0, .retAddr 0] [] h none r := by
  unfold Ways_layOut_44_b at hb
  refine Sx.o (fun _ _ _ k => ex_iload dX10_layOut_44 rfl k) ?_
  refine Sx.o (fun _ _ _ k => ex_aload_n dX10_layOut_46 rfl rfl k) ?_
  obtain ⟨x1, e_x1, hb2⟩ := ob2 hb
  refine Sx.o (fun _ _ _ k => op_getR fX10_18 dX10_layOut_47 e_x1 k) ?_
  obtain ⟨x3, e_x3, hb4⟩ := ob2 hb2
  refine Sx.o (fun _ _ _ k => op_getI fX10_52 dX10_layOut_50 e_x3 k) ?_
  refine Sx.b (fun _ _ _ k1 k2 => ex_icmp_ge 162 dX10_layOut_53 (by decide) k1 k2) (fun q => ?_) (fun q => ?_)
  · have hb5 := ip q hb4
    obtain rfl := Option.some.inj hb5
    exact Sx.r (fun _ _ _ k => ex_vret rfl dX10_layOut_162 k)
  · have hb6 := iq q hb4
    refine Sx.o (fun _ _ _ k => ex_aload_n dX10_layOut_56 rfl rfl k) ?_
    obtain ⟨x7, e_x7, hb8⟩ := ob2 hb6
    refine Sx.o (fun _ _ _ k => op_getR fX10_18 dX10_layOut_57 e_x7 k) ?_
    obtain ⟨x9, e_x9, hb10⟩ := ob2 hb8
    refine Sx.o (fun _ _ _ k => op_getI fX10_52 dX10_layOut_60 e_x9 k) ?_
    refine Sx.o (fun _ _ _ k => op_iconst (1 : Int32) dX10_layOut_63 (by decide) k) ?_
    refine Sx.o (fun _ _ _ k => ex_isub dX10_layOut_64 k) ?_
    refine Sx.o (fun _ _ _ k => ex_iload dX10_layOut_65 rfl k) ?_
    refine Sx.o (fun _ _ _ k => ex_isub dX10_layOut_67 k) ?_
    obtain ⟨x11, e_x11, hb12⟩ := ob2 hb10
    refine sx_callS (dc := 0) (as := [.int ((x9 - (1 : Int32)) - v4)]) (stq := [.int x11]) (by omega) dX10_layOut_68 MX10_rowsOf kX10_118 tX10_rowsOf rfl rfl (Nat.le_of_ble_eq_true rfl) (Nat.le_of_ble_eq_true rfl) (Ways_rowsOf_s e_x11) rfl ?_
    refine Sx.o (fun _ _ _ k => op_iconst (1 : Int32) dX10_layOut_71 (by decide) k) ?_
    refine Sx.o (fun _ _ _ k => op_mmax (by omega) dX10_layOut_72 kX10_62 (Nat.le_of_ble_eq_true rfl) k) ?_
    refine Sx.o (L' := [.ref v0, .retAddr 0, .int v2, .int v3, .int v4, .int (if x11 < (1 : Int32) then (1 : Int32) else x11), .retAddr 0, .retAddr 0]) (fun _ _ _ k => ex_istore dX10_layOut_75 (by decide) k) ?_
    refine Sx.o (fun _ _ _ k => ex_iload_n dX10_layOut_77 rfl k) ?_
    refine Sx.o (fun _ _ _ k => ex_iload dX10_layOut_78 rfl k) ?_
    obtain ⟨x13, e_x13, hb14⟩ := ob2 hb12
    refine Sx.o (fun _ _ _ k => op_idiv dX10_layOut_80 e_x13 k) ?_
    refine Sx.o (L' := [.ref v0, .retAddr 0, .int v2, .int v3, .int v4, .int (if x11 < (1 : Int32) then (1 : Int32) else x11), .int x13, .retAddr 0]) (fun _ _ _ k => ex_istore dX10_layOut_81 (by decide) k) ?_
    refine Sx.o (fun _ _ _ k => ex_iload_n dX10_layOut_83 rfl k) ?_
    refine Sx.o (fun _ _ _ k => ex_iload dX10_layOut_84 rfl k) ?_
    obtain ⟨x15, e_x15, hb16⟩ := ob2 hb14
    refine Sx.o (fun _ _ _ k => op_irem dX10_layOut_86 e_x15 k) ?_
    refine Sx.o (L' := [.ref v0, .retAddr 0, .int v2, .int x15, .int v4, .int (if x11 < (1 : Int32) then (1 : Int32) else x11), .int x13, .retAddr 0]) (fun _ _ _ k => ex_istore_n dX10_layOut_87 (by decide) k) ?_
    refine Sx.o (fun _ _ _ k => op_iconst (0 : Int32) dX10_layOut_88 (by decide) k) ?_
    refine Sx.o (L' := [.ref v0, .retAddr 0, .int v2, .int x15, .int v4, .int (if x11 < (1 : Int32) then (1 : Int32) else x11), .int x13, .int (0 : Int32)]) (fun _ _ _ k => ex_istore dX10_layOut_89 (by decide) k) ?_
    refine Sx.fg [true, true, true, true, true, false, true, true] ?_
    exact (hg _ _ hb16).2.1 rfl
set_option maxHeartbeats 1000000 in
set_option maxRecDepth 100000 in
theorem Ways_layOut_91_t {g : (Nat × Int32 × Int32 × Int32 × Int32 × Int32 × Nat × am_H) → Option am_H} (hg : ∀ s r, g s = some r → Ways_layOut_44_P s r) {v0 : Nat} {v2 : Int32} {v3 : Int32} {v4 : Int32} {v6 : Int32} {v7 : Int32} {h : am_H} {r : am_H} (hb : Ways_layOut_91_b g v0 v2 v3 v4 v6 v7 h = some r) : Sx 2 mX10_layOut 91 [.ref v0, .retAddr 0, .int v2, .int v3, .int v4, .retAddr 0, .int v6, .int v7] [] h none r := by
  unfold Ways_layOut_91_b at hb
  refine Sx.o (fun _ _ _ k => ex_iload dX10_layOut_91 rfl k) ?_
  refine Sx.o (fun _ _ _ k => ex_aload_n dX10_layOut_93 rfl rfl k) ?_
  obtain ⟨x17, e_x17, hb18⟩ := ob2 hb
  refine Sx.o (fun _ _ _ k => op_getR fX10_18 dX10_layOut_94 e_x17 k) ?_
  obtain ⟨x19, e_x19, hb20⟩ := ob2 hb18
  refine Sx.o (fun _ _ _ k => op_getI fX10_52 dX10_layOut_97 e_x19 k) ?_
  refine Sx.b (fun _ _ _ k1 k2 => ex_icmp_ge 156 dX10_layOut_100 (by decide) k1 k2) (fun q => ?_) (fun q => ?_)
  · have hb21 := ip q hb20
    refine Sx.fg [true, true, true, true, true, true, false, false] ?_
    exact (hg _ _ hb21).2.2.2.1 rfl
  · have hb22 := iq q hb20
    refine Sx.o (fun _ _ _ k => ex_iload_n dX10_layOut_103 rfl k) ?_
    refine Sx.o (fun _ _ _ k => ex_iload dX10_layOut_104 rfl k) ?_
    refine Sx.o (fun _ _ _ k => ex_ishr dX10_layOut_106 k) ?_
    refine Sx.o (fun _ _ _ k => op_iconst (1 : Int32) dX10_layOut_107 (by decide) k) ?_
    refine Sx.o (fun _ _ _ k => ex_iand dX10_layOut_108 k) ?_
    refine Sx.bn (fun _ _ _ k1 k2 => ex_if_ne 150 dX10_layOut_109 (by decide) k1 k2) (fun q => ?_) (fun q => ?_)
    · have hb23 := iq q hb22
      exact (hg _ _ hb23).2.2.1 rfl
    · have hb24 := ip q hb22
      refine Sx.o (fun _ _ _ k => ex_iload dX10_layOut_112 rfl k) ?_
      refine Sx.bn (fun _ _ _ k1 k2 => ex_if_ne 147 dX10_layOut_114 (by decide) k1 k2) (fun q => ?_) (fun q => ?_)
      · have hb25 := iq q hb24
        refine Sx.o (L' := [.ref v0, .retAddr 0, .int v2, .int v3, .int v4, .retAddr 0, .int (v6 + (-1 : Int32)), .int v7]) (fun _ _ _ k => op_iinc (-1 : Int32) dX10_layOut_147 (by decide) rfl (by decide) k) ?_
        exact (hg _ _ hb25).2.2.1 rfl
      · have hb26 := ip q hb24
        refine Sx.o (fun _ _ _ k => ex_iload_n dX10_layOut_117 rfl k) ?_
        refine Sx.o (fun _ _ _ k => op_iconst (1 : Int32) dX10_layOut_118 (by decide) k) ?_
        refine Sx.o (fun _ _ _ k => ex_iload dX10_layOut_119 rfl k) ?_
        refine Sx.o (fun _ _ _ k => ex_ishl dX10_layOut_121 k) ?_
        refine Sx.o (fun _ _ _ k => ex_ior dX10_layOut_122 k) ?_
        refine Sx.o (L' := [.ref v0, .retAddr 0, .int (v2 ||| ((1 : Int32) <<< (v7 &&& 31))), .int v3, .int v4, .retAddr 0, .int v6, .int v7]) (fun _ _ _ k => ex_istore_n dX10_layOut_123 (by decide) k) ?_
        refine Sx.o (fun _ _ _ k => ex_aload_n dX10_layOut_124 rfl rfl k) ?_
        obtain ⟨x27, e_x27, hb28⟩ := ob2 hb26
        refine Sx.o (fun _ _ _ k => op_getR fX10_25 dX10_layOut_125 e_x27 k) ?_
        obtain ⟨x29, e_x29, hb30⟩ := ob2 hb28
        refine Sx.o (fun _ _ _ k => op_getR fX10_115 dX10_layOut_128 e_x29 k) ?_
        refine Sx.o (fun _ _ _ k => ex_iload dX10_layOut_131 rfl k) ?_
        refine Sx.o (fun _ _ _ k => ex_aload_n dX10_layOut_133 rfl rfl k) ?_
        obtain ⟨x31, e_x31, hb32⟩ := ob2 hb30
        refine Sx.o (fun _ _ _ k => op_getR fX10_18 dX10_layOut_134 e_x31 k) ?_
        obtain ⟨x33, e_x33, hb34⟩ := ob2 hb32
        refine Sx.o (fun _ _ _ k => op_getR fX10_115 dX10_layOut_137 e_x33 k) ?_
        refine Sx.o (fun _ _ _ k => ex_iload dX10_layOut_140 rfl k) ?_
        obtain ⟨x35, e_x35, hb36⟩ := ob2 hb34
        refine Sx.o (fun _ _ _ k => op_iald dX10_layOut_142 e_x35 k) ?_
        obtain ⟨h37, e_h37, hb38⟩ := ob2 hb36
        refine Sx.p (sI_q e_h37) (fun _ _ _ k => op_iast dX10_layOut_143 e_h37 k) ?_
        refine Sx.o (fun _ _ _ k => ex_goto 156 dX10_layOut_144 (by decide) k) ?_
        refine Sx.fg [true, true, true, true, true, true, false, false] ?_
        exact (hg _ _ hb38).2.2.2.1 rfl
set_option maxHeartbeats 1000000 in
set_option maxRecDepth 100000 in
theorem Ways_layOut_150_t {g : (Nat × Int32 × Int32 × Int32 × Int32 × Int32 × Nat × am_H) → Option am_H} (hg : ∀ s r, g s = some r → Ways_layOut_44_P s r) {v0 : Nat} {v2 : Int32} {v3 : Int32} {v4 : Int32} {v6 : Int32} {v7 : Int32} {h : am_H} {r : am_H} (hb : Ways_layOut_150_b g v0 v2 v3 v4 v6 v7 h = some r) : Sx 2 mX10_layOut 150 [.ref v0, .retAddr 0, .int v2, .int v3, .int v4, .retAddr 0, .int v6, .int v7] [] h none r := by
  unfold Ways_layOut_150_b at hb
  refine Sx.o (L' := [.ref v0, .retAddr 0, .int v2, .int v3, .int v4, .retAddr 0, .int v6, .int (v7 + (1 : Int32))]) (fun _ _ _ k => op_iinc (1 : Int32) dX10_layOut_150 (by decide) rfl (by decide) k) ?_
  refine Sx.o (fun _ _ _ k => ex_goto 91 dX10_layOut_153 (by decide) k) ?_
  exact (hg _ _ hb).2.1 rfl
set_option maxHeartbeats 1000000 in
set_option maxRecDepth 100000 in
theorem Ways_layOut_156_t {g : (Nat × Int32 × Int32 × Int32 × Int32 × Int32 × Nat × am_H) → Option am_H} (hg : ∀ s r, g s = some r → Ways_layOut_44_P s r) {v0 : Nat} {v2 : Int32} {v3 : Int32} {v4 : Int32} {h : am_H} {r : am_H} (hb : Ways_layOut_156_b g v0 v2 v3 v4 h = some r) : Sx 2 mX10_layOut 156 [.ref v0, .retAddr 0, .int v2, .int v3, .int v4, .retAddr 0, .retAddr 0, .retAddr 0] [] h none r := by
  unfold Ways_layOut_156_b at hb
  refine Sx.o (L' := [.ref v0, .retAddr 0, .int v2, .int v3, .int (v4 + (1 : Int32)), .retAddr 0, .retAddr 0, .retAddr 0]) (fun _ _ _ k => op_iinc (1 : Int32) dX10_layOut_156 (by decide) rfl (by decide) k) ?_
  refine Sx.o (fun _ _ _ k => ex_goto 44 dX10_layOut_159 (by decide) k) ?_
  exact (hg _ _ hb).1 rfl
theorem Ways_layOut_44_T : ∀ s r, fx Ways_layOut_44_F Ways_layOut_44_M s = some r → Ways_layOut_44_P s r := fx_ind Ways_layOut_44_M Ways_layOut_44_P (fun g hg s r hb => by
  unfold Ways_layOut_44_F at hb
  exact ⟨fun q => Ways_layOut_44_t hg (ip q hb), fun q => Ways_layOut_91_t hg (ip q (iq (by rw [q]; decide) hb)), fun q => Ways_layOut_150_t hg (ip q (iq (by rw [q]; decide) (iq (by rw [q]; decide) hb))), fun q => Ways_layOut_156_t hg (ip q (iq (by rw [q]; decide) (iq (by rw [q]; decide) (iq (by rw [q]; decide) hb)))), trivial⟩)
set_option maxHeartbeats 1000000 in
set_option maxRecDepth 100000 in
theorem Ways_layOut_44_r {g : (Nat × Int32 × Int32 × Int32 × Int32 × Int32 × Nat × am_H) → Option am_H} (hg : ∀ s r, g s = some r → Eqs s.2.2.2.2.2.2.2 r) {v0 : Nat} {v2 : Int32} {v3 : Int32} {v4 : Int32} {h : am_H} {r : am_H} (hb : Ways_layOut_44_b g v0 v2 v3 v4 h = some r) : Eqs h r := by
  unfold Ways_layOut_44_b at hb
  have w0 := Eqs.rf h
  obtain ⟨x1, e_x1, hb2⟩ := ob2 hb
  obtain ⟨x3, e_x3, hb4⟩ := ob2 hb2
  by_cases q : x3 ≤ v4
  · have hb5 := ip q hb4
    obtain rfl := Option.some.inj hb5
    exact w0
  · have hb6 := iq q hb4
    obtain ⟨x7, e_x7, hb8⟩ := ob2 hb6
    obtain ⟨x9, e_x9, hb10⟩ := ob2 hb8
    obtain ⟨x11, e_x11, hb12⟩ := ob2 hb10
    obtain ⟨x13, e_x13, hb14⟩ := ob2 hb12
    obtain ⟨x15, e_x15, hb16⟩ := ob2 hb14
    exact w0.tr (hg _ _ hb16)
set_option maxHeartbeats 1000000 in
set_option maxRecDepth 100000 in
theorem Ways_layOut_91_r {g : (Nat × Int32 × Int32 × Int32 × Int32 × Int32 × Nat × am_H) → Option am_H} (hg : ∀ s r, g s = some r → Eqs s.2.2.2.2.2.2.2 r) {v0 : Nat} {v2 : Int32} {v3 : Int32} {v4 : Int32} {v6 : Int32} {v7 : Int32} {h : am_H} {r : am_H} (hb : Ways_layOut_91_b g v0 v2 v3 v4 v6 v7 h = some r) : Eqs h r := by
  unfold Ways_layOut_91_b at hb
  have w0 := Eqs.rf h
  obtain ⟨x17, e_x17, hb18⟩ := ob2 hb
  obtain ⟨x19, e_x19, hb20⟩ := ob2 hb18
  by_cases q : x19 ≤ v7
  · have hb21 := ip q hb20
    exact w0.tr (hg _ _ hb21)
  · have hb22 := iq q hb20
    by_cases q : ((v2 >>> (v7 &&& 31)) &&& (1 : Int32)) = (0 : Int32)
    · have hb24 := ip q hb22
      by_cases q : v6 = (0 : Int32)
      · have hb26 := ip q hb24
        obtain ⟨x27, e_x27, hb28⟩ := ob2 hb26
        obtain ⟨x29, e_x29, hb30⟩ := ob2 hb28
        obtain ⟨x31, e_x31, hb32⟩ := ob2 hb30
        obtain ⟨x33, e_x33, hb34⟩ := ob2 hb32
        obtain ⟨x35, e_x35, hb36⟩ := ob2 hb34
        obtain ⟨h37, e_h37, hb38⟩ := ob2 hb36
        have w39 := w0.tr (sI_q e_h37)
        exact w39.tr (hg _ _ hb38)
      · have hb25 := iq q hb24
        exact w0.tr (hg _ _ hb25)
    · have hb23 := iq q hb22
      exact w0.tr (hg _ _ hb23)
set_option maxHeartbeats 1000000 in
set_option maxRecDepth 100000 in
theorem Ways_layOut_150_r {g : (Nat × Int32 × Int32 × Int32 × Int32 × Int32 × Nat × am_H) → Option am_H} (hg : ∀ s r, g s = some r → Eqs s.2.2.2.2.2.2.2 r) {v0 : Nat} {v2 : Int32} {v3 : Int32} {v4 : Int32} {v6 : Int32} {v7 : Int32} {h : am_H} {r : am_H} (hb : Ways_layOut_150_b g v0 v2 v3 v4 v6 v7 h = some r) : Eqs h r := by
  unfold Ways_layOut_150_b at hb
  have w0 := Eqs.rf h
  exact w0.tr (hg _ _ hb)
set_option maxHeartbeats 1000000 in
set_option maxRecDepth 100000 in
theorem Ways_layOut_156_r {g : (Nat × Int32 × Int32 × Int32 × Int32 × Int32 × Nat × am_H) → Option am_H} (hg : ∀ s r, g s = some r → Eqs s.2.2.2.2.2.2.2 r) {v0 : Nat} {v2 : Int32} {v3 : Int32} {v4 : Int32} {h : am_H} {r : am_H} (hb : Ways_layOut_156_b g v0 v2 v3 v4 h = some r) : Eqs h r := by
  unfold Ways_layOut_156_b at hb
  have w0 := Eqs.rf h
  exact w0.tr (hg _ _ hb)
theorem Ways_layOut_44_Q : ∀ s r, fx Ways_layOut_44_F Ways_layOut_44_M s = some r → Eqs s.2.2.2.2.2.2.2 r := fx_ind Ways_layOut_44_M (fun s r => Eqs s.2.2.2.2.2.2.2 r) (fun g hg s r hb => by
  unfold Ways_layOut_44_F at hb
  by_cases q0 : s.1 = 44
  · exact Ways_layOut_44_r hg (ip q0 hb)
  · have hb0 := iq q0 hb
    by_cases q1 : s.1 = 91
    · exact Ways_layOut_91_r hg (ip q1 hb0)
    · have hb1 := iq q1 hb0
      by_cases q2 : s.1 = 150
      · exact Ways_layOut_150_r hg (ip q2 hb1)
      · have hb2 := iq q2 hb1
        by_cases q3 : s.1 = 156
        · exact Ways_layOut_156_r hg (ip q3 hb2)
        · have hb3 := iq q3 hb2
          exact nomatch hb3)
noncomputable def Ways_layOut_44 (v0 : Nat) (v2 : Int32) (v3 : Int32) (v4 : Int32) (h : am_H) : Option am_H := fx Ways_layOut_44_F Ways_layOut_44_M (44, v2, v3, v4, 0, 0, v0, h)
noncomputable def Ways_layOut_91 (v0 : Nat) (v2 : Int32) (v3 : Int32) (v4 : Int32) (v6 : Int32) (v7 : Int32) (h : am_H) : Option am_H := fx Ways_layOut_44_F Ways_layOut_44_M (91, v2, v3, v4, v6, v7, v0, h)
noncomputable def Ways_layOut_150 (v0 : Nat) (v2 : Int32) (v3 : Int32) (v4 : Int32) (v6 : Int32) (v7 : Int32) (h : am_H) : Option am_H := fx Ways_layOut_44_F Ways_layOut_44_M (150, v2, v3, v4, v6, v7, v0, h)
noncomputable def Ways_layOut_156 (v0 : Nat) (v2 : Int32) (v3 : Int32) (v4 : Int32) (h : am_H) : Option am_H := fx Ways_layOut_44_F Ways_layOut_44_M (156, v2, v3, v4, 0, 0, v0, h)
set_option maxHeartbeats 1000000 in
set_option maxRecDepth 100000 in
theorem Ways_layOut_44_e (v0 : Nat) (v2 : Int32) (v3 : Int32) (v4 : Int32) (h : am_H) : Ways_layOut_44 v0 v2 v3 v4 h = ((gR h 10 v0 8).bind fun x1 => (gI h 4 x1 1).bind fun x3 => if x3 ≤ v4 then some h else (gR h 10 v0 8).bind fun x7 => (gI h 4 x7 1).bind fun x9 => (Ways_rowsOf ((x9 - (1 : Int32)) - v4) h).bind fun x11 => (dvI v3 (if x11 < (1 : Int32) then (1 : Int32) else x11)).bind fun x13 => (rmI v3 (if x11 < (1 : Int32) then (1 : Int32) else x11)).bind fun x15 => Ways_layOut_91 v0 v2 x15 v4 x13 (0 : Int32) h) := (fx_eq Ways_layOut_44_M (44, v2, v3, v4, 0, 0, v0, h)).trans (if_pos rfl)
theorem Ways_layOut_44_q {v0 : Nat} {v2 : Int32} {v3 : Int32} {v4 : Int32} {h : am_H} {r : am_H} (hb : Ways_layOut_44 v0 v2 v3 v4 h = some r) : Eqs h r := Ways_layOut_44_Q _ _ hb
theorem Ways_layOut_44_s {v0 : Nat} {v2 : Int32} {v3 : Int32} {v4 : Int32} {h : am_H} {r : am_H} (hb : Ways_layOut_44 v0 v2 v3 v4 h = some r) : Sx 2 mX10_layOut 44 [.ref v0, .retAddr 0, .int v2, .int v3, .int v4, .retAddr 0, .retAddr 0, .retAddr 0] [] h none r := (Ways_layOut_44_T _ _ hb).1 rfl
set_option maxHeartbeats 1000000 in
set_option maxRecDepth 100000 in
theorem Ways_layOut_91_e (v0 : Nat) (v2 : Int32) (v3 : Int32) (v4 : Int32) (v6 : Int32) (v7 : Int32) (h : am_H) : Ways_layOut_91 v0 v2 v3 v4 v6 v7 h = ((gR h 10 v0 8).bind fun x17 => (gI h 4 x17 1).bind fun x19 => if x19 ≤ v7 then Ways_layOut_156 v0 v2 v3 v4 h else if ((v2 >>> (v7 &&& 31)) &&& (1 : Int32)) = (0 : Int32) then if v6 = (0 : Int32) then (gR h 10 v0 10).bind fun x27 => (gR h 4 x27 0).bind fun x29 => (gR h 10 v0 8).bind fun x31 => (gR h 4 x31 0).bind fun x33 => (aI h 0 x33 v7).bind fun x35 => (sI h x29 v4 x35).bind fun h37 => Ways_layOut_156 v0 (v2 ||| ((1 : Int32) <<< (v7 &&& 31))) v3 v4 h37 else Ways_layOut_150 v0 v2 v3 v4 (v6 + (-1 : Int32)) v7 h else Ways_layOut_150 v0 v2 v3 v4 v6 v7 h) := (fx_eq Ways_layOut_44_M (91, v2, v3, v4, v6, v7, v0, h)).trans ((if_neg (show ¬ (91 : Nat) = 44 by decide)).trans (if_pos rfl))
theorem Ways_layOut_91_q {v0 : Nat} {v2 : Int32} {v3 : Int32} {v4 : Int32} {v6 : Int32} {v7 : Int32} {h : am_H} {r : am_H} (hb : Ways_layOut_91 v0 v2 v3 v4 v6 v7 h = some r) : Eqs h r := Ways_layOut_44_Q _ _ hb
theorem Ways_layOut_91_s {v0 : Nat} {v2 : Int32} {v3 : Int32} {v4 : Int32} {v6 : Int32} {v7 : Int32} {h : am_H} {r : am_H} (hb : Ways_layOut_91 v0 v2 v3 v4 v6 v7 h = some r) : Sx 2 mX10_layOut 91 [.ref v0, .retAddr 0, .int v2, .int v3, .int v4, .retAddr 0, .int v6, .int v7] [] h none r := (Ways_layOut_44_T _ _ hb).2.1 rfl
set_option maxHeartbeats 1000000 in
set_option maxRecDepth 100000 in
theorem Ways_layOut_150_e (v0 : Nat) (v2 : Int32) (v3 : Int32) (v4 : Int32) (v6 : Int32) (v7 : Int32) (h : am_H) : Ways_layOut_150 v0 v2 v3 v4 v6 v7 h = (Ways_layOut_91 v0 v2 v3 v4 v6 (v7 + (1 : Int32)) h) := (fx_eq Ways_layOut_44_M (150, v2, v3, v4, v6, v7, v0, h)).trans ((if_neg (show ¬ (150 : Nat) = 44 by decide)).trans ((if_neg (show ¬ (150 : Nat) = 91 by decide)).trans (if_pos rfl)))
theorem Ways_layOut_150_q {v0 : Nat} {v2 : Int32} {v3 : Int32} {v4 : Int32} {v6 : Int32} {v7 : Int32} {h : am_H} {r : am_H} (hb : Ways_layOut_150 v0 v2 v3 v4 v6 v7 h = some r) : Eqs h r := Ways_layOut_44_Q _ _ hb
theorem Ways_layOut_150_s {v0 : Nat} {v2 : Int32} {v3 : Int32} {v4 : Int32} {v6 : Int32} {v7 : Int32} {h : am_H} {r : am_H} (hb : Ways_layOut_150 v0 v2 v3 v4 v6 v7 h = some r) : Sx 2 mX10_layOut 150 [.ref v0, .retAddr 0, .int v2, .int v3, .int v4, .retAddr 0, .int v6, .int v7] [] h none r := (Ways_layOut_44_T _ _ hb).2.2.1 rfl
set_option maxHeartbeats 1000000 in
set_option maxRecDepth 100000 in
theorem Ways_layOut_156_e (v0 : Nat) (v2 : Int32) (v3 : Int32) (v4 : Int32) (h : am_H) : Ways_layOut_156 v0 v2 v3 v4 h = (Ways_layOut_44 v0 v2 v3 (v4 + (1 : Int32)) h) := (fx_eq Ways_layOut_44_M (156, v2, v3, v4, 0, 0, v0, h)).trans ((if_neg (show ¬ (156 : Nat) = 44 by decide)).trans ((if_neg (show ¬ (156 : Nat) = 91 by decide)).trans ((if_neg (show ¬ (156 : Nat) = 150 by decide)).trans (if_pos rfl))))
theorem Ways_layOut_156_q {v0 : Nat} {v2 : Int32} {v3 : Int32} {v4 : Int32} {h : am_H} {r : am_H} (hb : Ways_layOut_156 v0 v2 v3 v4 h = some r) : Eqs h r := Ways_layOut_44_Q _ _ hb
theorem Ways_layOut_156_s {v0 : Nat} {v2 : Int32} {v3 : Int32} {v4 : Int32} {h : am_H} {r : am_H} (hb : Ways_layOut_156 v0 v2 v3 v4 h = some r) : Sx 2 mX10_layOut 156 [.ref v0, .retAddr 0, .int v2, .int v3, .int v4, .retAddr 0, .retAddr 0, .retAddr 0] [] h none r := (Ways_layOut_44_T _ _ hb).2.2.2.1 rfl
set_option maxHeartbeats 1000000 in
set_option maxRecDepth 100000 in
noncomputable def Ways_layOut (v0 : Nat) (v1 : Int32) (h : am_H) : Option am_H := if isO h 10 v0 = true then (gI h 10 v0 15).bind fun x40 => (dvI v1 (if x40 < (1 : Int32) then (1 : Int32) else x40)).bind fun x42 => (gR h 10 v0 10).bind fun x44 => (gR h 10 v0 8).bind fun x46 => (Row_copy x44 x46 h).bind fun h48 => (gR h48 10 v0 10).bind fun x51 => (gI h48 10 v0 15).bind fun x53 => (rmI v1 (if x53 < (1 : Int32) then (1 : Int32) else x53)).bind fun x55 => (pV h48 4 x51 3 (.int x55)).bind fun h57 => Ways_layOut_44 v0 (0 : Int32) x42 (0 : Int32) h57 else none
set_option maxHeartbeats 1000000 in
set_option maxRecDepth 100000 in
theorem Ways_layOut_s {v0 : Nat} {v1 : Int32} {h : am_H} {r : am_H} (hb : Ways_layOut v0 v1 h = some r) : Sx 2 mX10_layOut 0 (am_en [.ref v0, .int v1] 8) [] h none r := by
  unfold Ways_layOut at hb
  have hb := (iz hb).2
  show Sx 2 mX10_layOut 0 [.ref v0, .int v1, .retAddr 0, .retAddr 0, .retAddr 0, .retAddr 0, .retAddr 0, .retAddr 0] [] h none r
  refine Sx.o (fun _ _ _ k => op_iconst (0 : Int32) dX10_layOut_0 (by decide) k) ?_
  refine Sx.o (L' := [.ref v0, .int v1, .int (0 : Int32), .retAddr 0, .retAddr 0, .retAddr 0, .retAddr 0, .retAddr 0]) (fun _ _ _ k => ex_istore_n dX10_layOut_1 (by decide) k) ?_
  refine Sx.o (fun _ _ _ k => ex_iload_n dX10_layOut_2 rfl k) ?_
  refine Sx.o (fun _ _ _ k => ex_aload_n dX10_layOut_3 rfl rfl k) ?_
  obtain ⟨x40, e_x40, hb41⟩ := ob2 hb
  refine Sx.o (fun _ _ _ k => op_getI fX10_75 dX10_layOut_4 e_x40 k) ?_
  refine Sx.o (fun _ _ _ k => op_iconst (1 : Int32) dX10_layOut_7 (by decide) k) ?_
  refine Sx.o (fun _ _ _ k => op_mmax (by omega) dX10_layOut_8 kX10_62 (Nat.le_of_ble_eq_true rfl) k) ?_
  obtain ⟨x42, e_x42, hb43⟩ := ob2 hb41
  refine Sx.o (fun _ _ _ k => op_idiv dX10_layOut_11 e_x42 k) ?_
  refine Sx.o (L' := [.ref v0, .int v1, .int (0 : Int32), .int x42, .retAddr 0, .retAddr 0, .retAddr 0, .retAddr 0]) (fun _ _ _ k => ex_istore_n dX10_layOut_12 (by decide) k) ?_
  refine Sx.o (fun _ _ _ k => ex_aload_n dX10_layOut_13 rfl rfl k) ?_
  obtain ⟨x44, e_x44, hb45⟩ := ob2 hb43
  refine Sx.o (fun _ _ _ k => op_getR fX10_25 dX10_layOut_14 e_x44 k) ?_
  refine Sx.o (fun _ _ _ k => ex_aload_n dX10_layOut_17 rfl rfl k) ?_
  obtain ⟨x46, e_x46, hb47⟩ := ob2 hb45
  refine Sx.o (fun _ _ _ k => op_getR fX10_18 dX10_layOut_18 e_x46 k) ?_
  obtain ⟨h48, e_h48, hb49⟩ := ob2 hb47
  refine sx_callV (dc := 1) (as := [.ref x46]) (stq := []) (by omega) dX10_layOut_21 MX4_copy kX10_48 iX4_copy sX4_copy rfl rfl (Row_copy_o e_h48) rfl rfl (Nat.le_of_ble_eq_true rfl) (Nat.le_of_ble_eq_true rfl) (Row_copy_s e_h48) rfl ?_
  refine Sx.o (fun _ _ _ k => ex_aload_n dX10_layOut_24 rfl rfl k) ?_
  obtain ⟨x51, e_x51, hb52⟩ := ob2 hb49
  refine Sx.o (fun _ _ _ k => op_getR fX10_25 dX10_layOut_25 e_x51 k) ?_
  refine Sx.o (fun _ _ _ k => ex_iload_n dX10_layOut_28 rfl k) ?_
  refine Sx.o (fun _ _ _ k => ex_aload_n dX10_layOut_29 rfl rfl k) ?_
  obtain ⟨x53, e_x53, hb54⟩ := ob2 hb52
  refine Sx.o (fun _ _ _ k => op_getI fX10_75 dX10_layOut_30 e_x53 k) ?_
  refine Sx.o (fun _ _ _ k => op_iconst (1 : Int32) dX10_layOut_33 (by decide) k) ?_
  refine Sx.o (fun _ _ _ k => op_mmax (by omega) dX10_layOut_34 kX10_62 (Nat.le_of_ble_eq_true rfl) k) ?_
  obtain ⟨x55, e_x55, hb56⟩ := ob2 hb54
  refine Sx.o (fun _ _ _ k => op_irem dX10_layOut_37 e_x55 k) ?_
  obtain ⟨h57, e_h57, hb58⟩ := ob2 hb56
  refine Sx.p (pV_q e_h57) (fun _ _ _ k => op_put pX10_69 dX10_layOut_38 e_h57 (fun _ => rfl) (fun _ => rfl) k) ?_
  refine Sx.o (fun _ _ _ k => op_iconst (0 : Int32) dX10_layOut_41 (by decide) k) ?_
  refine Sx.o (L' := [.ref v0, .int v1, .int (0 : Int32), .int x42, .int (0 : Int32), .retAddr 0, .retAddr 0, .retAddr 0]) (fun _ _ _ k => ex_istore dX10_layOut_42 (by decide) k) ?_
  refine Sx.fg [true, false, true, true, true, true, true, true] ?_
  exact Ways_layOut_44_s hb58
set_option maxHeartbeats 1000000 in
set_option maxRecDepth 100000 in
theorem Ways_layOut_q {v0 : Nat} {v1 : Int32} {h : am_H} {r : am_H} (hb : Ways_layOut v0 v1 h = some r) : Eqs h r := by
  unfold Ways_layOut at hb
  have hb := (iz hb).2
  have w0 := Eqs.rf h
  obtain ⟨x40, e_x40, hb41⟩ := ob2 hb
  obtain ⟨x42, e_x42, hb43⟩ := ob2 hb41
  obtain ⟨x44, e_x44, hb45⟩ := ob2 hb43
  obtain ⟨x46, e_x46, hb47⟩ := ob2 hb45
  obtain ⟨h48, e_h48, hb49⟩ := ob2 hb47
  have w50 := w0.tr (Row_copy_q e_h48)
  obtain ⟨x51, e_x51, hb52⟩ := ob2 hb49
  obtain ⟨x53, e_x53, hb54⟩ := ob2 hb52
  obtain ⟨x55, e_x55, hb56⟩ := ob2 hb54
  obtain ⟨h57, e_h57, hb58⟩ := ob2 hb56
  have w59 := w50.tr (pV_q e_h57)
  exact w59.tr (Ways_layOut_44_q hb58)
theorem Ways_layOut_o {v0 : Nat} {v1 : Int32} {h : am_H} {r : am_H} (hb : Ways_layOut v0 v1 h = some r) : isO h 10 v0 = true := by
  unfold Ways_layOut at hb
  exact (iz hb).1
set_option maxHeartbeats 1000000 in
set_option maxRecDepth 100000 in
noncomputable def Ways_cardOf (v0 : Nat) (v1 : Int32) (v2 : Int32) (h : am_H) : Option (Int32 × am_H) := if isO h 10 v0 = true then (gI h 10 v0 15).bind fun x1 => (Ways_layOut v0 (v1 * x1) h).bind fun h3 => (gR h3 10 v0 10).bind fun x6 => (Row_card x6 v2 h3).bind fun x8 => some (x8, h3) else none
set_option maxHeartbeats 1000000 in
set_option maxRecDepth 100000 in
theorem Ways_cardOf_s {v0 : Nat} {v1 : Int32} {v2 : Int32} {h : am_H} {r : (Int32 × am_H)} (hb : Ways_cardOf v0 v1 v2 h = some r) : Sx 3 mX10_cardOf 0 (am_en [.ref v0, .int v1, .int v2] 3) [] h (some (.int r.1)) r.2 := by
  unfold Ways_cardOf at hb
  have hb := (iz hb).2
  show Sx 3 mX10_cardOf 0 [.ref v0, .int v1, .int v2] [] h (some (.int r.1)) r.2
  refine Sx.o (fun _ _ _ k => ex_aload_n dX10_cardOf_0 rfl rfl k) ?_
  refine Sx.o (fun _ _ _ k => ex_iload_n dX10_cardOf_1 rfl k) ?_
  refine Sx.o (fun _ _ _ k => ex_aload_n dX10_cardOf_2 rfl rfl k) ?_
  obtain ⟨x1, e_x1, hb2⟩ := ob2 hb
  refine Sx.o (fun _ _ _ k => op_getI fX10_75 dX10_cardOf_3 e_x1 k) ?_
  refine Sx.o (fun _ _ _ k => ex_imul dX10_cardOf_6 k) ?_
  obtain ⟨h3, e_h3, hb4⟩ := ob2 hb2
  refine sx_callV (dc := 2) (as := [.int (v1 * x1)]) (stq := []) (by omega) dX10_cardOf_7 MX10_layOut kX10_129 iX10_layOut sX10_layOut rfl rfl (Ways_layOut_o e_h3) rfl rfl (Nat.le_of_ble_eq_true rfl) (Nat.le_of_ble_eq_true rfl) (Ways_layOut_s e_h3) rfl ?_
  refine Sx.o (fun _ _ _ k => ex_aload_n dX10_cardOf_10 rfl rfl k) ?_
  obtain ⟨x6, e_x6, hb7⟩ := ob2 hb4
  refine Sx.o (fun _ _ _ k => op_getR fX10_25 dX10_cardOf_11 e_x6 k) ?_
  refine Sx.o (fun _ _ _ k => ex_iload_n dX10_cardOf_14 rfl k) ?_
  obtain ⟨x8, e_x8, hb9⟩ := ob2 hb7
  refine sx_callV (dc := 0) (as := [.int v2]) (stq := [.int x8]) (by omega) dX10_cardOf_15 MX4_card kX10_105 iX4_card sX4_card rfl rfl (Row_card_o e_x8) rfl rfl (Nat.le_of_ble_eq_true rfl) (Nat.le_of_ble_eq_true rfl) (Row_card_s e_x8) rfl ?_
  obtain rfl := Option.some.inj hb9
  exact Sx.r (fun _ _ _ k => ex_iret rfl dX10_cardOf_18 k)
set_option maxHeartbeats 1000000 in
set_option maxRecDepth 100000 in
theorem Ways_cardOf_q {v0 : Nat} {v1 : Int32} {v2 : Int32} {h : am_H} {r : (Int32 × am_H)} (hb : Ways_cardOf v0 v1 v2 h = some r) : Eqs h r.2 := by
  unfold Ways_cardOf at hb
  have hb := (iz hb).2
  have w0 := Eqs.rf h
  obtain ⟨x1, e_x1, hb2⟩ := ob2 hb
  obtain ⟨h3, e_h3, hb4⟩ := ob2 hb2
  have w5 := w0.tr (Ways_layOut_q e_h3)
  obtain ⟨x6, e_x6, hb7⟩ := ob2 hb4
  obtain ⟨x8, e_x8, hb9⟩ := ob2 hb7
  obtain rfl := Option.some.inj hb9
  exact w5
theorem Ways_cardOf_o {v0 : Nat} {v1 : Int32} {v2 : Int32} {h : am_H} {r : (Int32 × am_H)} (hb : Ways_cardOf v0 v1 v2 h = some r) : isO h 10 v0 = true := by
  unfold Ways_cardOf at hb
  exact (iz hb).1
set_option maxHeartbeats 1000000 in
set_option maxRecDepth 100000 in
noncomputable def Ways_commonDivisor_7_b (g : (Nat × Int32 × Int32 × Int32 × am_H) → Option Int32) (v2 : Int32) (v3 : Int32) (v4 : Int32) (h : am_H) : Option Int32 := if (64 : Int32) ≤ v4 then some v2 else if v3 ≤ (0 : Int32) then some v2 else (rmI v2 v3).bind fun x5 => g (7, v3, x5, (v4 + (1 : Int32)), h)
set_option maxHeartbeats 1000000 in
set_option maxRecDepth 100000 in
theorem Ways_commonDivisor_7_m {g g2 : (Nat × Int32 × Int32 × Int32 × am_H) → Option Int32} (hg : ∀ s, Le (g s) (g2 s)) (v2 : Int32) (v3 : Int32) (v4 : Int32) (h : am_H) : Le (Ways_commonDivisor_7_b g v2 v3 v4 h) (Ways_commonDivisor_7_b g2 v2 v3 v4 h) := by unfold Ways_commonDivisor_7_b; exact le_i (le_r _) (le_i (le_r _) (le_b (le_r _) fun x5 => hg _))
noncomputable def Ways_commonDivisor_7_F (g : (Nat × Int32 × Int32 × Int32 × am_H) → Option Int32) (s : (Nat × Int32 × Int32 × Int32 × am_H)) : Option Int32 := if s.1 = 7 then Ways_commonDivisor_7_b g s.2.1 s.2.2.1 s.2.2.2.1 s.2.2.2.2 else none
theorem Ways_commonDivisor_7_M : Mn Ways_commonDivisor_7_F := fun g g2 hg s => by unfold Ways_commonDivisor_7_F; exact le_i (Ways_commonDivisor_7_m hg s.2.1 s.2.2.1 s.2.2.2.1 s.2.2.2.2) (le_r _)
def Ways_commonDivisor_7_P (s : (Nat × Int32 × Int32 × Int32 × am_H)) (r : Int32) : Prop := (s.1 = 7 → Sx 0 mX10_commonDivisor 7 [.retAddr 0, .retAddr 0, .int s.2.1, .int s.2.2.1, .int s.2.2.2.1, .retAddr 0] [] s.2.2.2.2 (some (.int r)) s.2.2.2.2) ∧ True
set_option maxHeartbeats 1000000 in
set_option maxRecDepth 100000 in
theorem Ways_commonDivisor_7_t {g : (Nat × Int32 × Int32 × Int32 × am_H) → Option Int32} (hg : ∀ s r, g s = some r → Ways_commonDivisor_7_P s r) {v2 : Int32} {v3 : Int32} {v4 : Int32} {h : am_H} {r : Int32} (hb : Ways_commonDivisor_7_b g v2 v3 v4 h = some r) : Sx 0 mX10_commonDivisor 7 [.retAddr 0, .retAddr 0, .int v2, .int v3, .int v4, .retAddr 0] [] h (some (.int r)) h := by
  unfold Ways_commonDivisor_7_b at hb
  refine Sx.o (fun _ _ _ k => ex_iload dX10_commonDivisor_7 rfl k) ?_
  refine Sx.o (fun _ _ _ k => op_bipush (64 : Int32) dX10_commonDivisor_9 (by decide) k) ?_
  refine Sx.b (fun _ _ _ k1 k2 => ex_icmp_ge 34 dX10_commonDivisor_11 (by decide) k1 k2) (fun q => ?_) (fun q => ?_)
  · have hb1 := ip q hb
    refine Sx.o (fun _ _ _ k => ex_iload_n dX10_commonDivisor_34 rfl k) ?_
    obtain rfl := Option.some.inj hb1
    exact Sx.r (fun _ _ _ k => ex_iret rfl dX10_commonDivisor_35 k)
  · have hb2 := iq q hb
    refine Sx.o (fun _ _ _ k => ex_iload_n dX10_commonDivisor_14 rfl k) ?_
    refine Sx.b (fun _ _ _ k1 k2 => ex_if_le 34 dX10_commonDivisor_15 (by decide) k1 k2) (fun q => ?_) (fun q => ?_)
    · have hb3 := ip q hb2
      refine Sx.o (fun _ _ _ k => ex_iload_n dX10_commonDivisor_34 rfl k) ?_
      obtain rfl := Option.some.inj hb3
      exact Sx.r (fun _ _ _ k => ex_iret rfl dX10_commonDivisor_35 k)
    · have hb4 := iq q hb2
      refine Sx.o (fun _ _ _ k => ex_iload_n dX10_commonDivisor_18 rfl k) ?_
      refine Sx.o (fun _ _ _ k => ex_iload_n dX10_commonDivisor_19 rfl k) ?_
      obtain ⟨x5, e_x5, hb6⟩ := ob2 hb4
      refine Sx.o (fun _ _ _ k => op_irem dX10_commonDivisor_20 e_x5 k) ?_
      refine Sx.o (L' := [.retAddr 0, .retAddr 0, .int v2, .int v3, .int v4, .int x5]) (fun _ _ _ k => ex_istore dX10_commonDivisor_21 (by decide) k) ?_
      refine Sx.o (fun _ _ _ k => ex_iload_n dX10_commonDivisor_23 rfl k) ?_
      refine Sx.o (L' := [.retAddr 0, .retAddr 0, .int v3, .int v3, .int v4, .int x5]) (fun _ _ _ k => ex_istore_n dX10_commonDivisor_24 (by decide) k) ?_
      refine Sx.o (fun _ _ _ k => ex_iload dX10_commonDivisor_25 rfl k) ?_
      refine Sx.o (L' := [.retAddr 0, .retAddr 0, .int v3, .int x5, .int v4, .int x5]) (fun _ _ _ k => ex_istore_n dX10_commonDivisor_27 (by decide) k) ?_
      refine Sx.o (L' := [.retAddr 0, .retAddr 0, .int v3, .int x5, .int (v4 + (1 : Int32)), .int x5]) (fun _ _ _ k => op_iinc (1 : Int32) dX10_commonDivisor_28 (by decide) rfl (by decide) k) ?_
      refine Sx.o (fun _ _ _ k => ex_goto 7 dX10_commonDivisor_31 (by decide) k) ?_
      refine Sx.fg [true, true, true, true, true, false] ?_
      exact (hg _ _ hb6).1 rfl
theorem Ways_commonDivisor_7_T : ∀ s r, fx Ways_commonDivisor_7_F Ways_commonDivisor_7_M s = some r → Ways_commonDivisor_7_P s r := fx_ind Ways_commonDivisor_7_M Ways_commonDivisor_7_P (fun g hg s r hb => by
  unfold Ways_commonDivisor_7_F at hb
  exact ⟨fun q => Ways_commonDivisor_7_t hg (ip q hb), trivial⟩)
noncomputable def Ways_commonDivisor_7 (v2 : Int32) (v3 : Int32) (v4 : Int32) (h : am_H) : Option Int32 := fx Ways_commonDivisor_7_F Ways_commonDivisor_7_M (7, v2, v3, v4, h)
set_option maxHeartbeats 1000000 in
set_option maxRecDepth 100000 in
theorem Ways_commonDivisor_7_e (v2 : Int32) (v3 : Int32) (v4 : Int32) (h : am_H) : Ways_commonDivisor_7 v2 v3 v4 h = (if (64 : Int32) ≤ v4 then some v2 else if v3 ≤ (0 : Int32) then some v2 else (rmI v2 v3).bind fun x5 => Ways_commonDivisor_7 v3 x5 (v4 + (1 : Int32)) h) := (fx_eq Ways_commonDivisor_7_M (7, v2, v3, v4, h)).trans (if_pos rfl)
theorem Ways_commonDivisor_7_s {v2 : Int32} {v3 : Int32} {v4 : Int32} {h : am_H} {r : Int32} (hb : Ways_commonDivisor_7 v2 v3 v4 h = some r) : Sx 0 mX10_commonDivisor 7 [.retAddr 0, .retAddr 0, .int v2, .int v3, .int v4, .retAddr 0] [] h (some (.int r)) h := (Ways_commonDivisor_7_T _ _ hb).1 rfl
set_option maxHeartbeats 1000000 in
set_option maxRecDepth 100000 in
noncomputable def Ways_commonDivisor (v0 : Int32) (v1 : Int32) (h : am_H) : Option Int32 := Ways_commonDivisor_7 v0 v1 (0 : Int32) h
set_option maxHeartbeats 1000000 in
set_option maxRecDepth 100000 in
theorem Ways_commonDivisor_s {v0 : Int32} {v1 : Int32} {h : am_H} {r : Int32} (hb : Ways_commonDivisor v0 v1 h = some r) : Sx 0 mX10_commonDivisor 0 (am_en [.int v0, .int v1] 6) [] h (some (.int r)) h := by
  unfold Ways_commonDivisor at hb
  show Sx 0 mX10_commonDivisor 0 [.int v0, .int v1, .retAddr 0, .retAddr 0, .retAddr 0, .retAddr 0] [] h (some (.int r)) h
  refine Sx.o (fun _ _ _ k => ex_iload_n dX10_commonDivisor_0 rfl k) ?_
  refine Sx.o (L' := [.int v0, .int v1, .int v0, .retAddr 0, .retAddr 0, .retAddr 0]) (fun _ _ _ k => ex_istore_n dX10_commonDivisor_1 (by decide) k) ?_
  refine Sx.o (fun _ _ _ k => ex_iload_n dX10_commonDivisor_2 rfl k) ?_
  refine Sx.o (L' := [.int v0, .int v1, .int v0, .int v1, .retAddr 0, .retAddr 0]) (fun _ _ _ k => ex_istore_n dX10_commonDivisor_3 (by decide) k) ?_
  refine Sx.o (fun _ _ _ k => op_iconst (0 : Int32) dX10_commonDivisor_4 (by decide) k) ?_
  refine Sx.o (L' := [.int v0, .int v1, .int v0, .int v1, .int (0 : Int32), .retAddr 0]) (fun _ _ _ k => ex_istore dX10_commonDivisor_5 (by decide) k) ?_
  refine Sx.fg [false, false, true, true, true, true] ?_
  exact Ways_commonDivisor_7_s hb
set_option maxHeartbeats 1000000 in
set_option maxRecDepth 100000 in
noncomputable def Ways_timeOf_7_b (g : (Nat × Int32 × Int32 × Int32 × Int32 × Nat × Nat × am_H) → Option Int32) (v0 : Nat) (v1 : Nat) (v2 : Int32) (v3 : Int32) (v4 : Int32) (h : am_H) : Option Int32 := (gR h 10 v0 8).bind fun x1 => (gI h 4 x1 1).bind fun x3 => if x3 ≤ v4 then (gI h 10 v0 15).bind fun x7 => (gI h 4 v1 3).bind fun x9 => (gI h 10 v0 15).bind fun x11 => some ((v3 * x7) + (if x11 - (1 : Int32) < x9 then x11 - (1 : Int32) else x9)) else (gR h 10 v0 12).bind fun x13 => (gR h 4 v1 0).bind fun x15 => (aI h 0 x15 v4).bind fun x17 => (aI h 0 x13 (x17 &&& (15 : Int32))).bind fun x19 => g (36, v2, v3, v4, x19, v0, v1, h)
set_option maxHeartbeats 1000000 in
set_option maxRecDepth 100000 in
theorem Ways_timeOf_7_m {g g2 : (Nat × Int32 × Int32 × Int32 × Int32 × Nat × Nat × am_H) → Option Int32} (hg : ∀ s, Le (g s) (g2 s)) (v0 : Nat) (v1 : Nat) (v2 : Int32) (v3 : Int32) (v4 : Int32) (h : am_H) : Le (Ways_timeOf_7_b g v0 v1 v2 v3 v4 h) (Ways_timeOf_7_b g2 v0 v1 v2 v3 v4 h) := by unfold Ways_timeOf_7_b; exact le_b (le_r _) fun x1 => le_b (le_r _) fun x3 => le_i (le_r _) (le_b (le_r _) fun x13 => le_b (le_r _) fun x15 => le_b (le_r _) fun x17 => le_b (le_r _) fun x19 => hg _)
set_option maxHeartbeats 1000000 in
set_option maxRecDepth 100000 in
noncomputable def Ways_timeOf_36_b (g : (Nat × Int32 × Int32 × Int32 × Int32 × Nat × Nat × am_H) → Option Int32) (v0 : Nat) (v1 : Nat) (v2 : Int32) (v3 : Int32) (v4 : Int32) (v5 : Int32) (h : am_H) : Option Int32 := (gR h 10 v0 8).bind fun x21 => (gI h 4 x21 1).bind fun x23 => if x23 ≤ v5 then g (63, v2, v3, v4, v5, v0, v1, h) else if ((v2 >>> (v5 &&& 31)) &&& (1 : Int32)) = (0 : Int32) then g (63, v2, v3, v4, v5, v0, v1, h) else g (36, v2, v3, v4, (v5 + (1 : Int32)), v0, v1, h)
set_option maxHeartbeats 1000000 in
set_option maxRecDepth 100000 in
theorem Ways_timeOf_36_m {g g2 : (Nat × Int32 × Int32 × Int32 × Int32 × Nat × Nat × am_H) → Option Int32} (hg : ∀ s, Le (g s) (g2 s)) (v0 : Nat) (v1 : Nat) (v2 : Int32) (v3 : Int32) (v4 : Int32) (v5 : Int32) (h : am_H) : Le (Ways_timeOf_36_b g v0 v1 v2 v3 v4 v5 h) (Ways_timeOf_36_b g2 v0 v1 v2 v3 v4 v5 h) := by unfold Ways_timeOf_36_b; exact le_b (le_r _) fun x21 => le_b (le_r _) fun x23 => le_i (hg _) (le_i (hg _) (hg _))
set_option maxHeartbeats 1000000 in
set_option maxRecDepth 100000 in
noncomputable def Ways_timeOf_63_b (g : (Nat × Int32 × Int32 × Int32 × Int32 × Nat × Nat × am_H) → Option Int32) (v0 : Nat) (v1 : Nat) (v2 : Int32) (v3 : Int32) (v4 : Int32) (v5 : Int32) (h : am_H) : Option Int32 := (Int_bitCount (v2 &&& (((1 : Int32) <<< (v5 &&& 31)) - (1 : Int32))) h).bind fun x29 => (gR h 10 v0 8).bind fun x31 => (gI h 4 x31 1).bind fun x33 => g (7, (v2 ||| ((1 : Int32) <<< (v5 &&& 31))), ((v3 * (x33 - v4)) + (v5 - x29)), (v4 + (1 : Int32)), 0, v0, v1, h)
set_option maxHeartbeats 1000000 in
set_option maxRecDepth 100000 in
theorem Ways_timeOf_63_m {g g2 : (Nat × Int32 × Int32 × Int32 × Int32 × Nat × Nat × am_H) → Option Int32} (hg : ∀ s, Le (g s) (g2 s)) (v0 : Nat) (v1 : Nat) (v2 : Int32) (v3 : Int32) (v4 : Int32) (v5 : Int32) (h : am_H) : Le (Ways_timeOf_63_b g v0 v1 v2 v3 v4 v5 h) (Ways_timeOf_63_b g2 v0 v1 v2 v3 v4 v5 h) := by unfold Ways_timeOf_63_b; exact le_b (le_r _) fun x29 => le_b (le_r _) fun x31 => le_b (le_r _) fun x33 => hg _
noncomputable def Ways_timeOf_7_F (g : (Nat × Int32 × Int32 × Int32 × Int32 × Nat × Nat × am_H) → Option Int32) (s : (Nat × Int32 × Int32 × Int32 × Int32 × Nat × Nat × am_H)) : Option Int32 := if s.1 = 7 then Ways_timeOf_7_b g s.2.2.2.2.2.1 s.2.2.2.2.2.2.1 s.2.1 s.2.2.1 s.2.2.2.1 s.2.2.2.2.2.2.2 else if s.1 = 36 then Ways_timeOf_36_b g s.2.2.2.2.2.1 s.2.2.2.2.2.2.1 s.2.1 s.2.2.1 s.2.2.2.1 s.2.2.2.2.1 s.2.2.2.2.2.2.2 else if s.1 = 63 then Ways_timeOf_63_b g s.2.2.2.2.2.1 s.2.2.2.2.2.2.1 s.2.1 s.2.2.1 s.2.2.2.1 s.2.2.2.2.1 s.2.2.2.2.2.2.2 else none
theorem Ways_timeOf_7_M : Mn Ways_timeOf_7_F := fun g g2 hg s => by unfold Ways_timeOf_7_F; exact le_i (Ways_timeOf_7_m hg s.2.2.2.2.2.1 s.2.2.2.2.2.2.1 s.2.1 s.2.2.1 s.2.2.2.1 s.2.2.2.2.2.2.2) (le_i (Ways_timeOf_36_m hg s.2.2.2.2.2.1 s.2.2.2.2.2.2.1 s.2.1 s.2.2.1 s.2.2.2.1 s.2.2.2.2.1 s.2.2.2.2.2.2.2) (le_i (Ways_timeOf_63_m hg s.2.2.2.2.2.1 s.2.2.2.2.2.2.1 s.2.1 s.2.2.1 s.2.2.2.1 s.2.2.2.2.1 s.2.2.2.2.2.2.2) (le_r _)))
def Ways_timeOf_7_P (s : (Nat × Int32 × Int32 × Int32 × Int32 × Nat × Nat × am_H)) (r : Int32) : Prop := (s.1 = 7 → Sx 1 mX10_timeOf 7 [.ref s.2.2.2.2.2.1, .ref s.2.2.2.2.2.2.1, .int s.2.1, .int s.2.2.1, .int s.2.2.2.1, .retAddr 0, .retAddr 0] [] s.2.2.2.2.2.2.2 (some (.int r)) s.2.2.2.2.2.2.2) ∧ (s.1 = 36 → Sx 1 mX10_timeOf 36 [.ref s.2.2.2.2.2.1, .ref s.2.2.2.2.2.2.1, .int s.2.1, .int s.2.2.1, .int s.2.2.2.1, .int s.2.2.2.2.1, .retAddr 0] [] s.2.2.2.2.2.2.2 (some (.int r)) s.2.2.2.2.2.2.2) ∧ (s.1 = 63 → Sx 1 mX10_timeOf 63 [.ref s.2.2.2.2.2.1, .ref s.2.2.2.2.2.2.1, .int s.2.1, .int s.2.2.1, .int s.2.2.2.1, .int s.2.2.2.2.1, .retAddr 0] [] s.2.2.2.2.2.2.2 (some (.int r)) s.2.2.2.2.2.2.2) ∧ True
set_option maxHeartbeats 1000000 in
set_option maxRecDepth 100000 in
theorem Ways_timeOf_7_t {g : (Nat × Int32 × Int32 × Int32 × Int32 × Nat × Nat × am_H) → Option Int32} (hg : ∀ s r, g s = some r → Ways_timeOf_7_P s r) {v0 : Nat} {v1 : Nat} {v2 : Int32} {v3 : Int32} {v4 : Int32} {h : am_H} {r : Int32} (hb : Ways_timeOf_7_b g v0 v1 v2 v3 v4 h = some r) : Sx 1 mX10_timeOf 7 [.ref v0, .ref v1, .int v2, .int v3, .int v4, .retAddr 0, .retAddr 0] [] h (some (.int r)) h := by
  unfold Ways_timeOf_7_b at hb
  refine Sx.o (fun _ _ _ k => ex_iload dX10_timeOf_7 rfl k) ?_
  refine Sx.o (fun _ _ _ k => ex_aload_n dX10_timeOf_9 rfl rfl k) ?_
  obtain ⟨x1, e_x1, hb2⟩ := ob2 hb
  refine Sx.o (fun _ _ _ k => op_getR fX10_18 dX10_timeOf_10 e_x1 k) ?_
  obtain ⟨x3, e_x3, hb4⟩ := ob2 hb2
  refine Sx.o (fun _ _ _ k => op_getI fX10_52 dX10_timeOf_13 e_x3 k) ?_
  refine Sx.b (fun _ _ _ k1 k2 => ex_icmp_ge 108 dX10_timeOf_16 (by decide) k1 k2) (fun q => ?_) (fun q => ?_)
  · have hb5 := ip q hb4
    refine Sx.o (fun _ _ _ k => ex_iload_n dX10_timeOf_108 rfl k) ?_
    refine Sx.o (fun _ _ _ k => ex_aload_n dX10_timeOf_109 rfl rfl k) ?_
    obtain ⟨x7, e_x7, hb8⟩ := ob2 hb5
    refine Sx.o (fun _ _ _ k => op_getI fX10_75 dX10_timeOf_110 e_x7 k) ?_
    refine Sx.o (fun _ _ _ k => ex_imul dX10_timeOf_113 k) ?_
    refine Sx.o (fun _ _ _ k => ex_aload_n dX10_timeOf_114 rfl rfl k) ?_
    obtain ⟨x9, e_x9, hb10⟩ := ob2 hb8
    refine Sx.o (fun _ _ _ k => op_getI fX10_69 dX10_timeOf_115 e_x9 k) ?_
    refine Sx.o (fun _ _ _ k => ex_aload_n dX10_timeOf_118 rfl rfl k) ?_
    obtain ⟨x11, e_x11, hb12⟩ := ob2 hb10
    refine Sx.o (fun _ _ _ k => op_getI fX10_75 dX10_timeOf_119 e_x11 k) ?_
    refine Sx.o (fun _ _ _ k => op_iconst (1 : Int32) dX10_timeOf_122 (by decide) k) ?_
    refine Sx.o (fun _ _ _ k => ex_isub dX10_timeOf_123 k) ?_
    refine Sx.o (fun _ _ _ k => op_mmin (by omega) dX10_timeOf_124 kX10_56 (Nat.le_of_ble_eq_true rfl) k) ?_
    refine Sx.o (fun _ _ _ k => ex_iadd dX10_timeOf_127 k) ?_
    obtain rfl := Option.some.inj hb12
    exact Sx.r (fun _ _ _ k => ex_iret rfl dX10_timeOf_128 k)
  · have hb6 := iq q hb4
    refine Sx.o (fun _ _ _ k => ex_aload_n dX10_timeOf_19 rfl rfl k) ?_
    obtain ⟨x13, e_x13, hb14⟩ := ob2 hb6
    refine Sx.o (fun _ _ _ k => op_getR fX10_31 dX10_timeOf_20 e_x13 k) ?_
    refine Sx.o (fun _ _ _ k => ex_aload_n dX10_timeOf_23 rfl rfl k) ?_
    obtain ⟨x15, e_x15, hb16⟩ := ob2 hb14
    refine Sx.o (fun _ _ _ k => op_getR fX10_115 dX10_timeOf_24 e_x15 k) ?_
    refine Sx.o (fun _ _ _ k => ex_iload dX10_timeOf_27 rfl k) ?_
    obtain ⟨x17, e_x17, hb18⟩ := ob2 hb16
    refine Sx.o (fun _ _ _ k => op_iald dX10_timeOf_29 e_x17 k) ?_
    refine Sx.o (fun _ _ _ k => op_bipush (15 : Int32) dX10_timeOf_30 (by decide) k) ?_
    refine Sx.o (fun _ _ _ k => ex_iand dX10_timeOf_32 k) ?_
    obtain ⟨x19, e_x19, hb20⟩ := ob2 hb18
    refine Sx.o (fun _ _ _ k => op_iald dX10_timeOf_33 e_x19 k) ?_
    refine Sx.o (L' := [.ref v0, .ref v1, .int v2, .int v3, .int v4, .int x19, .retAddr 0]) (fun _ _ _ k => ex_istore dX10_timeOf_34 (by decide) k) ?_
    exact (hg _ _ hb20).2.1 rfl
set_option maxHeartbeats 1000000 in
set_option maxRecDepth 100000 in
theorem Ways_timeOf_36_t {g : (Nat × Int32 × Int32 × Int32 × Int32 × Nat × Nat × am_H) → Option Int32} (hg : ∀ s r, g s = some r → Ways_timeOf_7_P s r) {v0 : Nat} {v1 : Nat} {v2 : Int32} {v3 : Int32} {v4 : Int32} {v5 : Int32} {h : am_H} {r : Int32} (hb : Ways_timeOf_36_b g v0 v1 v2 v3 v4 v5 h = some r) : Sx 1 mX10_timeOf 36 [.ref v0, .ref v1, .int v2, .int v3, .int v4, .int v5, .retAddr 0] [] h (some (.int r)) h := by
  unfold Ways_timeOf_36_b at hb
  refine Sx.o (fun _ _ _ k => ex_iload dX10_timeOf_36 rfl k) ?_
  refine Sx.o (fun _ _ _ k => ex_aload_n dX10_timeOf_38 rfl rfl k) ?_
  obtain ⟨x21, e_x21, hb22⟩ := ob2 hb
  refine Sx.o (fun _ _ _ k => op_getR fX10_18 dX10_timeOf_39 e_x21 k) ?_
  obtain ⟨x23, e_x23, hb24⟩ := ob2 hb22
  refine Sx.o (fun _ _ _ k => op_getI fX10_52 dX10_timeOf_42 e_x23 k) ?_
  refine Sx.b (fun _ _ _ k1 k2 => ex_icmp_ge 63 dX10_timeOf_45 (by decide) k1 k2) (fun q => ?_) (fun q => ?_)
  · have hb25 := ip q hb24
    exact (hg _ _ hb25).2.2.1 rfl
  · have hb26 := iq q hb24
    refine Sx.o (fun _ _ _ k => ex_iload_n dX10_timeOf_48 rfl k) ?_
    refine Sx.o (fun _ _ _ k => ex_iload dX10_timeOf_49 rfl k) ?_
    refine Sx.o (fun _ _ _ k => ex_ishr dX10_timeOf_51 k) ?_
    refine Sx.o (fun _ _ _ k => op_iconst (1 : Int32) dX10_timeOf_52 (by decide) k) ?_
    refine Sx.o (fun _ _ _ k => ex_iand dX10_timeOf_53 k) ?_
    refine Sx.b (fun _ _ _ k1 k2 => ex_if_eq 63 dX10_timeOf_54 (by decide) k1 k2) (fun q => ?_) (fun q => ?_)
    · have hb27 := ip q hb26
      exact (hg _ _ hb27).2.2.1 rfl
    · have hb28 := iq q hb26
      refine Sx.o (L' := [.ref v0, .ref v1, .int v2, .int v3, .int v4, .int (v5 + (1 : Int32)), .retAddr 0]) (fun _ _ _ k => op_iinc (1 : Int32) dX10_timeOf_57 (by decide) rfl (by decide) k) ?_
      refine Sx.o (fun _ _ _ k => ex_goto 36 dX10_timeOf_60 (by decide) k) ?_
      exact (hg _ _ hb28).2.1 rfl
set_option maxHeartbeats 1000000 in
set_option maxRecDepth 100000 in
theorem Ways_timeOf_63_t {g : (Nat × Int32 × Int32 × Int32 × Int32 × Nat × Nat × am_H) → Option Int32} (hg : ∀ s r, g s = some r → Ways_timeOf_7_P s r) {v0 : Nat} {v1 : Nat} {v2 : Int32} {v3 : Int32} {v4 : Int32} {v5 : Int32} {h : am_H} {r : Int32} (hb : Ways_timeOf_63_b g v0 v1 v2 v3 v4 v5 h = some r) : Sx 1 mX10_timeOf 63 [.ref v0, .ref v1, .int v2, .int v3, .int v4, .int v5, .retAddr 0] [] h (some (.int r)) h := by
  unfold Ways_timeOf_63_b at hb
  refine Sx.o (fun _ _ _ k => ex_iload dX10_timeOf_63 rfl k) ?_
  refine Sx.o (fun _ _ _ k => ex_iload_n dX10_timeOf_65 rfl k) ?_
  refine Sx.o (fun _ _ _ k => op_iconst (1 : Int32) dX10_timeOf_66 (by decide) k) ?_
  refine Sx.o (fun _ _ _ k => ex_iload dX10_timeOf_67 rfl k) ?_
  refine Sx.o (fun _ _ _ k => ex_ishl dX10_timeOf_69 k) ?_
  refine Sx.o (fun _ _ _ k => op_iconst (1 : Int32) dX10_timeOf_70 (by decide) k) ?_
  refine Sx.o (fun _ _ _ k => ex_isub dX10_timeOf_71 k) ?_
  refine Sx.o (fun _ _ _ k => ex_iand dX10_timeOf_72 k) ?_
  obtain ⟨x29, e_x29, hb30⟩ := ob2 hb
  refine sx_callS (dc := 0) (as := [.int (v2 &&& (((1 : Int32) <<< (v5 &&& 31)) - (1 : Int32)))]) (stq := [.int x29, .int v5]) (by omega) dX10_timeOf_73 MJ6_bitCount_0f7a4 kX10_124 tJ6_bitCount_0f7a4 rfl rfl (Nat.le_of_ble_eq_true rfl) (Nat.le_of_ble_eq_true rfl) (Int_bitCount_s e_x29) rfl ?_
  refine Sx.o (fun _ _ _ k => ex_isub dX10_timeOf_76 k) ?_
  refine Sx.o (L' := [.ref v0, .ref v1, .int v2, .int v3, .int v4, .int v5, .int (v5 - x29)]) (fun _ _ _ k => ex_istore dX10_timeOf_77 (by decide) k) ?_
  refine Sx.o (fun _ _ _ k => ex_iload_n dX10_timeOf_79 rfl k) ?_
  refine Sx.o (fun _ _ _ k => ex_aload_n dX10_timeOf_80 rfl rfl k) ?_
  obtain ⟨x31, e_x31, hb32⟩ := ob2 hb30
  refine Sx.o (fun _ _ _ k => op_getR fX10_18 dX10_timeOf_81 e_x31 k) ?_
  obtain ⟨x33, e_x33, hb34⟩ := ob2 hb32
  refine Sx.o (fun _ _ _ k => op_getI fX10_52 dX10_timeOf_84 e_x33 k) ?_
  refine Sx.o (fun _ _ _ k => ex_iload dX10_timeOf_87 rfl k) ?_
  refine Sx.o (fun _ _ _ k => ex_isub dX10_timeOf_89 k) ?_
  refine Sx.o (fun _ _ _ k => ex_imul dX10_timeOf_90 k) ?_
  refine Sx.o (fun _ _ _ k => ex_iload dX10_timeOf_91 rfl k) ?_
  refine Sx.o (fun _ _ _ k => ex_iadd dX10_timeOf_93 k) ?_
  refine Sx.o (L' := [.ref v0, .ref v1, .int v2, .int ((v3 * (x33 - v4)) + (v5 - x29)), .int v4, .int v5, .int (v5 - x29)]) (fun _ _ _ k => ex_istore_n dX10_timeOf_94 (by decide) k) ?_
  refine Sx.o (fun _ _ _ k => ex_iload_n dX10_timeOf_95 rfl k) ?_
  refine Sx.o (fun _ _ _ k => op_iconst (1 : Int32) dX10_timeOf_96 (by decide) k) ?_
  refine Sx.o (fun _ _ _ k => ex_iload dX10_timeOf_97 rfl k) ?_
  refine Sx.o (fun _ _ _ k => ex_ishl dX10_timeOf_99 k) ?_
  refine Sx.o (fun _ _ _ k => ex_ior dX10_timeOf_100 k) ?_
  refine Sx.o (L' := [.ref v0, .ref v1, .int (v2 ||| ((1 : Int32) <<< (v5 &&& 31))), .int ((v3 * (x33 - v4)) + (v5 - x29)), .int v4, .int v5, .int (v5 - x29)]) (fun _ _ _ k => ex_istore_n dX10_timeOf_101 (by decide) k) ?_
  refine Sx.o (L' := [.ref v0, .ref v1, .int (v2 ||| ((1 : Int32) <<< (v5 &&& 31))), .int ((v3 * (x33 - v4)) + (v5 - x29)), .int (v4 + (1 : Int32)), .int v5, .int (v5 - x29)]) (fun _ _ _ k => op_iinc (1 : Int32) dX10_timeOf_102 (by decide) rfl (by decide) k) ?_
  refine Sx.o (fun _ _ _ k => ex_goto 7 dX10_timeOf_105 (by decide) k) ?_
  refine Sx.fg [true, true, true, true, true, false, false] ?_
  exact (hg _ _ hb34).1 rfl
theorem Ways_timeOf_7_T : ∀ s r, fx Ways_timeOf_7_F Ways_timeOf_7_M s = some r → Ways_timeOf_7_P s r := fx_ind Ways_timeOf_7_M Ways_timeOf_7_P (fun g hg s r hb => by
  unfold Ways_timeOf_7_F at hb
  exact ⟨fun q => Ways_timeOf_7_t hg (ip q hb), fun q => Ways_timeOf_36_t hg (ip q (iq (by rw [q]; decide) hb)), fun q => Ways_timeOf_63_t hg (ip q (iq (by rw [q]; decide) (iq (by rw [q]; decide) hb))), trivial⟩)
noncomputable def Ways_timeOf_7 (v0 : Nat) (v1 : Nat) (v2 : Int32) (v3 : Int32) (v4 : Int32) (h : am_H) : Option Int32 := fx Ways_timeOf_7_F Ways_timeOf_7_M (7, v2, v3, v4, 0, v0, v1, h)
noncomputable def Ways_timeOf_36 (v0 : Nat) (v1 : Nat) (v2 : Int32) (v3 : Int32) (v4 : Int32) (v5 : Int32) (h : am_H) : Option Int32 := fx Ways_timeOf_7_F Ways_timeOf_7_M (36, v2, v3, v4, v5, v0, v1, h)
noncomputable def Ways_timeOf_63 (v0 : Nat) (v1 : Nat) (v2 : Int32) (v3 : Int32) (v4 : Int32) (v5 : Int32) (h : am_H) : Option Int32 := fx Ways_timeOf_7_F Ways_timeOf_7_M (63, v2, v3, v4, v5, v0, v1, h)
set_option maxHeartbeats 1000000 in
set_option maxRecDepth 100000 in
theorem Ways_timeOf_7_e (v0 : Nat) (v1 : Nat) (v2 : Int32) (v3 : Int32) (v4 : Int32) (h : am_H) : Ways_timeOf_7 v0 v1 v2 v3 v4 h = ((gR h 10 v0 8).bind fun x1 => (gI h 4 x1 1).bind fun x3 => if x3 ≤ v4 then (gI h 10 v0 15).bind fun x7 => (gI h 4 v1 3).bind fun x9 => (gI h 10 v0 15).bind fun x11 => some ((v3 * x7) + (if x11 - (1 : Int32) < x9 then x11 - (1 : Int32) else x9)) else (gR h 10 v0 12).bind fun x13 => (gR h 4 v1 0).bind fun x15 => (aI h 0 x15 v4).bind fun x17 => (aI h 0 x13 (x17 &&& (15 : Int32))).bind fun x19 => Ways_timeOf_36 v0 v1 v2 v3 v4 x19 h) := (fx_eq Ways_timeOf_7_M (7, v2, v3, v4, 0, v0, v1, h)).trans (if_pos rfl)
theorem Ways_timeOf_7_s {v0 : Nat} {v1 : Nat} {v2 : Int32} {v3 : Int32} {v4 : Int32} {h : am_H} {r : Int32} (hb : Ways_timeOf_7 v0 v1 v2 v3 v4 h = some r) : Sx 1 mX10_timeOf 7 [.ref v0, .ref v1, .int v2, .int v3, .int v4, .retAddr 0, .retAddr 0] [] h (some (.int r)) h := (Ways_timeOf_7_T _ _ hb).1 rfl
set_option maxHeartbeats 1000000 in
set_option maxRecDepth 100000 in
theorem Ways_timeOf_36_e (v0 : Nat) (v1 : Nat) (v2 : Int32) (v3 : Int32) (v4 : Int32) (v5 : Int32) (h : am_H) : Ways_timeOf_36 v0 v1 v2 v3 v4 v5 h = ((gR h 10 v0 8).bind fun x21 => (gI h 4 x21 1).bind fun x23 => if x23 ≤ v5 then Ways_timeOf_63 v0 v1 v2 v3 v4 v5 h else if ((v2 >>> (v5 &&& 31)) &&& (1 : Int32)) = (0 : Int32) then Ways_timeOf_63 v0 v1 v2 v3 v4 v5 h else Ways_timeOf_36 v0 v1 v2 v3 v4 (v5 + (1 : Int32)) h) := (fx_eq Ways_timeOf_7_M (36, v2, v3, v4, v5, v0, v1, h)).trans ((if_neg (show ¬ (36 : Nat) = 7 by decide)).trans (if_pos rfl))
theorem Ways_timeOf_36_s {v0 : Nat} {v1 : Nat} {v2 : Int32} {v3 : Int32} {v4 : Int32} {v5 : Int32} {h : am_H} {r : Int32} (hb : Ways_timeOf_36 v0 v1 v2 v3 v4 v5 h = some r) : Sx 1 mX10_timeOf 36 [.ref v0, .ref v1, .int v2, .int v3, .int v4, .int v5, .retAddr 0] [] h (some (.int r)) h := (Ways_timeOf_7_T _ _ hb).2.1 rfl
set_option maxHeartbeats 1000000 in
set_option maxRecDepth 100000 in
theorem Ways_timeOf_63_e (v0 : Nat) (v1 : Nat) (v2 : Int32) (v3 : Int32) (v4 : Int32) (v5 : Int32) (h : am_H) : Ways_timeOf_63 v0 v1 v2 v3 v4 v5 h = ((Int_bitCount (v2 &&& (((1 : Int32) <<< (v5 &&& 31)) - (1 : Int32))) h).bind fun x29 => (gR h 10 v0 8).bind fun x31 => (gI h 4 x31 1).bind fun x33 => Ways_timeOf_7 v0 v1 (v2 ||| ((1 : Int32) <<< (v5 &&& 31))) ((v3 * (x33 - v4)) + (v5 - x29)) (v4 + (1 : Int32)) h) := (fx_eq Ways_timeOf_7_M (63, v2, v3, v4, v5, v0, v1, h)).trans ((if_neg (show ¬ (63 : Nat) = 7 by decide)).trans ((if_neg (show ¬ (63 : Nat) = 36 by decide)).trans (if_pos rfl)))
theorem Ways_timeOf_63_s {v0 : Nat} {v1 : Nat} {v2 : Int32} {v3 : Int32} {v4 : Int32} {v5 : Int32} {h : am_H} {r : Int32} (hb : Ways_timeOf_63 v0 v1 v2 v3 v4 v5 h = some r) : Sx 1 mX10_timeOf 63 [.ref v0, .ref v1, .int v2, .int v3, .int v4, .int v5, .retAddr 0] [] h (some (.int r)) h := (Ways_timeOf_7_T _ _ hb).2.2.1 rfl
set_option maxHeartbeats 1000000 in
set_option maxRecDepth 100000 in
noncomputable def Ways_timeOf (v0 : Nat) (v1 : Nat) (h : am_H) : Option Int32 := if isO h 10 v0 = true then Ways_timeOf_7 v0 v1 (0 : Int32) (0 : Int32) (0 : Int32) h else none
set_option maxHeartbeats 1000000 in
set_option maxRecDepth 100000 in
theorem Ways_timeOf_s {v0 : Nat} {v1 : Nat} {h : am_H} {r : Int32} (hb : Ways_timeOf v0 v1 h = some r) : Sx 1 mX10_timeOf 0 (am_en [.ref v0, .ref v1] 7) [] h (some (.int r)) h := by
  unfold Ways_timeOf at hb
  have hb := (iz hb).2
  show Sx 1 mX10_timeOf 0 [.ref v0, .ref v1, .retAddr 0, .retAddr 0, .retAddr 0, .retAddr 0, .retAddr 0] [] h (some (.int r)) h
  refine Sx.o (fun _ _ _ k => op_iconst (0 : Int32) dX10_timeOf_0 (by decide) k) ?_
  refine Sx.o (L' := [.ref v0, .ref v1, .int (0 : Int32), .retAddr 0, .retAddr 0, .retAddr 0, .retAddr 0]) (fun _ _ _ k => ex_istore_n dX10_timeOf_1 (by decide) k) ?_
  refine Sx.o (fun _ _ _ k => op_iconst (0 : Int32) dX10_timeOf_2 (by decide) k) ?_
  refine Sx.o (L' := [.ref v0, .ref v1, .int (0 : Int32), .int (0 : Int32), .retAddr 0, .retAddr 0, .retAddr 0]) (fun _ _ _ k => ex_istore_n dX10_timeOf_3 (by decide) k) ?_
  refine Sx.o (fun _ _ _ k => op_iconst (0 : Int32) dX10_timeOf_4 (by decide) k) ?_
  refine Sx.o (L' := [.ref v0, .ref v1, .int (0 : Int32), .int (0 : Int32), .int (0 : Int32), .retAddr 0, .retAddr 0]) (fun _ _ _ k => ex_istore dX10_timeOf_5 (by decide) k) ?_
  exact Ways_timeOf_7_s hb
theorem Ways_timeOf_o {v0 : Nat} {v1 : Nat} {h : am_H} {r : Int32} (hb : Ways_timeOf v0 v1 h = some r) : isO h 10 v0 = true := by
  unfold Ways_timeOf at hb
  exact (iz hb).1
set_option maxHeartbeats 1000000 in
set_option maxRecDepth 100000 in
noncomputable def Ways_writeDown_6_b (g : (Nat × Int32 × Int32 × Int32 × Int32 × Int32 × Nat × Nat × am_H) → Option am_H) (v0 : Nat) (v3 : Int32) (v4 : Int32) (v5 : Int32) (h : am_H) : Option am_H := if v5 ≤ (0 : Int32) then some h else if v4 < (0 : Int32) then some h else (gR h 10 v0 17).bind fun x5 => (aL h x5).bind fun x7 => if x7 ≤ v4 then some h else (gR h 10 v0 17).bind fun x11 => if v3 ≤ (0 : Int32) then g (47, v3, v4, v5, (-2 : Int32), v4, v0, x11, h) else g (47, v3, v4, v5, (v3 + (v5 * (4 : Int32))), v4, v0, x11, h)
set_option maxHeartbeats 1000000 in
set_option maxRecDepth 100000 in
theorem Ways_writeDown_6_m {g g2 : (Nat × Int32 × Int32 × Int32 × Int32 × Int32 × Nat × Nat × am_H) → Option am_H} (hg : ∀ s, Le (g s) (g2 s)) (v0 : Nat) (v3 : Int32) (v4 : Int32) (v5 : Int32) (h : am_H) : Le (Ways_writeDown_6_b g v0 v3 v4 v5 h) (Ways_writeDown_6_b g2 v0 v3 v4 v5 h) := by unfold Ways_writeDown_6_b; exact le_i (le_r _) (le_i (le_r _) (le_b (le_r _) fun x5 => le_b (le_r _) fun x7 => le_i (le_r _) (le_b (le_r _) fun x11 => le_i (hg _) (hg _))))
set_option maxHeartbeats 1000000 in
set_option maxRecDepth 100000 in
noncomputable def Ways_writeDown_47_b (g : (Nat × Int32 × Int32 × Int32 × Int32 × Int32 × Nat × Nat × am_H) → Option am_H) (v0 : Nat) (v3 : Int32) (v4 : Int32) (v5 : Int32) (s0 : Int32) (s1 : Int32) (s2 : Nat) (h : am_H) : Option am_H := (sI h s2 s1 s0).bind fun h15 => (gR h15 10 v0 16).bind fun x18 => (aI h15 0 x18 v4).bind fun x20 => g (6, v3, (x20 - (1 : Int32)), (v5 + (-1 : Int32)), 0, 0, v0, 0, h15)
set_option maxHeartbeats 1000000 in
set_option maxRecDepth 100000 in
theorem Ways_writeDown_47_m {g g2 : (Nat × Int32 × Int32 × Int32 × Int32 × Int32 × Nat × Nat × am_H) → Option am_H} (hg : ∀ s, Le (g s) (g2 s)) (v0 : Nat) (v3 : Int32) (v4 : Int32) (v5 : Int32) (s0 : Int32) (s1 : Int32) (s2 : Nat) (h : am_H) : Le (Ways_writeDown_47_b g v0 v3 v4 v5 s0 s1 s2 h) (Ways_writeDown_47_b g2 v0 v3 v4 v5 s0 s1 s2 h) := by unfold Ways_writeDown_47_b; exact le_b (le_r _) fun h15 => le_b (le_r _) fun x18 => le_b (le_r _) fun x20 => hg _
noncomputable def Ways_writeDown_6_F (g : (Nat × Int32 × Int32 × Int32 × Int32 × Int32 × Nat × Nat × am_H) → Option am_H) (s : (Nat × Int32 × Int32 × Int32 × Int32 × Int32 × Nat × Nat × am_H)) : Option am_H := if s.1 = 6 then Ways_writeDown_6_b g s.2.2.2.2.2.2.1 s.2.1 s.2.2.1 s.2.2.2.1 s.2.2.2.2.2.2.2.2 else if s.1 = 47 then Ways_writeDown_47_b g s.2.2.2.2.2.2.1 s.2.1 s.2.2.1 s.2.2.2.1 s.2.2.2.2.1 s.2.2.2.2.2.1 s.2.2.2.2.2.2.2.1 s.2.2.2.2.2.2.2.2 else none
theorem Ways_writeDown_6_M : Mn Ways_writeDown_6_F := fun g g2 hg s => by unfold Ways_writeDown_6_F; exact le_i (Ways_writeDown_6_m hg s.2.2.2.2.2.2.1 s.2.1 s.2.2.1 s.2.2.2.1 s.2.2.2.2.2.2.2.2) (le_i (Ways_writeDown_47_m hg s.2.2.2.2.2.2.1 s.2.1 s.2.2.1 s.2.2.2.1 s.2.2.2.2.1 s.2.2.2.2.2.1 s.2.2.2.2.2.2.2.1 s.2.2.2.2.2.2.2.2) (le_r _))
def Ways_writeDown_6_P (s : (Nat × Int32 × Int32 × Int32 × Int32 × Int32 × Nat × Nat × am_H)) (r : am_H) : Prop := (s.1 = 6 → Sx 0 mX10_writeDown 6 [.ref s.2.2.2.2.2.2.1, .retAddr 0, .retAddr 0, .int s.2.1, .int s.2.2.1, .int s.2.2.2.1] [] s.2.2.2.2.2.2.2.2 none r) ∧ (s.1 = 47 → Sx 0 mX10_writeDown 47 [.ref s.2.2.2.2.2.2.1, .retAddr 0, .retAddr 0, .int s.2.1, .int s.2.2.1, .int s.2.2.2.1] [.int s.2.2.2.2.1, .int s.2.2.2.2.2.1, .ref s.2.2.2.2.2.2.2.1] s.2.2.2.2.2.2.2.2 none r) ∧ True
set_option maxHeartbeats 1000000 in
set_option maxRecDepth 100000 in
theorem Ways_writeDown_6_t {g : (Nat × Int32 × Int32 × Int32 × Int32 × Int32 × Nat × Nat × am_H) → Option am_H} (hg : ∀ s r, g s = some r → Ways_writeDown_6_P s r) {v0 : Nat} {v3 : Int32} {v4 : Int32} {v5 : Int32} {h : am_H} {r : am_H} (hb : Ways_writeDown_6_b g v0 v3 v4 v5 h = some r) : Sx 0 mX10_writeDown 6 [.ref v0, .retAddr 0, .retAddr 0, .int v3, .int v4, .int v5] [] h none r := by
  unfold Ways_writeDown_6_b at hb
  refine Sx.o (fun _ _ _ k => ex_iload dX10_writeDown_6 rfl k) ?_
  refine Sx.b (fun _ _ _ k1 k2 => ex_if_le 65 dX10_writeDown_8 (by decide) k1 k2) (fun q => ?_) (fun q => ?_)
  · have hb1 := ip q hb
    obtain rfl := Option.some.inj hb1
    exact Sx.r (fun _ _ _ k => ex_vret rfl dX10_writeDown_65 k)
  · have hb2 := iq q hb
    refine Sx.o (fun _ _ _ k => ex_iload dX10_writeDown_11 rfl k) ?_
    refine Sx.b (fun _ _ _ k1 k2 => ex_if_lt 65 dX10_writeDown_13 (by decide) k1 k2) (fun q => ?_) (fun q => ?_)
    · have hb3 := ip q hb2
      obtain rfl := Option.some.inj hb3
      exact Sx.r (fun _ _ _ k => ex_vret rfl dX10_writeDown_65 k)
    · have hb4 := iq q hb2
      refine Sx.o (fun _ _ _ k => ex_iload dX10_writeDown_16 rfl k) ?_
      refine Sx.o (fun _ _ _ k => ex_aload_n dX10_writeDown_18 rfl rfl k) ?_
      obtain ⟨x5, e_x5, hb6⟩ := ob2 hb4
      refine Sx.o (fun _ _ _ k => op_getR fX10_37 dX10_writeDown_19 e_x5 k) ?_
      obtain ⟨x7, e_x7, hb8⟩ := ob2 hb6
      refine Sx.o (fun _ _ _ k => op_alen dX10_writeDown_22 e_x7 k) ?_
      refine Sx.b (fun _ _ _ k1 k2 => ex_icmp_ge 65 dX10_writeDown_23 (by decide) k1 k2) (fun q => ?_) (fun q => ?_)
      · have hb9 := ip q hb8
        obtain rfl := Option.some.inj hb9
        exact Sx.r (fun _ _ _ k => ex_vret rfl dX10_writeDown_65 k)
      · have hb10 := iq q hb8
        refine Sx.o (fun _ _ _ k => ex_aload_n dX10_writeDown_26 rfl rfl k) ?_
        obtain ⟨x11, e_x11, hb12⟩ := ob2 hb10
        refine Sx.o (fun _ _ _ k => op_getR fX10_37 dX10_writeDown_27 e_x11 k) ?_
        refine Sx.o (fun _ _ _ k => ex_iload dX10_writeDown_30 rfl k) ?_
        refine Sx.o (fun _ _ _ k => ex_iload_n dX10_writeDown_32 rfl k) ?_
        refine Sx.b (fun _ _ _ k1 k2 => ex_if_le 45 dX10_writeDown_33 (by decide) k1 k2) (fun q => ?_) (fun q => ?_)
        · have hb13 := ip q hb12
          refine Sx.o (fun _ _ _ k => op_bipush (-2 : Int32) dX10_writeDown_45 (by decide) k) ?_
          exact (hg _ _ hb13).2.1 rfl
        · have hb14 := iq q hb12
          refine Sx.o (fun _ _ _ k => ex_iload_n dX10_writeDown_36 rfl k) ?_
          refine Sx.o (fun _ _ _ k => ex_iload dX10_writeDown_37 rfl k) ?_
          refine Sx.o (fun _ _ _ k => op_iconst (4 : Int32) dX10_writeDown_39 (by decide) k) ?_
          refine Sx.o (fun _ _ _ k => ex_imul dX10_writeDown_40 k) ?_
          refine Sx.o (fun _ _ _ k => ex_iadd dX10_writeDown_41 k) ?_
          refine Sx.o (fun _ _ _ k => ex_goto 47 dX10_writeDown_42 (by decide) k) ?_
          exact (hg _ _ hb14).2.1 rfl
set_option maxHeartbeats 1000000 in
set_option maxRecDepth 100000 in
theorem Ways_writeDown_47_t {g : (Nat × Int32 × Int32 × Int32 × Int32 × Int32 × Nat × Nat × am_H) → Option am_H} (hg : ∀ s r, g s = some r → Ways_writeDown_6_P s r) {v0 : Nat} {v3 : Int32} {v4 : Int32} {v5 : Int32} {s0 : Int32} {s1 : Int32} {s2 : Nat} {h : am_H} {r : am_H} (hb : Ways_writeDown_47_b g v0 v3 v4 v5 s0 s1 s2 h = some r) : Sx 0 mX10_writeDown 47 [.ref v0, .retAddr 0, .retAddr 0, .int v3, .int v4, .int v5] [.int s0, .int s1, .ref s2] h none r := by
  unfold Ways_writeDown_47_b at hb
  obtain ⟨h15, e_h15, hb16⟩ := ob2 hb
  refine Sx.p (sI_q e_h15) (fun _ _ _ k => op_iast dX10_writeDown_47 e_h15 k) ?_
  refine Sx.o (fun _ _ _ k => ex_aload_n dX10_writeDown_48 rfl rfl k) ?_
  obtain ⟨x18, e_x18, hb19⟩ := ob2 hb16
  refine Sx.o (fun _ _ _ k => op_getR fX10_34 dX10_writeDown_49 e_x18 k) ?_
  refine Sx.o (fun _ _ _ k => ex_iload dX10_writeDown_52 rfl k) ?_
  obtain ⟨x20, e_x20, hb21⟩ := ob2 hb19
  refine Sx.o (fun _ _ _ k => op_iald dX10_writeDown_54 e_x20 k) ?_
  refine Sx.o (fun _ _ _ k => op_iconst (1 : Int32) dX10_writeDown_55 (by decide) k) ?_
  refine Sx.o (fun _ _ _ k => ex_isub dX10_writeDown_56 k) ?_
  refine Sx.o (L' := [.ref v0, .retAddr 0, .retAddr 0, .int v3, .int (x20 - (1 : Int32)), .int v5]) (fun _ _ _ k => ex_istore dX10_writeDown_57 (by decide) k) ?_
  refine Sx.o (L' := [.ref v0, .retAddr 0, .retAddr 0, .int v3, .int (x20 - (1 : Int32)), .int (v5 + (-1 : Int32))]) (fun _ _ _ k => op_iinc (-1 : Int32) dX10_writeDown_59 (by decide) rfl (by decide) k) ?_
  refine Sx.o (fun _ _ _ k => ex_goto 6 dX10_writeDown_62 (by decide) k) ?_
  exact (hg _ _ hb21).1 rfl
theorem Ways_writeDown_6_T : ∀ s r, fx Ways_writeDown_6_F Ways_writeDown_6_M s = some r → Ways_writeDown_6_P s r := fx_ind Ways_writeDown_6_M Ways_writeDown_6_P (fun g hg s r hb => by
  unfold Ways_writeDown_6_F at hb
  exact ⟨fun q => Ways_writeDown_6_t hg (ip q hb), fun q => Ways_writeDown_47_t hg (ip q (iq (by rw [q]; decide) hb)), trivial⟩)
set_option maxHeartbeats 1000000 in
set_option maxRecDepth 100000 in
theorem Ways_writeDown_6_r {g : (Nat × Int32 × Int32 × Int32 × Int32 × Int32 × Nat × Nat × am_H) → Option am_H} (hg : ∀ s r, g s = some r → Eqs s.2.2.2.2.2.2.2.2 r) {v0 : Nat} {v3 : Int32} {v4 : Int32} {v5 : Int32} {h : am_H} {r : am_H} (hb : Ways_writeDown_6_b g v0 v3 v4 v5 h = some r) : Eqs h r := by
  unfold Ways_writeDown_6_b at hb
  have w0 := Eqs.rf h
  by_cases q : v5 ≤ (0 : Int32)
  · have hb1 := ip q hb
    obtain rfl := Option.some.inj hb1
    exact w0
  · have hb2 := iq q hb
    by_cases q : v4 < (0 : Int32)
    · have hb3 := ip q hb2
      obtain rfl := Option.some.inj hb3
      exact w0
    · have hb4 := iq q hb2
      obtain ⟨x5, e_x5, hb6⟩ := ob2 hb4
      obtain ⟨x7, e_x7, hb8⟩ := ob2 hb6
      by_cases q : x7 ≤ v4
      · have hb9 := ip q hb8
        obtain rfl := Option.some.inj hb9
        exact w0
      · have hb10 := iq q hb8
        obtain ⟨x11, e_x11, hb12⟩ := ob2 hb10
        by_cases q : v3 ≤ (0 : Int32)
        · have hb13 := ip q hb12
          exact w0.tr (hg _ _ hb13)
        · have hb14 := iq q hb12
          exact w0.tr (hg _ _ hb14)
set_option maxHeartbeats 1000000 in
set_option maxRecDepth 100000 in
theorem Ways_writeDown_47_r {g : (Nat × Int32 × Int32 × Int32 × Int32 × Int32 × Nat × Nat × am_H) → Option am_H} (hg : ∀ s r, g s = some r → Eqs s.2.2.2.2.2.2.2.2 r) {v0 : Nat} {v3 : Int32} {v4 : Int32} {v5 : Int32} {s0 : Int32} {s1 : Int32} {s2 : Nat} {h : am_H} {r : am_H} (hb : Ways_writeDown_47_b g v0 v3 v4 v5 s0 s1 s2 h = some r) : Eqs h r := by
  unfold Ways_writeDown_47_b at hb
  have w0 := Eqs.rf h
  obtain ⟨h15, e_h15, hb16⟩ := ob2 hb
  have w17 := w0.tr (sI_q e_h15)
  obtain ⟨x18, e_x18, hb19⟩ := ob2 hb16
  obtain ⟨x20, e_x20, hb21⟩ := ob2 hb19
  exact w17.tr (hg _ _ hb21)
theorem Ways_writeDown_6_Q : ∀ s r, fx Ways_writeDown_6_F Ways_writeDown_6_M s = some r → Eqs s.2.2.2.2.2.2.2.2 r := fx_ind Ways_writeDown_6_M (fun s r => Eqs s.2.2.2.2.2.2.2.2 r) (fun g hg s r hb => by
  unfold Ways_writeDown_6_F at hb
  by_cases q0 : s.1 = 6
  · exact Ways_writeDown_6_r hg (ip q0 hb)
  · have hb0 := iq q0 hb
    by_cases q1 : s.1 = 47
    · exact Ways_writeDown_47_r hg (ip q1 hb0)
    · have hb1 := iq q1 hb0
      exact nomatch hb1)
noncomputable def Ways_writeDown_6 (v0 : Nat) (v3 : Int32) (v4 : Int32) (v5 : Int32) (h : am_H) : Option am_H := fx Ways_writeDown_6_F Ways_writeDown_6_M (6, v3, v4, v5, 0, 0, v0, 0, h)
noncomputable def Ways_writeDown_47 (v0 : Nat) (v3 : Int32) (v4 : Int32) (v5 : Int32) (s0 : Int32) (s1 : Int32) (s2 : Nat) (h : am_H) : Option am_H := fx Ways_writeDown_6_F Ways_writeDown_6_M (47, v3, v4, v5, s0, s1, v0, s2, h)
set_option maxHeartbeats 1000000 in
set_option maxRecDepth 100000 in
theorem Ways_writeDown_6_e (v0 : Nat) (v3 : Int32) (v4 : Int32) (v5 : Int32) (h : am_H) : Ways_writeDown_6 v0 v3 v4 v5 h = (if v5 ≤ (0 : Int32) then some h else if v4 < (0 : Int32) then some h else (gR h 10 v0 17).bind fun x5 => (aL h x5).bind fun x7 => if x7 ≤ v4 then some h else (gR h 10 v0 17).bind fun x11 => if v3 ≤ (0 : Int32) then Ways_writeDown_47 v0 v3 v4 v5 (-2 : Int32) v4 x11 h else Ways_writeDown_47 v0 v3 v4 v5 (v3 + (v5 * (4 : Int32))) v4 x11 h) := (fx_eq Ways_writeDown_6_M (6, v3, v4, v5, 0, 0, v0, 0, h)).trans (if_pos rfl)
theorem Ways_writeDown_6_q {v0 : Nat} {v3 : Int32} {v4 : Int32} {v5 : Int32} {h : am_H} {r : am_H} (hb : Ways_writeDown_6 v0 v3 v4 v5 h = some r) : Eqs h r := Ways_writeDown_6_Q _ _ hb
theorem Ways_writeDown_6_s {v0 : Nat} {v3 : Int32} {v4 : Int32} {v5 : Int32} {h : am_H} {r : am_H} (hb : Ways_writeDown_6 v0 v3 v4 v5 h = some r) : Sx 0 mX10_writeDown 6 [.ref v0, .retAddr 0, .retAddr 0, .int v3, .int v4, .int v5] [] h none r := (Ways_writeDown_6_T _ _ hb).1 rfl
set_option maxHeartbeats 1000000 in
set_option maxRecDepth 100000 in
theorem Ways_writeDown_47_e (v0 : Nat) (v3 : Int32) (v4 : Int32) (v5 : Int32) (s0 : Int32) (s1 : Int32) (s2 : Nat) (h : am_H) : Ways_writeDown_47 v0 v3 v4 v5 s0 s1 s2 h = ((sI h s2 s1 s0).bind fun h15 => (gR h15 10 v0 16).bind fun x18 => (aI h15 0 x18 v4).bind fun x20 => Ways_writeDown_6 v0 v3 (x20 - (1 : Int32)) (v5 + (-1 : Int32)) h15) := (fx_eq Ways_writeDown_6_M (47, v3, v4, v5, s0, s1, v0, s2, h)).trans ((if_neg (show ¬ (47 : Nat) = 6 by decide)).trans (if_pos rfl))
theorem Ways_writeDown_47_q {v0 : Nat} {v3 : Int32} {v4 : Int32} {v5 : Int32} {s0 : Int32} {s1 : Int32} {s2 : Nat} {h : am_H} {r : am_H} (hb : Ways_writeDown_47 v0 v3 v4 v5 s0 s1 s2 h = some r) : Eqs h r := Ways_writeDown_6_Q _ _ hb
theorem Ways_writeDown_47_s {v0 : Nat} {v3 : Int32} {v4 : Int32} {v5 : Int32} {s0 : Int32} {s1 : Int32} {s2 : Nat} {h : am_H} {r : am_H} (hb : Ways_writeDown_47 v0 v3 v4 v5 s0 s1 s2 h = some r) : Sx 0 mX10_writeDown 47 [.ref v0, .retAddr 0, .retAddr 0, .int v3, .int v4, .int v5] [.int s0, .int s1, .ref s2] h none r := (Ways_writeDown_6_T _ _ hb).2.1 rfl
set_option maxHeartbeats 1000000 in
set_option maxRecDepth 100000 in
noncomputable def Ways_writeDown (v0 : Nat) (v1 : Int32) (v2 : Int32) (v3 : Int32) (h : am_H) : Option am_H := if isO h 10 v0 = true then Ways_writeDown_6 v0 v3 v1 v2 h else none
set_option maxHeartbeats 1000000 in
set_option maxRecDepth 100000 in
theorem Ways_writeDown_s {v0 : Nat} {v1 : Int32} {v2 : Int32} {v3 : Int32} {h : am_H} {r : am_H} (hb : Ways_writeDown v0 v1 v2 v3 h = some r) : Sx 0 mX10_writeDown 0 (am_en [.ref v0, .int v1, .int v2, .int v3] 6) [] h none r := by
  unfold Ways_writeDown at hb
  have hb := (iz hb).2
  show Sx 0 mX10_writeDown 0 [.ref v0, .int v1, .int v2, .int v3, .retAddr 0, .retAddr 0] [] h none r
  refine Sx.o (fun _ _ _ k => ex_iload_n dX10_writeDown_0 rfl k) ?_
  refine Sx.o (L' := [.ref v0, .int v1, .int v2, .int v3, .int v1, .retAddr 0]) (fun _ _ _ k => ex_istore dX10_writeDown_1 (by decide) k) ?_
  refine Sx.o (fun _ _ _ k => ex_iload_n dX10_writeDown_3 rfl k) ?_
  refine Sx.o (L' := [.ref v0, .int v1, .int v2, .int v3, .int v1, .int v2]) (fun _ _ _ k => ex_istore dX10_writeDown_4 (by decide) k) ?_
  refine Sx.fg [true, false, false, true, true, true] ?_
  exact Ways_writeDown_6_s hb
set_option maxHeartbeats 1000000 in
set_option maxRecDepth 100000 in
theorem Ways_writeDown_q {v0 : Nat} {v1 : Int32} {v2 : Int32} {v3 : Int32} {h : am_H} {r : am_H} (hb : Ways_writeDown v0 v1 v2 v3 h = some r) : Eqs h r := by
  unfold Ways_writeDown at hb
  have hb := (iz hb).2
  have w0 := Eqs.rf h
  exact w0.tr (Ways_writeDown_6_q hb)
theorem Ways_writeDown_o {v0 : Nat} {v1 : Int32} {v2 : Int32} {v3 : Int32} {h : am_H} {r : am_H} (hb : Ways_writeDown v0 v1 v2 v3 h = some r) : isO h 10 v0 = true := by
  unfold Ways_writeDown at hb
  exact (iz hb).1
set_option maxHeartbeats 1000000 in
set_option maxRecDepth 100000 in
noncomputable def Ways_fateOf_239 (v0 : Nat) (v2 : Int32) (s0 : Int32) (s1 : Int32) (s2 : Int32) (s3 : Nat) (h : am_H) : Option (Int32 × am_H) := (Ways_writeDown s3 s2 s1 s0 h).bind fun h1 => (gR h1 10 v0 17).bind fun x4 => (aI h1 0 x4 v2).bind fun x6 => some (x6, h1)
set_option maxHeartbeats 1000000 in
set_option maxRecDepth 100000 in
theorem Ways_fateOf_239_s {v0 : Nat} {v2 : Int32} {s0 : Int32} {s1 : Int32} {s2 : Int32} {s3 : Nat} {h : am_H} {r : (Int32 × am_H)} (hb : Ways_fateOf_239 v0 v2 s0 s1 s2 s3 h = some r) : Sx 4 mX10_fateOf 239 [.ref v0, .retAddr 0, .int v2, .retAddr 0, .retAddr 0, .retAddr 0, .retAddr 0] [.int s0, .int s1, .int s2, .ref s3] h (some (.int r.1)) r.2 := by
  unfold Ways_fateOf_239 at hb
  obtain ⟨h1, e_h1, hb2⟩ := ob2 hb
  refine sx_callV (dc := 0) (as := [.int s2, .int s1, .int s0]) (stq := []) (by omega) dX10_fateOf_239 MX10_writeDown kX10_148 iX10_writeDown sX10_writeDown rfl rfl (Ways_writeDown_o e_h1) rfl rfl (Nat.le_of_ble_eq_true rfl) (Nat.le_of_ble_eq_true rfl) (Ways_writeDown_s e_h1) rfl ?_
  refine Sx.o (fun _ _ _ k => ex_aload_n dX10_fateOf_242 rfl rfl k) ?_
  obtain ⟨x4, e_x4, hb5⟩ := ob2 hb2
  refine Sx.o (fun _ _ _ k => op_getR fX10_37 dX10_fateOf_243 e_x4 k) ?_
  refine Sx.o (fun _ _ _ k => ex_iload_n dX10_fateOf_246 rfl k) ?_
  obtain ⟨x6, e_x6, hb7⟩ := ob2 hb5
  refine Sx.o (fun _ _ _ k => op_iald dX10_fateOf_247 e_x6 k) ?_
  obtain rfl := Option.some.inj hb7
  exact Sx.r (fun _ _ _ k => ex_iret rfl dX10_fateOf_248 k)
set_option maxHeartbeats 1000000 in
set_option maxRecDepth 100000 in
theorem Ways_fateOf_239_q {v0 : Nat} {v2 : Int32} {s0 : Int32} {s1 : Int32} {s2 : Int32} {s3 : Nat} {h : am_H} {r : (Int32 × am_H)} (hb : Ways_fateOf_239 v0 v2 s0 s1 s2 s3 h = some r) : Eqs h r.2 := by
  unfold Ways_fateOf_239 at hb
  have w0 := Eqs.rf h
  obtain ⟨h1, e_h1, hb2⟩ := ob2 hb
  have w3 := w0.tr (Ways_writeDown_q e_h1)
  obtain ⟨x4, e_x4, hb5⟩ := ob2 hb2
  obtain ⟨x6, e_x6, hb7⟩ := ob2 hb5
  obtain rfl := Option.some.inj hb7
  exact w3
set_option maxHeartbeats 1000000 in
set_option maxRecDepth 100000 in
noncomputable def Ways_fateOf_221 (v0 : Nat) (v2 : Int32) (v4 : Int32) (s0 : Int32) (h : am_H) : Option (Int32 × am_H) := if s0 ≤ (0 : Int32) then Ways_fateOf_239 v0 v2 (-2 : Int32) v4 v2 v0 h else Ways_fateOf_239 v0 v2 s0 v4 v2 v0 h
set_option maxHeartbeats 1000000 in
set_option maxRecDepth 100000 in
theorem Ways_fateOf_221_s {v0 : Nat} {v2 : Int32} {v4 : Int32} {s0 : Int32} {h : am_H} {r : (Int32 × am_H)} (hb : Ways_fateOf_221 v0 v2 v4 s0 h = some r) : Sx 4 mX10_fateOf 221 [.ref v0, .retAddr 0, .int v2, .retAddr 0, .int v4, .retAddr 0, .retAddr 0] [.int s0] h (some (.int r.1)) r.2 := by
  unfold Ways_fateOf_221 at hb
  refine Sx.o (L' := [.ref v0, .retAddr 0, .int v2, .retAddr 0, .int v4, .int s0, .retAddr 0]) (fun _ _ _ k => ex_istore dX10_fateOf_221 (by decide) k) ?_
  refine Sx.o (fun _ _ _ k => ex_aload_n dX10_fateOf_223 rfl rfl k) ?_
  refine Sx.o (fun _ _ _ k => ex_iload_n dX10_fateOf_224 rfl k) ?_
  refine Sx.o (fun _ _ _ k => ex_iload dX10_fateOf_225 rfl k) ?_
  refine Sx.o (fun _ _ _ k => ex_iload dX10_fateOf_227 rfl k) ?_
  refine Sx.b (fun _ _ _ k1 k2 => ex_if_le 237 dX10_fateOf_229 (by decide) k1 k2) (fun q => ?_) (fun q => ?_)
  · have hb8 := ip q hb
    refine Sx.o (fun _ _ _ k => op_bipush (-2 : Int32) dX10_fateOf_237 (by decide) k) ?_
    refine Sx.fg [true, true, true, true, false, false, true] ?_
    exact Ways_fateOf_239_s hb8
  · have hb9 := iq q hb
    refine Sx.o (fun _ _ _ k => ex_iload dX10_fateOf_232 rfl k) ?_
    refine Sx.o (fun _ _ _ k => ex_goto 239 dX10_fateOf_234 (by decide) k) ?_
    refine Sx.fg [true, true, true, true, false, false, true] ?_
    exact Ways_fateOf_239_s hb9
set_option maxHeartbeats 1000000 in
set_option maxRecDepth 100000 in
theorem Ways_fateOf_221_q {v0 : Nat} {v2 : Int32} {v4 : Int32} {s0 : Int32} {h : am_H} {r : (Int32 × am_H)} (hb : Ways_fateOf_221 v0 v2 v4 s0 h = some r) : Eqs h r.2 := by
  unfold Ways_fateOf_221 at hb
  have w0 := Eqs.rf h
  by_cases q : s0 ≤ (0 : Int32)
  · have hb8 := ip q hb
    exact w0.tr (Ways_fateOf_239_q hb8)
  · have hb9 := iq q hb
    exact w0.tr (Ways_fateOf_239_q hb9)
set_option maxHeartbeats 1000000 in
set_option maxRecDepth 100000 in
noncomputable def Ways_fateOf_219 (v0 : Nat) (v2 : Int32) (v4 : Int32) (h : am_H) : Option (Int32 × am_H) := Ways_fateOf_221 v0 v2 v4 (-2 : Int32) h
set_option maxHeartbeats 1000000 in
set_option maxRecDepth 100000 in
theorem Ways_fateOf_219_s {v0 : Nat} {v2 : Int32} {v4 : Int32} {h : am_H} {r : (Int32 × am_H)} (hb : Ways_fateOf_219 v0 v2 v4 h = some r) : Sx 4 mX10_fateOf 219 [.ref v0, .retAddr 0, .int v2, .retAddr 0, .int v4, .retAddr 0, .retAddr 0] [] h (some (.int r.1)) r.2 := by
  unfold Ways_fateOf_219 at hb
  refine Sx.o (fun _ _ _ k => op_bipush (-2 : Int32) dX10_fateOf_219 (by decide) k) ?_
  exact Ways_fateOf_221_s hb
set_option maxHeartbeats 1000000 in
set_option maxRecDepth 100000 in
theorem Ways_fateOf_219_q {v0 : Nat} {v2 : Int32} {v4 : Int32} {h : am_H} {r : (Int32 × am_H)} (hb : Ways_fateOf_219 v0 v2 v4 h = some r) : Eqs h r.2 := by
  unfold Ways_fateOf_219 at hb
  have w0 := Eqs.rf h
  exact w0.tr (Ways_fateOf_221_q hb)
set_option maxHeartbeats 1000000 in
set_option maxRecDepth 100000 in
noncomputable def Ways_fateOf_197 (v0 : Nat) (v2 : Int32) (v3 : Int32) (v4 : Int32) (h : am_H) : Option (Int32 × am_H) := if v3 < (0 : Int32) then Ways_fateOf_219 v0 v2 v4 h else (gR h 10 v0 17).bind fun x12 => (aL h x12).bind fun x14 => if x14 ≤ v3 then Ways_fateOf_219 v0 v2 v4 h else (gR h 10 v0 17).bind fun x18 => (aI h 0 x18 v3).bind fun x20 => Ways_fateOf_221 v0 v2 v4 x20 h
set_option maxHeartbeats 1000000 in
set_option maxRecDepth 100000 in
theorem Ways_fateOf_197_s {v0 : Nat} {v2 : Int32} {v3 : Int32} {v4 : Int32} {h : am_H} {r : (Int32 × am_H)} (hb : Ways_fateOf_197 v0 v2 v3 v4 h = some r) : Sx 4 mX10_fateOf 197 [.ref v0, .retAddr 0, .int v2, .int v3, .int v4, .retAddr 0, .retAddr 0] [] h (some (.int r.1)) r.2 := by
  unfold Ways_fateOf_197 at hb
  refine Sx.o (fun _ _ _ k => ex_iload_n dX10_fateOf_197 rfl k) ?_
  refine Sx.b (fun _ _ _ k1 k2 => ex_if_lt 219 dX10_fateOf_198 (by decide) k1 k2) (fun q => ?_) (fun q => ?_)
  · have hb10 := ip q hb
    refine Sx.fg [true, true, true, false, true, true, true] ?_
    exact Ways_fateOf_219_s hb10
  · have hb11 := iq q hb
    refine Sx.o (fun _ _ _ k => ex_iload_n dX10_fateOf_201 rfl k) ?_
    refine Sx.o (fun _ _ _ k => ex_aload_n dX10_fateOf_202 rfl rfl k) ?_
    obtain ⟨x12, e_x12, hb13⟩ := ob2 hb11
    refine Sx.o (fun _ _ _ k => op_getR fX10_37 dX10_fateOf_203 e_x12 k) ?_
    obtain ⟨x14, e_x14, hb15⟩ := ob2 hb13
    refine Sx.o (fun _ _ _ k => op_alen dX10_fateOf_206 e_x14 k) ?_
    refine Sx.b (fun _ _ _ k1 k2 => ex_icmp_ge 219 dX10_fateOf_207 (by decide) k1 k2) (fun q => ?_) (fun q => ?_)
    · have hb16 := ip q hb15
      refine Sx.fg [true, true, true, false, true, true, true] ?_
      exact Ways_fateOf_219_s hb16
    · have hb17 := iq q hb15
      refine Sx.o (fun _ _ _ k => ex_aload_n dX10_fateOf_210 rfl rfl k) ?_
      obtain ⟨x18, e_x18, hb19⟩ := ob2 hb17
      refine Sx.o (fun _ _ _ k => op_getR fX10_37 dX10_fateOf_211 e_x18 k) ?_
      refine Sx.o (fun _ _ _ k => ex_iload_n dX10_fateOf_214 rfl k) ?_
      obtain ⟨x20, e_x20, hb21⟩ := ob2 hb19
      refine Sx.o (fun _ _ _ k => op_iald dX10_fateOf_215 e_x20 k) ?_
      refine Sx.o (fun _ _ _ k => ex_goto 221 dX10_fateOf_216 (by decide) k) ?_
      refine Sx.fg [true, true, true, false, true, true, true] ?_
      exact Ways_fateOf_221_s hb21
set_option maxHeartbeats 1000000 in
set_option maxRecDepth 100000 in
theorem Ways_fateOf_197_q {v0 : Nat} {v2 : Int32} {v3 : Int32} {v4 : Int32} {h : am_H} {r : (Int32 × am_H)} (hb : Ways_fateOf_197 v0 v2 v3 v4 h = some r) : Eqs h r.2 := by
  unfold Ways_fateOf_197 at hb
  have w0 := Eqs.rf h
  by_cases q : v3 < (0 : Int32)
  · have hb10 := ip q hb
    exact w0.tr (Ways_fateOf_219_q hb10)
  · have hb11 := iq q hb
    obtain ⟨x12, e_x12, hb13⟩ := ob2 hb11
    obtain ⟨x14, e_x14, hb15⟩ := ob2 hb13
    by_cases q : x14 ≤ v3
    · have hb16 := ip q hb15
      exact w0.tr (Ways_fateOf_219_q hb16)
    · have hb17 := iq q hb15
      obtain ⟨x18, e_x18, hb19⟩ := ob2 hb17
      obtain ⟨x20, e_x20, hb21⟩ := ob2 hb19
      exact w0.tr (Ways_fateOf_221_q hb21)
set_option maxHeartbeats 1000000 in
set_option maxRecDepth 100000 in
noncomputable def Ways_fateOf_54_b (g : (Nat × Int32 × Int32 × Int32 × Int32 × Int32 × Int32 × Nat × Nat × am_H) → Option (Int32 × am_H)) (v0 : Nat) (v2 : Int32) (v3 : Int32) (v4 : Int32) (v5 : Int32) (h : am_H) : Option (Int32 × am_H) := (gR h 10 v0 17).bind fun x22 => (aL h x22).bind fun x24 => if x24 < v5 then Ways_fateOf_197 v0 v2 v3 v4 h else if v3 < (0 : Int32) then Ways_fateOf_197 v0 v2 v3 v4 h else (gR h 10 v0 17).bind fun x30 => (aL h x30).bind fun x32 => if x32 ≤ v3 then Ways_fateOf_197 v0 v2 v3 v4 h else (gR h 10 v0 17).bind fun x36 => (aI h 0 x36 v3).bind fun x38 => if x38 = (0 : Int32) then (gR h 10 v0 7).bind fun x42 => (gR h 10 v0 10).bind fun x44 => (Steps_look x42 x44 h).bind fun r46 => if r46.1 = (3 : Int32) then (gR r46.2 10 v0 7).bind fun x66 => (gR r46.2 10 v0 10).bind fun x68 => (Steps_make x66 x68 r46.2).bind fun h70 => (gR h70 10 v0 17).bind fun x73 => (sI h70 x73 v3 (-1 : Int32)).bind fun h75 => (gR h75 10 v0 16).bind fun x78 => (gR h75 10 v0 10).bind fun x80 => (Ways_timeOf v0 x80 h75).bind fun x82 => (sI h75 x78 v3 (x82 + (1 : Int32))).bind fun h84 => (gR h84 10 v0 16).bind fun x87 => (aI h84 0 x87 v3).bind fun x89 => g (191, v2, (x89 - (1 : Int32)), (v4 + (1 : Int32)), v5, 0, 0, v0, 0, h84) else if r46.1 = (1 : Int32) then (gR r46.2 10 v0 17).bind fun x61 => (sI r46.2 x61 v3 (3 : Int32)).bind fun h63 => g (191, v2, v3, v4, v5, 0, 0, v0, 0, h63) else (gR r46.2 10 v0 17).bind fun x53 => (gR r46.2 10 v0 10).bind fun x55 => (Row_rises x55 r46.2).bind fun x57 => if x57 = (0 : Int32) then g (190, v2, v3, v4, v5, (1 : Int32), v3, v0, x53, r46.2) else g (190, v2, v3, v4, v5, (2 : Int32), v3, v0, x53, r46.2) else Ways_fateOf_197 v0 v2 v3 v4 h
set_option maxHeartbeats 1000000 in
set_option maxRecDepth 100000 in
theorem Ways_fateOf_54_m {g g2 : (Nat × Int32 × Int32 × Int32 × Int32 × Int32 × Int32 × Nat × Nat × am_H) → Option (Int32 × am_H)} (hg : ∀ s, Le (g s) (g2 s)) (v0 : Nat) (v2 : Int32) (v3 : Int32) (v4 : Int32) (v5 : Int32) (h : am_H) : Le (Ways_fateOf_54_b g v0 v2 v3 v4 v5 h) (Ways_fateOf_54_b g2 v0 v2 v3 v4 v5 h) := by unfold Ways_fateOf_54_b; exact le_b (le_r _) fun x22 => le_b (le_r _) fun x24 => le_i (le_r _) (le_i (le_r _) (le_b (le_r _) fun x30 => le_b (le_r _) fun x32 => le_i (le_r _) (le_b (le_r _) fun x36 => le_b (le_r _) fun x38 => le_i (le_b (le_r _) fun x42 => le_b (le_r _) fun x44 => le_b (le_r _) fun r46 => le_i (le_b (le_r _) fun x66 => le_b (le_r _) fun x68 => le_b (le_r _) fun h70 => le_b (le_r _) fun x73 => le_b (le_r _) fun h75 => le_b (le_r _) fun x78 => le_b (le_r _) fun x80 => le_b (le_r _) fun x82 => le_b (le_r _) fun h84 => le_b (le_r _) fun x87 => le_b (le_r _) fun x89 => hg _) (le_i (le_b (le_r _) fun x61 => le_b (le_r _) fun h63 => hg _) (le_b (le_r _) fun x53 => le_b (le_r _) fun x55 => le_b (le_r _) fun x57 => le_i (hg _) (hg _)))) (le_r _))))
set_option maxHeartbeats 1000000 in
set_option maxRecDepth 100000 in
noncomputable def Ways_fateOf_190_b (g : (Nat × Int32 × Int32 × Int32 × Int32 × Int32 × Int32 × Nat × Nat × am_H) → Option (Int32 × am_H)) (v0 : Nat) (v2 : Int32) (v3 : Int32) (v4 : Int32) (v5 : Int32) (s0 : Int32) (s1 : Int32) (s2 : Nat) (h : am_H) : Option (Int32 × am_H) := (sI h s2 s1 s0).bind fun h91 => g (191, v2, v3, v4, v5, 0, 0, v0, 0, h91)
set_option maxHeartbeats 1000000 in
set_option maxRecDepth 100000 in
theorem Ways_fateOf_190_m {g g2 : (Nat × Int32 × Int32 × Int32 × Int32 × Int32 × Int32 × Nat × Nat × am_H) → Option (Int32 × am_H)} (hg : ∀ s, Le (g s) (g2 s)) (v0 : Nat) (v2 : Int32) (v3 : Int32) (v4 : Int32) (v5 : Int32) (s0 : Int32) (s1 : Int32) (s2 : Nat) (h : am_H) : Le (Ways_fateOf_190_b g v0 v2 v3 v4 v5 s0 s1 s2 h) (Ways_fateOf_190_b g2 v0 v2 v3 v4 v5 s0 s1 s2 h) := by unfold Ways_fateOf_190_b; exact le_b (le_r _) fun h91 => hg _
set_option maxHeartbeats 1000000 in
set_option maxRecDepth 100000 in
noncomputable def Ways_fateOf_191_b (g : (Nat × Int32 × Int32 × Int32 × Int32 × Int32 × Int32 × Nat × Nat × am_H) → Option (Int32 × am_H)) (v0 : Nat) (v2 : Int32) (v3 : Int32) (v4 : Int32) (v5 : Int32) (h : am_H) : Option (Int32 × am_H) := g (54, v2, v3, v4, (v5 + (1 : Int32)), 0, 0, v0, 0, h)
set_option maxHeartbeats 1000000 in
set_option maxRecDepth 100000 in
theorem Ways_fateOf_191_m {g g2 : (Nat × Int32 × Int32 × Int32 × Int32 × Int32 × Int32 × Nat × Nat × am_H) → Option (Int32 × am_H)} (hg : ∀ s, Le (g s) (g2 s)) (v0 : Nat) (v2 : Int32) (v3 : Int32) (v4 : Int32) (v5 : Int32) (h : am_H) : Le (Ways_fateOf_191_b g v0 v2 v3 v4 v5 h) (Ways_fateOf_191_b g2 v0 v2 v3 v4 v5 h) := by unfold Ways_fateOf_191_b; exact hg _
noncomputable def Ways_fateOf_54_F (g : (Nat × Int32 × Int32 × Int32 × Int32 × Int32 × Int32 × Nat × Nat × am_H) → Option (Int32 × am_H)) (s : (Nat × Int32 × Int32 × Int32 × Int32 × Int32 × Int32 × Nat × Nat × am_H)) : Option (Int32 × am_H) := if s.1 = 54 then Ways_fateOf_54_b g s.2.2.2.2.2.2.2.1 s.2.1 s.2.2.1 s.2.2.2.1 s.2.2.2.2.1 s.2.2.2.2.2.2.2.2.2 else if s.1 = 190 then Ways_fateOf_190_b g s.2.2.2.2.2.2.2.1 s.2.1 s.2.2.1 s.2.2.2.1 s.2.2.2.2.1 s.2.2.2.2.2.1 s.2.2.2.2.2.2.1 s.2.2.2.2.2.2.2.2.1 s.2.2.2.2.2.2.2.2.2 else if s.1 = 191 then Ways_fateOf_191_b g s.2.2.2.2.2.2.2.1 s.2.1 s.2.2.1 s.2.2.2.1 s.2.2.2.2.1 s.2.2.2.2.2.2.2.2.2 else none
theorem Ways_fateOf_54_M : Mn Ways_fateOf_54_F := fun g g2 hg s => by unfold Ways_fateOf_54_F; exact le_i (Ways_fateOf_54_m hg s.2.2.2.2.2.2.2.1 s.2.1 s.2.2.1 s.2.2.2.1 s.2.2.2.2.1 s.2.2.2.2.2.2.2.2.2) (le_i (Ways_fateOf_190_m hg s.2.2.2.2.2.2.2.1 s.2.1 s.2.2.1 s.2.2.2.1 s.2.2.2.2.1 s.2.2.2.2.2.1 s.2.2.2.2.2.2.1 s.2.2.2.2.2.2.2.2.1 s.2.2.2.2.2.2.2.2.2) (le_i (Ways_fateOf_191_m hg s.2.2.2.2.2.2.2.1 s.2.1 s.2.2.1 s.2.2.2.1 s.2.2.2.2.1 s.2.2.2.2.2.2.2.2.2) (le_r _)))
def Ways_fateOf_54_P (s : (Nat × Int32 × Int32 × Int32 × Int32 × Int32 × Int32 × Nat × Nat × am_H)) (r : (Int32 × am_H)) : Prop := (s.1 = 54 → Sx 4 mX10_fateOf 54 [.ref s.2.2.2.2.2.2.2.1, .retAddr 0, .int s.2.1, .int s.2.2.1, .int s.2.2.2.1, .int s.2.2.2.2.1, .retAddr 0] [] s.2.2.2.2.2.2.2.2.2 (some (.int r.1)) r.2) ∧ (s.1 = 190 → Sx 4 mX10_fateOf 190 [.ref s.2.2.2.2.2.2.2.1, .retAddr 0, .int s.2.1, .int s.2.2.1, .int s.2.2.2.1, .int s.2.2.2.2.1, .retAddr 0] [.int s.2.2.2.2.2.1, .int s.2.2.2.2.2.2.1, .ref s.2.2.2.2.2.2.2.2.1] s.2.2.2.2.2.2.2.2.2 (some (.int r.1)) r.2) ∧ (s.1 = 191 → Sx 4 mX10_fateOf 191 [.ref s.2.2.2.2.2.2.2.1, .retAddr 0, .int s.2.1, .int s.2.2.1, .int s.2.2.2.1, .int s.2.2.2.2.1, .retAddr 0] [] s.2.2.2.2.2.2.2.2.2 (some (.int r.1)) r.2) ∧ True
set_option maxHeartbeats 1000000 in
set_option maxRecDepth 100000 in
theorem Ways_fateOf_54_t {g : (Nat × Int32 × Int32 × Int32 × Int32 × Int32 × Int32 × Nat × Nat × am_H) → Option (Int32 × am_H)} (hg : ∀ s r, g s = some r → Ways_fateOf_54_P s r) {v0 : Nat} {v2 : Int32} {v3 : Int32} {v4 : Int32} {v5 : Int32} {h : am_H} {r : (Int32 × am_H)} (hb : Ways_fateOf_54_b g v0 v2 v3 v4 v5 h = some r) : Sx 4 mX10_fateOf 54 [.ref v0, .retAddr 0, .int v2, .int v3, .int v4, .int v5, .retAddr 0] [] h (some (.int r.1)) r.2 := by
  unfold Ways_fateOf_54_b at hb
  refine Sx.o (fun _ _ _ k => ex_iload dX10_fateOf_54 rfl k) ?_
  refine Sx.o (fun _ _ _ k => ex_aload_n dX10_fateOf_56 rfl rfl k) ?_
  obtain ⟨x22, e_x22, hb23⟩ := ob2 hb
  refine Sx.o (fun _ _ _ k => op_getR fX10_37 dX10_fateOf_57 e_x22 k) ?_
  obtain ⟨x24, e_x24, hb25⟩ := ob2 hb23
  refine Sx.o (fun _ _ _ k => op_alen dX10_fateOf_60 e_x24 k) ?_
  refine Sx.b (fun _ _ _ k1 k2 => ex_icmp_gt 197 dX10_fateOf_61 (by decide) k1 k2) (fun q => ?_) (fun q => ?_)
  · have hb26 := ip q hb25
    refine Sx.fg [true, true, true, true, true, false, true] ?_
    exact Ways_fateOf_197_s hb26
  · have hb27 := iq q hb25
    refine Sx.o (fun _ _ _ k => ex_iload_n dX10_fateOf_64 rfl k) ?_
    refine Sx.b (fun _ _ _ k1 k2 => ex_if_lt 197 dX10_fateOf_65 (by decide) k1 k2) (fun q => ?_) (fun q => ?_)
    · have hb28 := ip q hb27
      refine Sx.fg [true, true, true, true, true, false, true] ?_
      exact Ways_fateOf_197_s hb28
    · have hb29 := iq q hb27
      refine Sx.o (fun _ _ _ k => ex_iload_n dX10_fateOf_68 rfl k) ?_
      refine Sx.o (fun _ _ _ k => ex_aload_n dX10_fateOf_69 rfl rfl k) ?_
      obtain ⟨x30, e_x30, hb31⟩ := ob2 hb29
      refine Sx.o (fun _ _ _ k => op_getR fX10_37 dX10_fateOf_70 e_x30 k) ?_
      obtain ⟨x32, e_x32, hb33⟩ := ob2 hb31
      refine Sx.o (fun _ _ _ k => op_alen dX10_fateOf_73 e_x32 k) ?_
      refine Sx.b (fun _ _ _ k1 k2 => ex_icmp_ge 197 dX10_fateOf_74 (by decide) k1 k2) (fun q => ?_) (fun q => ?_)
      · have hb34 := ip q hb33
        refine Sx.fg [true, true, true, true, true, false, true] ?_
        exact Ways_fateOf_197_s hb34
      · have hb35 := iq q hb33
        refine Sx.o (fun _ _ _ k => ex_aload_n dX10_fateOf_77 rfl rfl k) ?_
        obtain ⟨x36, e_x36, hb37⟩ := ob2 hb35
        refine Sx.o (fun _ _ _ k => op_getR fX10_37 dX10_fateOf_78 e_x36 k) ?_
        refine Sx.o (fun _ _ _ k => ex_iload_n dX10_fateOf_81 rfl k) ?_
        obtain ⟨x38, e_x38, hb39⟩ := ob2 hb37
        refine Sx.o (fun _ _ _ k => op_iald dX10_fateOf_82 e_x38 k) ?_
        refine Sx.bn (fun _ _ _ k1 k2 => ex_if_ne 197 dX10_fateOf_83 (by decide) k1 k2) (fun q => ?_) (fun q => ?_)
        · have hb40 := iq q hb39
          refine Sx.fg [true, true, true, true, true, false, true] ?_
          exact Ways_fateOf_197_s hb40
        · have hb41 := ip q hb39
          refine Sx.o (fun _ _ _ k => ex_aload_n dX10_fateOf_86 rfl rfl k) ?_
          obtain ⟨x42, e_x42, hb43⟩ := ob2 hb41
          refine Sx.o (fun _ _ _ k => op_getR fX10_44 dX10_fateOf_87 e_x42 k) ?_
          refine Sx.o (fun _ _ _ k => ex_aload_n dX10_fateOf_90 rfl rfl k) ?_
          obtain ⟨x44, e_x44, hb45⟩ := ob2 hb43
          refine Sx.o (fun _ _ _ k => op_getR fX10_25 dX10_fateOf_91 e_x44 k) ?_
          obtain ⟨r46, e_r46, hb47⟩ := ob2 hb45
          refine sx_callV (dc := 3) (as := [.ref x44]) (stq := [.int r46.1]) (by omega) dX10_fateOf_94 MX6_look kX10_132 iX6_look sX6_look rfl rfl (Steps_look_o e_r46) rfl rfl (Nat.le_of_ble_eq_true rfl) (Nat.le_of_ble_eq_true rfl) (Steps_look_s e_r46) rfl ?_
          refine Sx.o (L' := [.ref v0, .retAddr 0, .int v2, .int v3, .int v4, .int v5, .int r46.1]) (fun _ _ _ k => ex_istore dX10_fateOf_97 (by decide) k) ?_
          refine Sx.o (fun _ _ _ k => ex_iload dX10_fateOf_99 rfl k) ?_
          refine Sx.o (fun _ _ _ k => op_iconst (3 : Int32) dX10_fateOf_101 (by decide) k) ?_
          refine Sx.bn (fun _ _ _ k1 k2 => ex_icmp_ne 154 dX10_fateOf_102 (by decide) k1 k2) (fun q => ?_) (fun q => ?_)
          · have hb49 := iq q hb47
            refine Sx.o (fun _ _ _ k => ex_iload dX10_fateOf_154 rfl k) ?_
            refine Sx.o (fun _ _ _ k => op_iconst (1 : Int32) dX10_fateOf_156 (by decide) k) ?_
            refine Sx.bn (fun _ _ _ k1 k2 => ex_icmp_ne 170 dX10_fateOf_157 (by decide) k1 k2) (fun q => ?_) (fun q => ?_)
            · have hb51 := iq q hb49
              refine Sx.o (fun _ _ _ k => ex_aload_n dX10_fateOf_170 rfl rfl k) ?_
              obtain ⟨x53, e_x53, hb54⟩ := ob2 hb51
              refine Sx.o (fun _ _ _ k => op_getR fX10_37 dX10_fateOf_171 e_x53 k) ?_
              refine Sx.o (fun _ _ _ k => ex_iload_n dX10_fateOf_174 rfl k) ?_
              refine Sx.o (fun _ _ _ k => ex_aload_n dX10_fateOf_175 rfl rfl k) ?_
              obtain ⟨x55, e_x55, hb56⟩ := ob2 hb54
              refine Sx.o (fun _ _ _ k => op_getR fX10_25 dX10_fateOf_176 e_x55 k) ?_
              obtain ⟨x57, e_x57, hb58⟩ := ob2 hb56
              refine sx_callV (dc := 0) (as := []) (stq := [.int x57, .int v3, .ref x53]) (by omega) dX10_fateOf_179 MX4_rises kX10_144 iX4_rises sX4_rises rfl rfl (Row_rises_o e_x57) rfl rfl (Nat.le_of_ble_eq_true rfl) (Nat.le_of_ble_eq_true rfl) (Row_rises_s e_x57) rfl ?_
              refine Sx.b (fun _ _ _ k1 k2 => ex_if_eq 189 dX10_fateOf_182 (by decide) k1 k2) (fun q => ?_) (fun q => ?_)
              · have hb59 := ip q hb58
                refine Sx.o (fun _ _ _ k => op_iconst (1 : Int32) dX10_fateOf_189 (by decide) k) ?_
                refine Sx.fg [true, true, true, true, true, true, false] ?_
                exact (hg _ _ hb59).2.1 rfl
              · have hb60 := iq q hb58
                refine Sx.o (fun _ _ _ k => op_iconst (2 : Int32) dX10_fateOf_185 (by decide) k) ?_
                refine Sx.o (fun _ _ _ k => ex_goto 190 dX10_fateOf_186 (by decide) k) ?_
                refine Sx.fg [true, true, true, true, true, true, false] ?_
                exact (hg _ _ hb60).2.1 rfl
            · have hb52 := ip q hb49
              refine Sx.o (fun _ _ _ k => ex_aload_n dX10_fateOf_160 rfl rfl k) ?_
              obtain ⟨x61, e_x61, hb62⟩ := ob2 hb52
              refine Sx.o (fun _ _ _ k => op_getR fX10_37 dX10_fateOf_161 e_x61 k) ?_
              refine Sx.o (fun _ _ _ k => ex_iload_n dX10_fateOf_164 rfl k) ?_
              refine Sx.o (fun _ _ _ k => op_iconst (3 : Int32) dX10_fateOf_165 (by decide) k) ?_
              obtain ⟨h63, e_h63, hb64⟩ := ob2 hb62
              refine Sx.p (sI_q e_h63) (fun _ _ _ k => op_iast dX10_fateOf_166 e_h63 k) ?_
              refine Sx.o (fun _ _ _ k => ex_goto 191 dX10_fateOf_167 (by decide) k) ?_
              refine Sx.fg [true, true, true, true, true, true, false] ?_
              exact (hg _ _ hb64).2.2.1 rfl
          · have hb50 := ip q hb47
            refine Sx.o (fun _ _ _ k => ex_aload_n dX10_fateOf_105 rfl rfl k) ?_
            obtain ⟨x66, e_x66, hb67⟩ := ob2 hb50
            refine Sx.o (fun _ _ _ k => op_getR fX10_44 dX10_fateOf_106 e_x66 k) ?_
            refine Sx.o (fun _ _ _ k => ex_aload_n dX10_fateOf_109 rfl rfl k) ?_
            obtain ⟨x68, e_x68, hb69⟩ := ob2 hb67
            refine Sx.o (fun _ _ _ k => op_getR fX10_25 dX10_fateOf_110 e_x68 k) ?_
            obtain ⟨h70, e_h70, hb71⟩ := ob2 hb69
            refine sx_callV (dc := 3) (as := [.ref x68]) (stq := []) (by omega) dX10_fateOf_113 MX6_make kX10_138 iX6_make sX6_make rfl rfl (Steps_make_o e_h70) rfl rfl (Nat.le_of_ble_eq_true rfl) (Nat.le_of_ble_eq_true rfl) (Steps_make_s e_h70) rfl ?_
            refine Sx.o (fun _ _ _ k => ex_aload_n dX10_fateOf_116 rfl rfl k) ?_
            obtain ⟨x73, e_x73, hb74⟩ := ob2 hb71
            refine Sx.o (fun _ _ _ k => op_getR fX10_37 dX10_fateOf_117 e_x73 k) ?_
            refine Sx.o (fun _ _ _ k => ex_iload_n dX10_fateOf_120 rfl k) ?_
            refine Sx.o (fun _ _ _ k => op_iconst (-1 : Int32) dX10_fateOf_121 (by decide) k) ?_
            obtain ⟨h75, e_h75, hb76⟩ := ob2 hb74
            refine Sx.p (sI_q e_h75) (fun _ _ _ k => op_iast dX10_fateOf_122 e_h75 k) ?_
            refine Sx.o (fun _ _ _ k => ex_aload_n dX10_fateOf_123 rfl rfl k) ?_
            obtain ⟨x78, e_x78, hb79⟩ := ob2 hb76
            refine Sx.o (fun _ _ _ k => op_getR fX10_34 dX10_fateOf_124 e_x78 k) ?_
            refine Sx.o (fun _ _ _ k => ex_iload_n dX10_fateOf_127 rfl k) ?_
            refine Sx.o (fun _ _ _ k => ex_aload_n dX10_fateOf_128 rfl rfl k) ?_
            refine Sx.o (fun _ _ _ k => ex_aload_n dX10_fateOf_129 rfl rfl k) ?_
            obtain ⟨x80, e_x80, hb81⟩ := ob2 hb79
            refine Sx.o (fun _ _ _ k => op_getR fX10_25 dX10_fateOf_130 e_x80 k) ?_
            obtain ⟨x82, e_x82, hb83⟩ := ob2 hb81
            refine sx_callV (dc := 1) (as := [.ref x80]) (stq := [.int x82, .int v3, .ref x78]) (by omega) dX10_fateOf_133 MX10_timeOf kX10_141 iX10_timeOf sX10_timeOf rfl rfl (Ways_timeOf_o e_x82) rfl rfl (Nat.le_of_ble_eq_true rfl) (Nat.le_of_ble_eq_true rfl) (Ways_timeOf_s e_x82) rfl ?_
            refine Sx.o (fun _ _ _ k => op_iconst (1 : Int32) dX10_fateOf_136 (by decide) k) ?_
            refine Sx.o (fun _ _ _ k => ex_iadd dX10_fateOf_137 k) ?_
            obtain ⟨h84, e_h84, hb85⟩ := ob2 hb83
            refine Sx.p (sI_q e_h84) (fun _ _ _ k => op_iast dX10_fateOf_138 e_h84 k) ?_
            refine Sx.o (fun _ _ _ k => ex_aload_n dX10_fateOf_139 rfl rfl k) ?_
            obtain ⟨x87, e_x87, hb88⟩ := ob2 hb85
            refine Sx.o (fun _ _ _ k => op_getR fX10_34 dX10_fateOf_140 e_x87 k) ?_
            refine Sx.o (fun _ _ _ k => ex_iload_n dX10_fateOf_143 rfl k) ?_
            obtain ⟨x89, e_x89, hb90⟩ := ob2 hb88
            refine Sx.o (fun _ _ _ k => op_iald dX10_fateOf_144 e_x89 k) ?_
            refine Sx.o (fun _ _ _ k => op_iconst (1 : Int32) dX10_fateOf_145 (by decide) k) ?_
            refine Sx.o (fun _ _ _ k => ex_isub dX10_fateOf_146 k) ?_
            refine Sx.o (L' := [.ref v0, .retAddr 0, .int v2, .int (x89 - (1 : Int32)), .int v4, .int v5, .int r46.1]) (fun _ _ _ k => ex_istore_n dX10_fateOf_147 (by decide) k) ?_
            refine Sx.o (L' := [.ref v0, .retAddr 0, .int v2, .int (x89 - (1 : Int32)), .int (v4 + (1 : Int32)), .int v5, .int r46.1]) (fun _ _ _ k => op_iinc (1 : Int32) dX10_fateOf_148 (by decide) rfl (by decide) k) ?_
            refine Sx.o (fun _ _ _ k => ex_goto 191 dX10_fateOf_151 (by decide) k) ?_
            refine Sx.fg [true, true, true, true, true, true, false] ?_
            exact (hg _ _ hb90).2.2.1 rfl
set_option maxHeartbeats 1000000 in
set_option maxRecDepth 100000 in
theorem Ways_fateOf_190_t {g : (Nat × Int32 × Int32 × Int32 × Int32 × Int32 × Int32 × Nat × Nat × am_H) → Option (Int32 × am_H)} (hg : ∀ s r, g s = some r → Ways_fateOf_54_P s r) {v0 : Nat} {v2 : Int32} {v3 : Int32} {v4 : Int32} {v5 : Int32} {s0 : Int32} {s1 : Int32} {s2 : Nat} {h : am_H} {r : (Int32 × am_H)} (hb : Ways_fateOf_190_b g v0 v2 v3 v4 v5 s0 s1 s2 h = some r) : Sx 4 mX10_fateOf 190 [.ref v0, .retAddr 0, .int v2, .int v3, .int v4, .int v5, .retAddr 0] [.int s0, .int s1, .ref s2] h (some (.int r.1)) r.2 := by
  unfold Ways_fateOf_190_b at hb
  obtain ⟨h91, e_h91, hb92⟩ := ob2 hb
  refine Sx.p (sI_q e_h91) (fun _ _ _ k => op_iast dX10_fateOf_190 e_h91 k) ?_
  exact (hg _ _ hb92).2.2.1 rfl
set_option maxHeartbeats 1000000 in
set_option maxRecDepth 100000 in
theorem Ways_fateOf_191_t {g : (Nat × Int32 × Int32 × Int32 × Int32 × Int32 × Int32 × Nat × Nat × am_H) → Option (Int32 × am_H)} (hg : ∀ s r, g s = some r → Ways_fateOf_54_P s r) {v0 : Nat} {v2 : Int32} {v3 : Int32} {v4 : Int32} {v5 : Int32} {h : am_H} {r : (Int32 × am_H)} (hb : Ways_fateOf_191_b g v0 v2 v3 v4 v5 h = some r) : Sx 4 mX10_fateOf 191 [.ref v0, .retAddr 0, .int v2, .int v3, .int v4, .int v5, .retAddr 0] [] h (some (.int r.1)) r.2 := by
  unfold Ways_fateOf_191_b at hb
  refine Sx.o (L' := [.ref v0, .retAddr 0, .int v2, .int v3, .int v4, .int (v5 + (1 : Int32)), .retAddr 0]) (fun _ _ _ k => op_iinc (1 : Int32) dX10_fateOf_191 (by decide) rfl (by decide) k) ?_
  refine Sx.o (fun _ _ _ k => ex_goto 54 dX10_fateOf_194 (by decide) k) ?_
  exact (hg _ _ hb).1 rfl
theorem Ways_fateOf_54_T : ∀ s r, fx Ways_fateOf_54_F Ways_fateOf_54_M s = some r → Ways_fateOf_54_P s r := fx_ind Ways_fateOf_54_M Ways_fateOf_54_P (fun g hg s r hb => by
  unfold Ways_fateOf_54_F at hb
  exact ⟨fun q => Ways_fateOf_54_t hg (ip q hb), fun q => Ways_fateOf_190_t hg (ip q (iq (by rw [q]; decide) hb)), fun q => Ways_fateOf_191_t hg (ip q (iq (by rw [q]; decide) (iq (by rw [q]; decide) hb))), trivial⟩)
set_option maxHeartbeats 1000000 in
set_option maxRecDepth 100000 in
theorem Ways_fateOf_54_r {g : (Nat × Int32 × Int32 × Int32 × Int32 × Int32 × Int32 × Nat × Nat × am_H) → Option (Int32 × am_H)} (hg : ∀ s r, g s = some r → Eqs s.2.2.2.2.2.2.2.2.2 r.2) {v0 : Nat} {v2 : Int32} {v3 : Int32} {v4 : Int32} {v5 : Int32} {h : am_H} {r : (Int32 × am_H)} (hb : Ways_fateOf_54_b g v0 v2 v3 v4 v5 h = some r) : Eqs h r.2 := by
  unfold Ways_fateOf_54_b at hb
  have w0 := Eqs.rf h
  obtain ⟨x22, e_x22, hb23⟩ := ob2 hb
  obtain ⟨x24, e_x24, hb25⟩ := ob2 hb23
  by_cases q : x24 < v5
  · have hb26 := ip q hb25
    exact w0.tr (Ways_fateOf_197_q hb26)
  · have hb27 := iq q hb25
    by_cases q : v3 < (0 : Int32)
    · have hb28 := ip q hb27
      exact w0.tr (Ways_fateOf_197_q hb28)
    · have hb29 := iq q hb27
      obtain ⟨x30, e_x30, hb31⟩ := ob2 hb29
      obtain ⟨x32, e_x32, hb33⟩ := ob2 hb31
      by_cases q : x32 ≤ v3
      · have hb34 := ip q hb33
        exact w0.tr (Ways_fateOf_197_q hb34)
      · have hb35 := iq q hb33
        obtain ⟨x36, e_x36, hb37⟩ := ob2 hb35
        obtain ⟨x38, e_x38, hb39⟩ := ob2 hb37
        by_cases q : x38 = (0 : Int32)
        · have hb41 := ip q hb39
          obtain ⟨x42, e_x42, hb43⟩ := ob2 hb41
          obtain ⟨x44, e_x44, hb45⟩ := ob2 hb43
          obtain ⟨r46, e_r46, hb47⟩ := ob2 hb45
          have w48 := w0.tr (Steps_look_q e_r46)
          by_cases q : r46.1 = (3 : Int32)
          · have hb50 := ip q hb47
            obtain ⟨x66, e_x66, hb67⟩ := ob2 hb50
            obtain ⟨x68, e_x68, hb69⟩ := ob2 hb67
            obtain ⟨h70, e_h70, hb71⟩ := ob2 hb69
            have w72 := w48.tr (Steps_make_q e_h70)
            obtain ⟨x73, e_x73, hb74⟩ := ob2 hb71
            obtain ⟨h75, e_h75, hb76⟩ := ob2 hb74
            have w77 := w72.tr (sI_q e_h75)
            obtain ⟨x78, e_x78, hb79⟩ := ob2 hb76
            obtain ⟨x80, e_x80, hb81⟩ := ob2 hb79
            obtain ⟨x82, e_x82, hb83⟩ := ob2 hb81
            obtain ⟨h84, e_h84, hb85⟩ := ob2 hb83
            have w86 := w77.tr (sI_q e_h84)
            obtain ⟨x87, e_x87, hb88⟩ := ob2 hb85
            obtain ⟨x89, e_x89, hb90⟩ := ob2 hb88
            exact w86.tr (hg _ _ hb90)
          · have hb49 := iq q hb47
            by_cases q : r46.1 = (1 : Int32)
            · have hb52 := ip q hb49
              obtain ⟨x61, e_x61, hb62⟩ := ob2 hb52
              obtain ⟨h63, e_h63, hb64⟩ := ob2 hb62
              have w65 := w48.tr (sI_q e_h63)
              exact w65.tr (hg _ _ hb64)
            · have hb51 := iq q hb49
              obtain ⟨x53, e_x53, hb54⟩ := ob2 hb51
              obtain ⟨x55, e_x55, hb56⟩ := ob2 hb54
              obtain ⟨x57, e_x57, hb58⟩ := ob2 hb56
              by_cases q : x57 = (0 : Int32)
              · have hb59 := ip q hb58
                exact w48.tr (hg _ _ hb59)
              · have hb60 := iq q hb58
                exact w48.tr (hg _ _ hb60)
        · have hb40 := iq q hb39
          exact w0.tr (Ways_fateOf_197_q hb40)
set_option maxHeartbeats 1000000 in
set_option maxRecDepth 100000 in
theorem Ways_fateOf_190_r {g : (Nat × Int32 × Int32 × Int32 × Int32 × Int32 × Int32 × Nat × Nat × am_H) → Option (Int32 × am_H)} (hg : ∀ s r, g s = some r → Eqs s.2.2.2.2.2.2.2.2.2 r.2) {v0 : Nat} {v2 : Int32} {v3 : Int32} {v4 : Int32} {v5 : Int32} {s0 : Int32} {s1 : Int32} {s2 : Nat} {h : am_H} {r : (Int32 × am_H)} (hb : Ways_fateOf_190_b g v0 v2 v3 v4 v5 s0 s1 s2 h = some r) : Eqs h r.2 := by
  unfold Ways_fateOf_190_b at hb
  have w0 := Eqs.rf h
  obtain ⟨h91, e_h91, hb92⟩ := ob2 hb
  have w93 := w0.tr (sI_q e_h91)
  exact w93.tr (hg _ _ hb92)
set_option maxHeartbeats 1000000 in
set_option maxRecDepth 100000 in
theorem Ways_fateOf_191_r {g : (Nat × Int32 × Int32 × Int32 × Int32 × Int32 × Int32 × Nat × Nat × am_H) → Option (Int32 × am_H)} (hg : ∀ s r, g s = some r → Eqs s.2.2.2.2.2.2.2.2.2 r.2) {v0 : Nat} {v2 : Int32} {v3 : Int32} {v4 : Int32} {v5 : Int32} {h : am_H} {r : (Int32 × am_H)} (hb : Ways_fateOf_191_b g v0 v2 v3 v4 v5 h = some r) : Eqs h r.2 := by
  unfold Ways_fateOf_191_b at hb
  have w0 := Eqs.rf h
  exact w0.tr (hg _ _ hb)
theorem Ways_fateOf_54_Q : ∀ s r, fx Ways_fateOf_54_F Ways_fateOf_54_M s = some r → Eqs s.2.2.2.2.2.2.2.2.2 r.2 := fx_ind Ways_fateOf_54_M (fun s r => Eqs s.2.2.2.2.2.2.2.2.2 r.2) (fun g hg s r hb => by
  unfold Ways_fateOf_54_F at hb
  by_cases q0 : s.1 = 54
  · exact Ways_fateOf_54_r hg (ip q0 hb)
  · have hb0 := iq q0 hb
    by_cases q1 : s.1 = 190
    · exact Ways_fateOf_190_r hg (ip q1 hb0)
    · have hb1 := iq q1 hb0
      by_cases q2 : s.1 = 191
      · exact Ways_fateOf_191_r hg (ip q2 hb1)
      · have hb2 := iq q2 hb1
        exact nomatch hb2)
noncomputable def Ways_fateOf_54 (v0 : Nat) (v2 : Int32) (v3 : Int32) (v4 : Int32) (v5 : Int32) (h : am_H) : Option (Int32 × am_H) := fx Ways_fateOf_54_F Ways_fateOf_54_M (54, v2, v3, v4, v5, 0, 0, v0, 0, h)
noncomputable def Ways_fateOf_190 (v0 : Nat) (v2 : Int32) (v3 : Int32) (v4 : Int32) (v5 : Int32) (s0 : Int32) (s1 : Int32) (s2 : Nat) (h : am_H) : Option (Int32 × am_H) := fx Ways_fateOf_54_F Ways_fateOf_54_M (190, v2, v3, v4, v5, s0, s1, v0, s2, h)
noncomputable def Ways_fateOf_191 (v0 : Nat) (v2 : Int32) (v3 : Int32) (v4 : Int32) (v5 : Int32) (h : am_H) : Option (Int32 × am_H) := fx Ways_fateOf_54_F Ways_fateOf_54_M (191, v2, v3, v4, v5, 0, 0, v0, 0, h)
set_option maxHeartbeats 1000000 in
set_option maxRecDepth 100000 in
theorem Ways_fateOf_54_e (v0 : Nat) (v2 : Int32) (v3 : Int32) (v4 : Int32) (v5 : Int32) (h : am_H) : Ways_fateOf_54 v0 v2 v3 v4 v5 h = ((gR h 10 v0 17).bind fun x22 => (aL h x22).bind fun x24 => if x24 < v5 then Ways_fateOf_197 v0 v2 v3 v4 h else if v3 < (0 : Int32) then Ways_fateOf_197 v0 v2 v3 v4 h else (gR h 10 v0 17).bind fun x30 => (aL h x30).bind fun x32 => if x32 ≤ v3 then Ways_fateOf_197 v0 v2 v3 v4 h else (gR h 10 v0 17).bind fun x36 => (aI h 0 x36 v3).bind fun x38 => if x38 = (0 : Int32) then (gR h 10 v0 7).bind fun x42 => (gR h 10 v0 10).bind fun x44 => (Steps_look x42 x44 h).bind fun r46 => if r46.1 = (3 : Int32) then (gR r46.2 10 v0 7).bind fun x66 => (gR r46.2 10 v0 10).bind fun x68 => (Steps_make x66 x68 r46.2).bind fun h70 => (gR h70 10 v0 17).bind fun x73 => (sI h70 x73 v3 (-1 : Int32)).bind fun h75 => (gR h75 10 v0 16).bind fun x78 => (gR h75 10 v0 10).bind fun x80 => (Ways_timeOf v0 x80 h75).bind fun x82 => (sI h75 x78 v3 (x82 + (1 : Int32))).bind fun h84 => (gR h84 10 v0 16).bind fun x87 => (aI h84 0 x87 v3).bind fun x89 => Ways_fateOf_191 v0 v2 (x89 - (1 : Int32)) (v4 + (1 : Int32)) v5 h84 else if r46.1 = (1 : Int32) then (gR r46.2 10 v0 17).bind fun x61 => (sI r46.2 x61 v3 (3 : Int32)).bind fun h63 => Ways_fateOf_191 v0 v2 v3 v4 v5 h63 else (gR r46.2 10 v0 17).bind fun x53 => (gR r46.2 10 v0 10).bind fun x55 => (Row_rises x55 r46.2).bind fun x57 => if x57 = (0 : Int32) then Ways_fateOf_190 v0 v2 v3 v4 v5 (1 : Int32) v3 x53 r46.2 else Ways_fateOf_190 v0 v2 v3 v4 v5 (2 : Int32) v3 x53 r46.2 else Ways_fateOf_197 v0 v2 v3 v4 h) := (fx_eq Ways_fateOf_54_M (54, v2, v3, v4, v5, 0, 0, v0, 0, h)).trans (if_pos rfl)
theorem Ways_fateOf_54_q {v0 : Nat} {v2 : Int32} {v3 : Int32} {v4 : Int32} {v5 : Int32} {h : am_H} {r : (Int32 × am_H)} (hb : Ways_fateOf_54 v0 v2 v3 v4 v5 h = some r) : Eqs h r.2 := Ways_fateOf_54_Q _ _ hb
theorem Ways_fateOf_54_s {v0 : Nat} {v2 : Int32} {v3 : Int32} {v4 : Int32} {v5 : Int32} {h : am_H} {r : (Int32 × am_H)} (hb : Ways_fateOf_54 v0 v2 v3 v4 v5 h = some r) : Sx 4 mX10_fateOf 54 [.ref v0, .retAddr 0, .int v2, .int v3, .int v4, .int v5, .retAddr 0] [] h (some (.int r.1)) r.2 := (Ways_fateOf_54_T _ _ hb).1 rfl
set_option maxHeartbeats 1000000 in
set_option maxRecDepth 100000 in
theorem Ways_fateOf_190_e (v0 : Nat) (v2 : Int32) (v3 : Int32) (v4 : Int32) (v5 : Int32) (s0 : Int32) (s1 : Int32) (s2 : Nat) (h : am_H) : Ways_fateOf_190 v0 v2 v3 v4 v5 s0 s1 s2 h = ((sI h s2 s1 s0).bind fun h91 => Ways_fateOf_191 v0 v2 v3 v4 v5 h91) := (fx_eq Ways_fateOf_54_M (190, v2, v3, v4, v5, s0, s1, v0, s2, h)).trans ((if_neg (show ¬ (190 : Nat) = 54 by decide)).trans (if_pos rfl))
theorem Ways_fateOf_190_q {v0 : Nat} {v2 : Int32} {v3 : Int32} {v4 : Int32} {v5 : Int32} {s0 : Int32} {s1 : Int32} {s2 : Nat} {h : am_H} {r : (Int32 × am_H)} (hb : Ways_fateOf_190 v0 v2 v3 v4 v5 s0 s1 s2 h = some r) : Eqs h r.2 := Ways_fateOf_54_Q _ _ hb
theorem Ways_fateOf_190_s {v0 : Nat} {v2 : Int32} {v3 : Int32} {v4 : Int32} {v5 : Int32} {s0 : Int32} {s1 : Int32} {s2 : Nat} {h : am_H} {r : (Int32 × am_H)} (hb : Ways_fateOf_190 v0 v2 v3 v4 v5 s0 s1 s2 h = some r) : Sx 4 mX10_fateOf 190 [.ref v0, .retAddr 0, .int v2, .int v3, .int v4, .int v5, .retAddr 0] [.int s0, .int s1, .ref s2] h (some (.int r.1)) r.2 := (Ways_fateOf_54_T _ _ hb).2.1 rfl
set_option maxHeartbeats 1000000 in
set_option maxRecDepth 100000 in
theorem Ways_fateOf_191_e (v0 : Nat) (v2 : Int32) (v3 : Int32) (v4 : Int32) (v5 : Int32) (h : am_H) : Ways_fateOf_191 v0 v2 v3 v4 v5 h = (Ways_fateOf_54 v0 v2 v3 v4 (v5 + (1 : Int32)) h) := (fx_eq Ways_fateOf_54_M (191, v2, v3, v4, v5, 0, 0, v0, 0, h)).trans ((if_neg (show ¬ (191 : Nat) = 54 by decide)).trans ((if_neg (show ¬ (191 : Nat) = 190 by decide)).trans (if_pos rfl)))
theorem Ways_fateOf_191_q {v0 : Nat} {v2 : Int32} {v3 : Int32} {v4 : Int32} {v5 : Int32} {h : am_H} {r : (Int32 × am_H)} (hb : Ways_fateOf_191 v0 v2 v3 v4 v5 h = some r) : Eqs h r.2 := Ways_fateOf_54_Q _ _ hb
theorem Ways_fateOf_191_s {v0 : Nat} {v2 : Int32} {v3 : Int32} {v4 : Int32} {v5 : Int32} {h : am_H} {r : (Int32 × am_H)} (hb : Ways_fateOf_191 v0 v2 v3 v4 v5 h = some r) : Sx 4 mX10_fateOf 191 [.ref v0, .retAddr 0, .int v2, .int v3, .int v4, .int v5, .retAddr 0] [] h (some (.int r.1)) r.2 := (Ways_fateOf_54_T _ _ hb).2.2.1 rfl
set_option maxHeartbeats 1000000 in
set_option maxRecDepth 100000 in
noncomputable def Ways_fateOf (v0 : Nat) (v1 : Nat) (h : am_H) : Option (Int32 × am_H) := if isO h 10 v0 = true then (Ways_timeOf v0 v1 h).bind fun x94 => if x94 < (0 : Int32) then some ((-2 : Int32), h) else (gR h 10 v0 17).bind fun x98 => (aL h x98).bind fun x100 => if x94 < x100 then (gR h 10 v0 17).bind fun x104 => (aI h 0 x104 x94).bind fun x106 => if x106 = (0 : Int32) then (gR h 10 v0 10).bind fun x110 => (Row_copy x110 v1 h).bind fun h112 => Ways_fateOf_54 v0 x94 x94 (0 : Int32) (0 : Int32) h112 else (gR h 10 v0 17).bind fun x115 => (aI h 0 x115 x94).bind fun x117 => some (x117, h) else some ((-2 : Int32), h) else none
set_option maxHeartbeats 1000000 in
set_option maxRecDepth 100000 in
theorem Ways_fateOf_s {v0 : Nat} {v1 : Nat} {h : am_H} {r : (Int32 × am_H)} (hb : Ways_fateOf v0 v1 h = some r) : Sx 4 mX10_fateOf 0 (am_en [.ref v0, .ref v1] 7) [] h (some (.int r.1)) r.2 := by
  unfold Ways_fateOf at hb
  have hb := (iz hb).2
  show Sx 4 mX10_fateOf 0 [.ref v0, .ref v1, .retAddr 0, .retAddr 0, .retAddr 0, .retAddr 0, .retAddr 0] [] h (some (.int r.1)) r.2
  refine Sx.o (fun _ _ _ k => ex_aload_n dX10_fateOf_0 rfl rfl k) ?_
  refine Sx.o (fun _ _ _ k => ex_aload_n dX10_fateOf_1 rfl rfl k) ?_
  obtain ⟨x94, e_x94, hb95⟩ := ob2 hb
  refine sx_callV (dc := 1) (as := [.ref v1]) (stq := [.int x94]) (by omega) dX10_fateOf_2 MX10_timeOf kX10_141 iX10_timeOf sX10_timeOf rfl rfl (Ways_timeOf_o e_x94) rfl rfl (Nat.le_of_ble_eq_true rfl) (Nat.le_of_ble_eq_true rfl) (Ways_timeOf_s e_x94) rfl ?_
  refine Sx.o (L' := [.ref v0, .ref v1, .int x94, .retAddr 0, .retAddr 0, .retAddr 0, .retAddr 0]) (fun _ _ _ k => ex_istore_n dX10_fateOf_5 (by decide) k) ?_
  refine Sx.o (fun _ _ _ k => ex_iload_n dX10_fateOf_6 rfl k) ?_
  refine Sx.b (fun _ _ _ k1 k2 => ex_if_lt 19 dX10_fateOf_7 (by decide) k1 k2) (fun q => ?_) (fun q => ?_)
  · have hb96 := ip q hb95
    refine Sx.o (fun _ _ _ k => op_bipush (-2 : Int32) dX10_fateOf_19 (by decide) k) ?_
    obtain rfl := Option.some.inj hb96
    exact Sx.r (fun _ _ _ k => ex_iret rfl dX10_fateOf_21 k)
  · have hb97 := iq q hb95
    refine Sx.o (fun _ _ _ k => ex_iload_n dX10_fateOf_10 rfl k) ?_
    refine Sx.o (fun _ _ _ k => ex_aload_n dX10_fateOf_11 rfl rfl k) ?_
    obtain ⟨x98, e_x98, hb99⟩ := ob2 hb97
    refine Sx.o (fun _ _ _ k => op_getR fX10_37 dX10_fateOf_12 e_x98 k) ?_
    obtain ⟨x100, e_x100, hb101⟩ := ob2 hb99
    refine Sx.o (fun _ _ _ k => op_alen dX10_fateOf_15 e_x100 k) ?_
    refine Sx.b (fun _ _ _ k1 k2 => ex_icmp_lt 22 dX10_fateOf_16 (by decide) k1 k2) (fun q => ?_) (fun q => ?_)
    · have hb102 := ip q hb101
      refine Sx.o (fun _ _ _ k => ex_aload_n dX10_fateOf_22 rfl rfl k) ?_
      obtain ⟨x104, e_x104, hb105⟩ := ob2 hb102
      refine Sx.o (fun _ _ _ k => op_getR fX10_37 dX10_fateOf_23 e_x104 k) ?_
      refine Sx.o (fun _ _ _ k => ex_iload_n dX10_fateOf_26 rfl k) ?_
      obtain ⟨x106, e_x106, hb107⟩ := ob2 hb105
      refine Sx.o (fun _ _ _ k => op_iald dX10_fateOf_27 e_x106 k) ?_
      refine Sx.b (fun _ _ _ k1 k2 => ex_if_eq 38 dX10_fateOf_28 (by decide) k1 k2) (fun q => ?_) (fun q => ?_)
      · have hb108 := ip q hb107
        refine Sx.o (fun _ _ _ k => ex_aload_n dX10_fateOf_38 rfl rfl k) ?_
        obtain ⟨x110, e_x110, hb111⟩ := ob2 hb108
        refine Sx.o (fun _ _ _ k => op_getR fX10_25 dX10_fateOf_39 e_x110 k) ?_
        refine Sx.o (fun _ _ _ k => ex_aload_n dX10_fateOf_42 rfl rfl k) ?_
        obtain ⟨h112, e_h112, hb113⟩ := ob2 hb111
        refine sx_callV (dc := 1) (as := [.ref v1]) (stq := []) (by omega) dX10_fateOf_43 MX4_copy kX10_48 iX4_copy sX4_copy rfl rfl (Row_copy_o e_h112) rfl rfl (Nat.le_of_ble_eq_true rfl) (Nat.le_of_ble_eq_true rfl) (Row_copy_s e_h112) rfl ?_
        refine Sx.o (fun _ _ _ k => ex_iload_n dX10_fateOf_46 rfl k) ?_
        refine Sx.o (L' := [.ref v0, .ref v1, .int x94, .int x94, .retAddr 0, .retAddr 0, .retAddr 0]) (fun _ _ _ k => ex_istore_n dX10_fateOf_47 (by decide) k) ?_
        refine Sx.o (fun _ _ _ k => op_iconst (0 : Int32) dX10_fateOf_48 (by decide) k) ?_
        refine Sx.o (L' := [.ref v0, .ref v1, .int x94, .int x94, .int (0 : Int32), .retAddr 0, .retAddr 0]) (fun _ _ _ k => ex_istore dX10_fateOf_49 (by decide) k) ?_
        refine Sx.o (fun _ _ _ k => op_iconst (0 : Int32) dX10_fateOf_51 (by decide) k) ?_
        refine Sx.o (L' := [.ref v0, .ref v1, .int x94, .int x94, .int (0 : Int32), .int (0 : Int32), .retAddr 0]) (fun _ _ _ k => ex_istore dX10_fateOf_52 (by decide) k) ?_
        refine Sx.fg [true, false, true, true, true, true, true] ?_
        exact Ways_fateOf_54_s hb113
      · have hb109 := iq q hb107
        refine Sx.o (fun _ _ _ k => ex_aload_n dX10_fateOf_31 rfl rfl k) ?_
        obtain ⟨x115, e_x115, hb116⟩ := ob2 hb109
        refine Sx.o (fun _ _ _ k => op_getR fX10_37 dX10_fateOf_32 e_x115 k) ?_
        refine Sx.o (fun _ _ _ k => ex_iload_n dX10_fateOf_35 rfl k) ?_
        obtain ⟨x117, e_x117, hb118⟩ := ob2 hb116
        refine Sx.o (fun _ _ _ k => op_iald dX10_fateOf_36 e_x117 k) ?_
        obtain rfl := Option.some.inj hb118
        exact Sx.r (fun _ _ _ k => ex_iret rfl dX10_fateOf_37 k)
    · have hb103 := iq q hb101
      refine Sx.o (fun _ _ _ k => op_bipush (-2 : Int32) dX10_fateOf_19 (by decide) k) ?_
      obtain rfl := Option.some.inj hb103
      exact Sx.r (fun _ _ _ k => ex_iret rfl dX10_fateOf_21 k)
set_option maxHeartbeats 1000000 in
set_option maxRecDepth 100000 in
theorem Ways_fateOf_q {v0 : Nat} {v1 : Nat} {h : am_H} {r : (Int32 × am_H)} (hb : Ways_fateOf v0 v1 h = some r) : Eqs h r.2 := by
  unfold Ways_fateOf at hb
  have hb := (iz hb).2
  have w0 := Eqs.rf h
  obtain ⟨x94, e_x94, hb95⟩ := ob2 hb
  by_cases q : x94 < (0 : Int32)
  · have hb96 := ip q hb95
    obtain rfl := Option.some.inj hb96
    exact w0
  · have hb97 := iq q hb95
    obtain ⟨x98, e_x98, hb99⟩ := ob2 hb97
    obtain ⟨x100, e_x100, hb101⟩ := ob2 hb99
    by_cases q : x94 < x100
    · have hb102 := ip q hb101
      obtain ⟨x104, e_x104, hb105⟩ := ob2 hb102
      obtain ⟨x106, e_x106, hb107⟩ := ob2 hb105
      by_cases q : x106 = (0 : Int32)
      · have hb108 := ip q hb107
        obtain ⟨x110, e_x110, hb111⟩ := ob2 hb108
        obtain ⟨h112, e_h112, hb113⟩ := ob2 hb111
        have w114 := w0.tr (Row_copy_q e_h112)
        exact w114.tr (Ways_fateOf_54_q hb113)
      · have hb109 := iq q hb107
        obtain ⟨x115, e_x115, hb116⟩ := ob2 hb109
        obtain ⟨x117, e_x117, hb118⟩ := ob2 hb116
        obtain rfl := Option.some.inj hb118
        exact w0
    · have hb103 := iq q hb101
      obtain rfl := Option.some.inj hb103
      exact w0
theorem Ways_fateOf_o {v0 : Nat} {v1 : Nat} {h : am_H} {r : (Int32 × am_H)} (hb : Ways_fateOf v0 v1 h = some r) : isO h 10 v0 = true := by
  unfold Ways_fateOf at hb
  exact (iz hb).1
set_option maxHeartbeats 1000000 in
set_option maxRecDepth 100000 in
noncomputable def Ways_follow_93 (v0 : Nat) (v1 : Int32) (h : am_H) : Option (Int32 × am_H) := (gR h 10 v0 16).bind fun x1 => (aI h 0 x1 v1).bind fun x3 => if x3 ≤ (0 : Int32) then (gR h 10 v0 16).bind fun x7 => (aI h 0 x7 v1).bind fun x9 => some (x9, h) else (gR h 10 v0 16).bind fun x11 => (aI h 0 x11 v1).bind fun x13 => some (x13 - (1 : Int32), h)
set_option maxHeartbeats 1000000 in
set_option maxRecDepth 100000 in
theorem Ways_follow_93_s {v0 : Nat} {v1 : Int32} {h : am_H} {r : (Int32 × am_H)} (hb : Ways_follow_93 v0 v1 h = some r) : Sx 4 mX10_follow 93 [.ref v0, .int v1, .retAddr 0] [] h (some (.int r.1)) r.2 := by
  unfold Ways_follow_93 at hb
  refine Sx.o (fun _ _ _ k => ex_aload_n dX10_follow_93 rfl rfl k) ?_
  obtain ⟨x1, e_x1, hb2⟩ := ob2 hb
  refine Sx.o (fun _ _ _ k => op_getR fX10_34 dX10_follow_94 e_x1 k) ?_
  refine Sx.o (fun _ _ _ k => ex_iload_n dX10_follow_97 rfl k) ?_
  obtain ⟨x3, e_x3, hb4⟩ := ob2 hb2
  refine Sx.o (fun _ _ _ k => op_iald dX10_follow_98 e_x3 k) ?_
  refine Sx.b (fun _ _ _ k1 k2 => ex_if_le 113 dX10_follow_99 (by decide) k1 k2) (fun q => ?_) (fun q => ?_)
  · have hb5 := ip q hb4
    refine Sx.o (fun _ _ _ k => ex_aload_n dX10_follow_113 rfl rfl k) ?_
    obtain ⟨x7, e_x7, hb8⟩ := ob2 hb5
    refine Sx.o (fun _ _ _ k => op_getR fX10_34 dX10_follow_114 e_x7 k) ?_
    refine Sx.o (fun _ _ _ k => ex_iload_n dX10_follow_117 rfl k) ?_
    obtain ⟨x9, e_x9, hb10⟩ := ob2 hb8
    refine Sx.o (fun _ _ _ k => op_iald dX10_follow_118 e_x9 k) ?_
    obtain rfl := Option.some.inj hb10
    exact Sx.r (fun _ _ _ k => ex_iret rfl dX10_follow_119 k)
  · have hb6 := iq q hb4
    refine Sx.o (fun _ _ _ k => ex_aload_n dX10_follow_102 rfl rfl k) ?_
    obtain ⟨x11, e_x11, hb12⟩ := ob2 hb6
    refine Sx.o (fun _ _ _ k => op_getR fX10_34 dX10_follow_103 e_x11 k) ?_
    refine Sx.o (fun _ _ _ k => ex_iload_n dX10_follow_106 rfl k) ?_
    obtain ⟨x13, e_x13, hb14⟩ := ob2 hb12
    refine Sx.o (fun _ _ _ k => op_iald dX10_follow_107 e_x13 k) ?_
    refine Sx.o (fun _ _ _ k => op_iconst (1 : Int32) dX10_follow_108 (by decide) k) ?_
    refine Sx.o (fun _ _ _ k => ex_isub dX10_follow_109 k) ?_
    refine Sx.o (fun _ _ _ k => ex_goto 119 dX10_follow_110 (by decide) k) ?_
    obtain rfl := Option.some.inj hb14
    exact Sx.r (fun _ _ _ k => ex_iret rfl dX10_follow_119 k)
set_option maxHeartbeats 1000000 in
set_option maxRecDepth 100000 in
theorem Ways_follow_93_q {v0 : Nat} {v1 : Int32} {h : am_H} {r : (Int32 × am_H)} (hb : Ways_follow_93 v0 v1 h = some r) : Eqs h r.2 := by
  unfold Ways_follow_93 at hb
  have w0 := Eqs.rf h
  obtain ⟨x1, e_x1, hb2⟩ := ob2 hb
  obtain ⟨x3, e_x3, hb4⟩ := ob2 hb2
  by_cases q : x3 ≤ (0 : Int32)
  · have hb5 := ip q hb4
    obtain ⟨x7, e_x7, hb8⟩ := ob2 hb5
    obtain ⟨x9, e_x9, hb10⟩ := ob2 hb8
    obtain rfl := Option.some.inj hb10
    exact w0
  · have hb6 := iq q hb4
    obtain ⟨x11, e_x11, hb12⟩ := ob2 hb6
    obtain ⟨x13, e_x13, hb14⟩ := ob2 hb12
    obtain rfl := Option.some.inj hb14
    exact w0
set_option maxHeartbeats 1000000 in
set_option maxRecDepth 100000 in
noncomputable def Ways_follow_92 (v0 : Nat) (v1 : Int32) (s0 : Int32) (s1 : Int32) (s2 : Nat) (h : am_H) : Option (Int32 × am_H) := (sI h s2 s1 s0).bind fun h15 => Ways_follow_93 v0 v1 h15
set_option maxHeartbeats 1000000 in
set_option maxRecDepth 100000 in
theorem Ways_follow_92_s {v0 : Nat} {v1 : Int32} {s0 : Int32} {s1 : Int32} {s2 : Nat} {h : am_H} {r : (Int32 × am_H)} (hb : Ways_follow_92 v0 v1 s0 s1 s2 h = some r) : Sx 4 mX10_follow 92 [.ref v0, .int v1, .retAddr 0] [.int s0, .int s1, .ref s2] h (some (.int r.1)) r.2 := by
  unfold Ways_follow_92 at hb
  obtain ⟨h15, e_h15, hb16⟩ := ob2 hb
  refine Sx.p (sI_q e_h15) (fun _ _ _ k => op_iast dX10_follow_92 e_h15 k) ?_
  exact Ways_follow_93_s hb16
set_option maxHeartbeats 1000000 in
set_option maxRecDepth 100000 in
theorem Ways_follow_92_q {v0 : Nat} {v1 : Int32} {s0 : Int32} {s1 : Int32} {s2 : Nat} {h : am_H} {r : (Int32 × am_H)} (hb : Ways_follow_92 v0 v1 s0 s1 s2 h = some r) : Eqs h r.2 := by
  unfold Ways_follow_92 at hb
  have w0 := Eqs.rf h
  obtain ⟨h15, e_h15, hb16⟩ := ob2 hb
  have w17 := w0.tr (sI_q e_h15)
  exact w17.tr (Ways_follow_93_q hb16)
set_option maxHeartbeats 1000000 in
set_option maxRecDepth 100000 in
noncomputable def Ways_follow (v0 : Nat) (v1 : Int32) (h : am_H) : Option (Int32 × am_H) := if isO h 10 v0 = true then if v1 < (0 : Int32) then some ((-2 : Int32), h) else (gR h 10 v0 16).bind fun x20 => (aL h x20).bind fun x22 => if v1 < x22 then (gR h 10 v0 16).bind fun x26 => (aI h 0 x26 v1).bind fun x28 => if x28 = (0 : Int32) then (Ways_layOut v0 v1 h).bind fun h32 => (gR h32 10 v0 7).bind fun x35 => (gR h32 10 v0 10).bind fun x37 => (Steps_look x35 x37 h32).bind fun r39 => if r39.1 = (3 : Int32) then (gR r39.2 10 v0 7).bind fun x48 => (gR r39.2 10 v0 10).bind fun x50 => (Steps_make x48 x50 r39.2).bind fun h52 => (gR h52 10 v0 16).bind fun x55 => (gR h52 10 v0 10).bind fun x57 => (Ways_timeOf v0 x57 h52).bind fun x59 => (sI h52 x55 v1 (x59 + (1 : Int32))).bind fun h61 => Ways_follow_93 v0 v1 h61 else (gR r39.2 10 v0 16).bind fun x44 => if r39.1 = (0 : Int32) then Ways_follow_92 v0 v1 (-1 : Int32) v1 x44 r39.2 else Ways_follow_92 v0 v1 (-2 : Int32) v1 x44 r39.2 else Ways_follow_93 v0 v1 h else some ((-2 : Int32), h) else none
set_option maxHeartbeats 1000000 in
set_option maxRecDepth 100000 in
theorem Ways_follow_s {v0 : Nat} {v1 : Int32} {h : am_H} {r : (Int32 × am_H)} (hb : Ways_follow v0 v1 h = some r) : Sx 4 mX10_follow 0 (am_en [.ref v0, .int v1] 3) [] h (some (.int r.1)) r.2 := by
  unfold Ways_follow at hb
  have hb := (iz hb).2
  show Sx 4 mX10_follow 0 [.ref v0, .int v1, .retAddr 0] [] h (some (.int r.1)) r.2
  refine Sx.o (fun _ _ _ k => ex_iload_n dX10_follow_0 rfl k) ?_
  refine Sx.b (fun _ _ _ k1 k2 => ex_if_lt 13 dX10_follow_1 (by decide) k1 k2) (fun q => ?_) (fun q => ?_)
  · have hb18 := ip q hb
    refine Sx.o (fun _ _ _ k => op_bipush (-2 : Int32) dX10_follow_13 (by decide) k) ?_
    obtain rfl := Option.some.inj hb18
    exact Sx.r (fun _ _ _ k => ex_iret rfl dX10_follow_15 k)
  · have hb19 := iq q hb
    refine Sx.o (fun _ _ _ k => ex_iload_n dX10_follow_4 rfl k) ?_
    refine Sx.o (fun _ _ _ k => ex_aload_n dX10_follow_5 rfl rfl k) ?_
    obtain ⟨x20, e_x20, hb21⟩ := ob2 hb19
    refine Sx.o (fun _ _ _ k => op_getR fX10_34 dX10_follow_6 e_x20 k) ?_
    obtain ⟨x22, e_x22, hb23⟩ := ob2 hb21
    refine Sx.o (fun _ _ _ k => op_alen dX10_follow_9 e_x22 k) ?_
    refine Sx.b (fun _ _ _ k1 k2 => ex_icmp_lt 16 dX10_follow_10 (by decide) k1 k2) (fun q => ?_) (fun q => ?_)
    · have hb24 := ip q hb23
      refine Sx.o (fun _ _ _ k => ex_aload_n dX10_follow_16 rfl rfl k) ?_
      obtain ⟨x26, e_x26, hb27⟩ := ob2 hb24
      refine Sx.o (fun _ _ _ k => op_getR fX10_34 dX10_follow_17 e_x26 k) ?_
      refine Sx.o (fun _ _ _ k => ex_iload_n dX10_follow_20 rfl k) ?_
      obtain ⟨x28, e_x28, hb29⟩ := ob2 hb27
      refine Sx.o (fun _ _ _ k => op_iald dX10_follow_21 e_x28 k) ?_
      refine Sx.bn (fun _ _ _ k1 k2 => ex_if_ne 93 dX10_follow_22 (by decide) k1 k2) (fun q => ?_) (fun q => ?_)
      · have hb30 := iq q hb29
        exact Ways_follow_93_s hb30
      · have hb31 := ip q hb29
        refine Sx.o (fun _ _ _ k => ex_aload_n dX10_follow_25 rfl rfl k) ?_
        refine Sx.o (fun _ _ _ k => ex_iload_n dX10_follow_26 rfl k) ?_
        obtain ⟨h32, e_h32, hb33⟩ := ob2 hb31
        refine sx_callV (dc := 2) (as := [.int v1]) (stq := []) (by omega) dX10_follow_27 MX10_layOut kX10_129 iX10_layOut sX10_layOut rfl rfl (Ways_layOut_o e_h32) rfl rfl (Nat.le_of_ble_eq_true rfl) (Nat.le_of_ble_eq_true rfl) (Ways_layOut_s e_h32) rfl ?_
        refine Sx.o (fun _ _ _ k => ex_aload_n dX10_follow_30 rfl rfl k) ?_
        obtain ⟨x35, e_x35, hb36⟩ := ob2 hb33
        refine Sx.o (fun _ _ _ k => op_getR fX10_44 dX10_follow_31 e_x35 k) ?_
        refine Sx.o (fun _ _ _ k => ex_aload_n dX10_follow_34 rfl rfl k) ?_
        obtain ⟨x37, e_x37, hb38⟩ := ob2 hb36
        refine Sx.o (fun _ _ _ k => op_getR fX10_25 dX10_follow_35 e_x37 k) ?_
        obtain ⟨r39, e_r39, hb40⟩ := ob2 hb38
        refine sx_callV (dc := 3) (as := [.ref x37]) (stq := [.int r39.1]) (by omega) dX10_follow_38 MX6_look kX10_132 iX6_look sX6_look rfl rfl (Steps_look_o e_r39) rfl rfl (Nat.le_of_ble_eq_true rfl) (Nat.le_of_ble_eq_true rfl) (Steps_look_s e_r39) rfl ?_
        refine Sx.o (L' := [.ref v0, .int v1, .int r39.1]) (fun _ _ _ k => ex_istore_n dX10_follow_41 (by decide) k) ?_
        refine Sx.o (fun _ _ _ k => ex_iload_n dX10_follow_42 rfl k) ?_
        refine Sx.o (fun _ _ _ k => op_iconst (3 : Int32) dX10_follow_43 (by decide) k) ?_
        refine Sx.bn (fun _ _ _ k1 k2 => ex_icmp_ne 77 dX10_follow_44 (by decide) k1 k2) (fun q => ?_) (fun q => ?_)
        · have hb42 := iq q hb40
          refine Sx.o (fun _ _ _ k => ex_aload_n dX10_follow_77 rfl rfl k) ?_
          obtain ⟨x44, e_x44, hb45⟩ := ob2 hb42
          refine Sx.o (fun _ _ _ k => op_getR fX10_34 dX10_follow_78 e_x44 k) ?_
          refine Sx.o (fun _ _ _ k => ex_iload_n dX10_follow_81 rfl k) ?_
          refine Sx.o (fun _ _ _ k => ex_iload_n dX10_follow_82 rfl k) ?_
          refine Sx.bn (fun _ _ _ k1 k2 => ex_if_ne 90 dX10_follow_83 (by decide) k1 k2) (fun q => ?_) (fun q => ?_)
          · have hb46 := iq q hb45
            refine Sx.o (fun _ _ _ k => op_bipush (-2 : Int32) dX10_follow_90 (by decide) k) ?_
            refine Sx.fg [true, true, false] ?_
            exact Ways_follow_92_s hb46
          · have hb47 := ip q hb45
            refine Sx.o (fun _ _ _ k => op_iconst (-1 : Int32) dX10_follow_86 (by decide) k) ?_
            refine Sx.o (fun _ _ _ k => ex_goto 92 dX10_follow_87 (by decide) k) ?_
            refine Sx.fg [true, true, false] ?_
            exact Ways_follow_92_s hb47
        · have hb43 := ip q hb40
          refine Sx.o (fun _ _ _ k => ex_aload_n dX10_follow_47 rfl rfl k) ?_
          obtain ⟨x48, e_x48, hb49⟩ := ob2 hb43
          refine Sx.o (fun _ _ _ k => op_getR fX10_44 dX10_follow_48 e_x48 k) ?_
          refine Sx.o (fun _ _ _ k => ex_aload_n dX10_follow_51 rfl rfl k) ?_
          obtain ⟨x50, e_x50, hb51⟩ := ob2 hb49
          refine Sx.o (fun _ _ _ k => op_getR fX10_25 dX10_follow_52 e_x50 k) ?_
          obtain ⟨h52, e_h52, hb53⟩ := ob2 hb51
          refine sx_callV (dc := 3) (as := [.ref x50]) (stq := []) (by omega) dX10_follow_55 MX6_make kX10_138 iX6_make sX6_make rfl rfl (Steps_make_o e_h52) rfl rfl (Nat.le_of_ble_eq_true rfl) (Nat.le_of_ble_eq_true rfl) (Steps_make_s e_h52) rfl ?_
          refine Sx.o (fun _ _ _ k => ex_aload_n dX10_follow_58 rfl rfl k) ?_
          obtain ⟨x55, e_x55, hb56⟩ := ob2 hb53
          refine Sx.o (fun _ _ _ k => op_getR fX10_34 dX10_follow_59 e_x55 k) ?_
          refine Sx.o (fun _ _ _ k => ex_iload_n dX10_follow_62 rfl k) ?_
          refine Sx.o (fun _ _ _ k => ex_aload_n dX10_follow_63 rfl rfl k) ?_
          refine Sx.o (fun _ _ _ k => ex_aload_n dX10_follow_64 rfl rfl k) ?_
          obtain ⟨x57, e_x57, hb58⟩ := ob2 hb56
          refine Sx.o (fun _ _ _ k => op_getR fX10_25 dX10_follow_65 e_x57 k) ?_
          obtain ⟨x59, e_x59, hb60⟩ := ob2 hb58
          refine sx_callV (dc := 1) (as := [.ref x57]) (stq := [.int x59, .int v1, .ref x55]) (by omega) dX10_follow_68 MX10_timeOf kX10_141 iX10_timeOf sX10_timeOf rfl rfl (Ways_timeOf_o e_x59) rfl rfl (Nat.le_of_ble_eq_true rfl) (Nat.le_of_ble_eq_true rfl) (Ways_timeOf_s e_x59) rfl ?_
          refine Sx.o (fun _ _ _ k => op_iconst (1 : Int32) dX10_follow_71 (by decide) k) ?_
          refine Sx.o (fun _ _ _ k => ex_iadd dX10_follow_72 k) ?_
          obtain ⟨h61, e_h61, hb62⟩ := ob2 hb60
          refine Sx.p (sI_q e_h61) (fun _ _ _ k => op_iast dX10_follow_73 e_h61 k) ?_
          refine Sx.o (fun _ _ _ k => ex_goto 93 dX10_follow_74 (by decide) k) ?_
          refine Sx.fg [true, true, false] ?_
          exact Ways_follow_93_s hb62
    · have hb25 := iq q hb23
      refine Sx.o (fun _ _ _ k => op_bipush (-2 : Int32) dX10_follow_13 (by decide) k) ?_
      obtain rfl := Option.some.inj hb25
      exact Sx.r (fun _ _ _ k => ex_iret rfl dX10_follow_15 k)
set_option maxHeartbeats 1000000 in
set_option maxRecDepth 100000 in
theorem Ways_follow_q {v0 : Nat} {v1 : Int32} {h : am_H} {r : (Int32 × am_H)} (hb : Ways_follow v0 v1 h = some r) : Eqs h r.2 := by
  unfold Ways_follow at hb
  have hb := (iz hb).2
  have w0 := Eqs.rf h
  by_cases q : v1 < (0 : Int32)
  · have hb18 := ip q hb
    obtain rfl := Option.some.inj hb18
    exact w0
  · have hb19 := iq q hb
    obtain ⟨x20, e_x20, hb21⟩ := ob2 hb19
    obtain ⟨x22, e_x22, hb23⟩ := ob2 hb21
    by_cases q : v1 < x22
    · have hb24 := ip q hb23
      obtain ⟨x26, e_x26, hb27⟩ := ob2 hb24
      obtain ⟨x28, e_x28, hb29⟩ := ob2 hb27
      by_cases q : x28 = (0 : Int32)
      · have hb31 := ip q hb29
        obtain ⟨h32, e_h32, hb33⟩ := ob2 hb31
        have w34 := w0.tr (Ways_layOut_q e_h32)
        obtain ⟨x35, e_x35, hb36⟩ := ob2 hb33
        obtain ⟨x37, e_x37, hb38⟩ := ob2 hb36
        obtain ⟨r39, e_r39, hb40⟩ := ob2 hb38
        have w41 := w34.tr (Steps_look_q e_r39)
        by_cases q : r39.1 = (3 : Int32)
        · have hb43 := ip q hb40
          obtain ⟨x48, e_x48, hb49⟩ := ob2 hb43
          obtain ⟨x50, e_x50, hb51⟩ := ob2 hb49
          obtain ⟨h52, e_h52, hb53⟩ := ob2 hb51
          have w54 := w41.tr (Steps_make_q e_h52)
          obtain ⟨x55, e_x55, hb56⟩ := ob2 hb53
          obtain ⟨x57, e_x57, hb58⟩ := ob2 hb56
          obtain ⟨x59, e_x59, hb60⟩ := ob2 hb58
          obtain ⟨h61, e_h61, hb62⟩ := ob2 hb60
          have w63 := w54.tr (sI_q e_h61)
          exact w63.tr (Ways_follow_93_q hb62)
        · have hb42 := iq q hb40
          obtain ⟨x44, e_x44, hb45⟩ := ob2 hb42
          by_cases q : r39.1 = (0 : Int32)
          · have hb47 := ip q hb45
            exact w41.tr (Ways_follow_92_q hb47)
          · have hb46 := iq q hb45
            exact w41.tr (Ways_follow_92_q hb46)
      · have hb30 := iq q hb29
        exact w0.tr (Ways_follow_93_q hb30)
    · have hb25 := iq q hb23
      obtain rfl := Option.some.inj hb25
      exact w0
theorem Ways_follow_o {v0 : Nat} {v1 : Int32} {h : am_H} {r : (Int32 × am_H)} (hb : Ways_follow v0 v1 h = some r) : isO h 10 v0 = true := by
  unfold Ways_follow at hb
  exact (iz hb).1
set_option maxHeartbeats 1000000 in
set_option maxRecDepth 100000 in
noncomputable def Ways_topOf (v0 : Nat) (v1 : Int32) (h : am_H) : Option Int32 := if isO h 10 v0 = true then (gI h 10 v0 15).bind fun x1 => (dvI v1 (if x1 < (1 : Int32) then (1 : Int32) else x1)).bind fun x3 => (gR h 10 v0 8).bind fun x5 => (gR h 10 v0 8).bind fun x7 => (gI h 4 x7 1).bind fun x9 => (Ways_rowsOf (x9 - (1 : Int32)) h).bind fun x11 => (dvI x3 (if x11 < (1 : Int32) then (1 : Int32) else x11)).bind fun x13 => (Row_card x5 x13 h).bind fun x15 => some x15 else none
set_option maxHeartbeats 1000000 in
set_option maxRecDepth 100000 in
theorem Ways_topOf_s {v0 : Nat} {v1 : Int32} {h : am_H} {r : Int32} (hb : Ways_topOf v0 v1 h = some r) : Sx 1 mX10_topOf 0 (am_en [.ref v0, .int v1] 3) [] h (some (.int r)) h := by
  unfold Ways_topOf at hb
  have hb := (iz hb).2
  show Sx 1 mX10_topOf 0 [.ref v0, .int v1, .retAddr 0] [] h (some (.int r)) h
  refine Sx.o (fun _ _ _ k => ex_iload_n dX10_topOf_0 rfl k) ?_
  refine Sx.o (fun _ _ _ k => ex_aload_n dX10_topOf_1 rfl rfl k) ?_
  obtain ⟨x1, e_x1, hb2⟩ := ob2 hb
  refine Sx.o (fun _ _ _ k => op_getI fX10_75 dX10_topOf_2 e_x1 k) ?_
  refine Sx.o (fun _ _ _ k => op_iconst (1 : Int32) dX10_topOf_5 (by decide) k) ?_
  refine Sx.o (fun _ _ _ k => op_mmax (by omega) dX10_topOf_6 kX10_62 (Nat.le_of_ble_eq_true rfl) k) ?_
  obtain ⟨x3, e_x3, hb4⟩ := ob2 hb2
  refine Sx.o (fun _ _ _ k => op_idiv dX10_topOf_9 e_x3 k) ?_
  refine Sx.o (L' := [.ref v0, .int v1, .int x3]) (fun _ _ _ k => ex_istore_n dX10_topOf_10 (by decide) k) ?_
  refine Sx.o (fun _ _ _ k => ex_aload_n dX10_topOf_11 rfl rfl k) ?_
  obtain ⟨x5, e_x5, hb6⟩ := ob2 hb4
  refine Sx.o (fun _ _ _ k => op_getR fX10_18 dX10_topOf_12 e_x5 k) ?_
  refine Sx.o (fun _ _ _ k => ex_iload_n dX10_topOf_15 rfl k) ?_
  refine Sx.o (fun _ _ _ k => ex_aload_n dX10_topOf_16 rfl rfl k) ?_
  obtain ⟨x7, e_x7, hb8⟩ := ob2 hb6
  refine Sx.o (fun _ _ _ k => op_getR fX10_18 dX10_topOf_17 e_x7 k) ?_
  obtain ⟨x9, e_x9, hb10⟩ := ob2 hb8
  refine Sx.o (fun _ _ _ k => op_getI fX10_52 dX10_topOf_20 e_x9 k) ?_
  refine Sx.o (fun _ _ _ k => op_iconst (1 : Int32) dX10_topOf_23 (by decide) k) ?_
  refine Sx.o (fun _ _ _ k => ex_isub dX10_topOf_24 k) ?_
  obtain ⟨x11, e_x11, hb12⟩ := ob2 hb10
  refine sx_callS (dc := 0) (as := [.int (x9 - (1 : Int32))]) (stq := [.int x11, .int x3, .ref x5]) (by omega) dX10_topOf_25 MX10_rowsOf kX10_118 tX10_rowsOf rfl rfl (Nat.le_of_ble_eq_true rfl) (Nat.le_of_ble_eq_true rfl) (Ways_rowsOf_s e_x11) rfl ?_
  refine Sx.o (fun _ _ _ k => op_iconst (1 : Int32) dX10_topOf_28 (by decide) k) ?_
  refine Sx.o (fun _ _ _ k => op_mmax (by omega) dX10_topOf_29 kX10_62 (Nat.le_of_ble_eq_true rfl) k) ?_
  obtain ⟨x13, e_x13, hb14⟩ := ob2 hb12
  refine Sx.o (fun _ _ _ k => op_idiv dX10_topOf_32 e_x13 k) ?_
  obtain ⟨x15, e_x15, hb16⟩ := ob2 hb14
  refine sx_callV (dc := 0) (as := [.int x13]) (stq := [.int x15]) (by omega) dX10_topOf_33 MX4_card kX10_105 iX4_card sX4_card rfl rfl (Row_card_o e_x15) rfl rfl (Nat.le_of_ble_eq_true rfl) (Nat.le_of_ble_eq_true rfl) (Row_card_s e_x15) rfl ?_
  obtain rfl := Option.some.inj hb16
  exact Sx.r (fun _ _ _ k => ex_iret rfl dX10_topOf_36 k)
theorem Ways_topOf_o {v0 : Nat} {v1 : Int32} {h : am_H} {r : Int32} (hb : Ways_topOf v0 v1 h = some r) : isO h 10 v0 = true := by
  unfold Ways_topOf at hb
  exact (iz hb).1
set_option maxHeartbeats 1000000 in
set_option maxRecDepth 100000 in
noncomputable def Ways_fitsSights_5_b (g : (Nat × Int32 × Int32 × Int32 × Nat × am_H) → Option (Int32 × am_H)) (v0 : Nat) (v2 : Int32) (v3 : Int32) (v4 : Int32) (h : am_H) : Option (Int32 × am_H) := if v2 < v4 then some ((1 : Int32), h) else (gR h 10 v0 11).bind fun x3 => (aL h x3).bind fun x5 => if x5 ≤ v4 then some ((1 : Int32), h) else if v4 ≤ (0 : Int32) then g (32, v2, v3, v4, v0, h) else (Ways_follow v0 v3 h).bind fun r11 => g (32, v2, r11.1, v4, v0, r11.2)
set_option maxHeartbeats 1000000 in
set_option maxRecDepth 100000 in
theorem Ways_fitsSights_5_m {g g2 : (Nat × Int32 × Int32 × Int32 × Nat × am_H) → Option (Int32 × am_H)} (hg : ∀ s, Le (g s) (g2 s)) (v0 : Nat) (v2 : Int32) (v3 : Int32) (v4 : Int32) (h : am_H) : Le (Ways_fitsSights_5_b g v0 v2 v3 v4 h) (Ways_fitsSights_5_b g2 v0 v2 v3 v4 h) := by unfold Ways_fitsSights_5_b; exact le_i (le_r _) (le_b (le_r _) fun x3 => le_b (le_r _) fun x5 => le_i (le_r _) (le_i (hg _) (le_b (le_r _) fun r11 => hg _)))
set_option maxHeartbeats 1000000 in
set_option maxRecDepth 100000 in
noncomputable def Ways_fitsSights_32_b (g : (Nat × Int32 × Int32 × Int32 × Nat × am_H) → Option (Int32 × am_H)) (v0 : Nat) (v2 : Int32) (v3 : Int32) (v4 : Int32) (h : am_H) : Option (Int32 × am_H) := if v3 < (0 : Int32) then some ((0 : Int32), h) else (gR h 10 v0 11).bind fun x16 => (aI h 0 x16 v4).bind fun x18 => if x18 = (-1 : Int32) then g (64, v2, v3, v4, v0, h) else (gR h 10 v0 11).bind fun x22 => (aI h 0 x22 v4).bind fun x24 => (Ways_topOf v0 v3 h).bind fun x26 => if x24 = x26 then g (64, v2, v3, v4, v0, h) else some ((0 : Int32), h)
set_option maxHeartbeats 1000000 in
set_option maxRecDepth 100000 in
theorem Ways_fitsSights_32_m {g g2 : (Nat × Int32 × Int32 × Int32 × Nat × am_H) → Option (Int32 × am_H)} (hg : ∀ s, Le (g s) (g2 s)) (v0 : Nat) (v2 : Int32) (v3 : Int32) (v4 : Int32) (h : am_H) : Le (Ways_fitsSights_32_b g v0 v2 v3 v4 h) (Ways_fitsSights_32_b g2 v0 v2 v3 v4 h) := by unfold Ways_fitsSights_32_b; exact le_i (le_r _) (le_b (le_r _) fun x16 => le_b (le_r _) fun x18 => le_i (hg _) (le_b (le_r _) fun x22 => le_b (le_r _) fun x24 => le_b (le_r _) fun x26 => le_i (hg _) (le_r _)))
set_option maxHeartbeats 1000000 in
set_option maxRecDepth 100000 in
noncomputable def Ways_fitsSights_64_b (g : (Nat × Int32 × Int32 × Int32 × Nat × am_H) → Option (Int32 × am_H)) (v0 : Nat) (v2 : Int32) (v3 : Int32) (v4 : Int32) (h : am_H) : Option (Int32 × am_H) := g (5, v2, v3, (v4 + (1 : Int32)), v0, h)
set_option maxHeartbeats 1000000 in
set_option maxRecDepth 100000 in
theorem Ways_fitsSights_64_m {g g2 : (Nat × Int32 × Int32 × Int32 × Nat × am_H) → Option (Int32 × am_H)} (hg : ∀ s, Le (g s) (g2 s)) (v0 : Nat) (v2 : Int32) (v3 : Int32) (v4 : Int32) (h : am_H) : Le (Ways_fitsSights_64_b g v0 v2 v3 v4 h) (Ways_fitsSights_64_b g2 v0 v2 v3 v4 h) := by unfold Ways_fitsSights_64_b; exact hg _
noncomputable def Ways_fitsSights_5_F (g : (Nat × Int32 × Int32 × Int32 × Nat × am_H) → Option (Int32 × am_H)) (s : (Nat × Int32 × Int32 × Int32 × Nat × am_H)) : Option (Int32 × am_H) := if s.1 = 5 then Ways_fitsSights_5_b g s.2.2.2.2.1 s.2.1 s.2.2.1 s.2.2.2.1 s.2.2.2.2.2 else if s.1 = 32 then Ways_fitsSights_32_b g s.2.2.2.2.1 s.2.1 s.2.2.1 s.2.2.2.1 s.2.2.2.2.2 else if s.1 = 64 then Ways_fitsSights_64_b g s.2.2.2.2.1 s.2.1 s.2.2.1 s.2.2.2.1 s.2.2.2.2.2 else none
theorem Ways_fitsSights_5_M : Mn Ways_fitsSights_5_F := fun g g2 hg s => by unfold Ways_fitsSights_5_F; exact le_i (Ways_fitsSights_5_m hg s.2.2.2.2.1 s.2.1 s.2.2.1 s.2.2.2.1 s.2.2.2.2.2) (le_i (Ways_fitsSights_32_m hg s.2.2.2.2.1 s.2.1 s.2.2.1 s.2.2.2.1 s.2.2.2.2.2) (le_i (Ways_fitsSights_64_m hg s.2.2.2.2.1 s.2.1 s.2.2.1 s.2.2.2.1 s.2.2.2.2.2) (le_r _)))
def Ways_fitsSights_5_P (s : (Nat × Int32 × Int32 × Int32 × Nat × am_H)) (r : (Int32 × am_H)) : Prop := (s.1 = 5 → Sx 5 mX10_fitsSights 5 [.ref s.2.2.2.2.1, .retAddr 0, .int s.2.1, .int s.2.2.1, .int s.2.2.2.1] [] s.2.2.2.2.2 (some (.int r.1)) r.2) ∧ (s.1 = 32 → Sx 5 mX10_fitsSights 32 [.ref s.2.2.2.2.1, .retAddr 0, .int s.2.1, .int s.2.2.1, .int s.2.2.2.1] [] s.2.2.2.2.2 (some (.int r.1)) r.2) ∧ (s.1 = 64 → Sx 5 mX10_fitsSights 64 [.ref s.2.2.2.2.1, .retAddr 0, .int s.2.1, .int s.2.2.1, .int s.2.2.2.1] [] s.2.2.2.2.2 (some (.int r.1)) r.2) ∧ True
set_option maxHeartbeats 1000000 in
set_option maxRecDepth 100000 in
theorem Ways_fitsSights_5_t {g : (Nat × Int32 × Int32 × Int32 × Nat × am_H) → Option (Int32 × am_H)} (hg : ∀ s r, g s = some r → Ways_fitsSights_5_P s r) {v0 : Nat} {v2 : Int32} {v3 : Int32} {v4 : Int32} {h : am_H} {r : (Int32 × am_H)} (hb : Ways_fitsSights_5_b g v0 v2 v3 v4 h = some r) : Sx 5 mX10_fitsSights 5 [.ref v0, .retAddr 0, .int v2, .int v3, .int v4] [] h (some (.int r.1)) r.2 := by
  unfold Ways_fitsSights_5_b at hb
  refine Sx.o (fun _ _ _ k => ex_iload dX10_fitsSights_5 rfl k) ?_
  refine Sx.o (fun _ _ _ k => ex_iload_n dX10_fitsSights_7 rfl k) ?_
  refine Sx.b (fun _ _ _ k1 k2 => ex_icmp_gt 70 dX10_fitsSights_8 (by decide) k1 k2) (fun q => ?_) (fun q => ?_)
  · have hb1 := ip q hb
    refine Sx.o (fun _ _ _ k => op_iconst (1 : Int32) dX10_fitsSights_70 (by decide) k) ?_
    obtain rfl := Option.some.inj hb1
    exact Sx.r (fun _ _ _ k => ex_zret rfl rfl dX10_fitsSights_71 k)
  · have hb2 := iq q hb
    refine Sx.o (fun _ _ _ k => ex_iload dX10_fitsSights_11 rfl k) ?_
    refine Sx.o (fun _ _ _ k => ex_aload_n dX10_fitsSights_13 rfl rfl k) ?_
    obtain ⟨x3, e_x3, hb4⟩ := ob2 hb2
    refine Sx.o (fun _ _ _ k => op_getR fX10_28 dX10_fitsSights_14 e_x3 k) ?_
    obtain ⟨x5, e_x5, hb6⟩ := ob2 hb4
    refine Sx.o (fun _ _ _ k => op_alen dX10_fitsSights_17 e_x5 k) ?_
    refine Sx.b (fun _ _ _ k1 k2 => ex_icmp_ge 70 dX10_fitsSights_18 (by decide) k1 k2) (fun q => ?_) (fun q => ?_)
    · have hb7 := ip q hb6
      refine Sx.o (fun _ _ _ k => op_iconst (1 : Int32) dX10_fitsSights_70 (by decide) k) ?_
      obtain rfl := Option.some.inj hb7
      exact Sx.r (fun _ _ _ k => ex_zret rfl rfl dX10_fitsSights_71 k)
    · have hb8 := iq q hb6
      refine Sx.o (fun _ _ _ k => ex_iload dX10_fitsSights_21 rfl k) ?_
      refine Sx.b (fun _ _ _ k1 k2 => ex_if_le 32 dX10_fitsSights_23 (by decide) k1 k2) (fun q => ?_) (fun q => ?_)
      · have hb9 := ip q hb8
        exact (hg _ _ hb9).2.1 rfl
      · have hb10 := iq q hb8
        refine Sx.o (fun _ _ _ k => ex_aload_n dX10_fitsSights_26 rfl rfl k) ?_
        refine Sx.o (fun _ _ _ k => ex_iload_n dX10_fitsSights_27 rfl k) ?_
        obtain ⟨r11, e_r11, hb12⟩ := ob2 hb10
        refine sx_callV (dc := 4) (as := [.int v3]) (stq := [.int r11.1]) (by omega) dX10_fitsSights_28 MX10_follow kX10_184 iX10_follow sX10_follow rfl rfl (Ways_follow_o e_r11) rfl rfl (Nat.le_of_ble_eq_true rfl) (Nat.le_of_ble_eq_true rfl) (Ways_follow_s e_r11) rfl ?_
        refine Sx.o (L' := [.ref v0, .retAddr 0, .int v2, .int r11.1, .int v4]) (fun _ _ _ k => ex_istore_n dX10_fitsSights_31 (by decide) k) ?_
        exact (hg _ _ hb12).2.1 rfl
set_option maxHeartbeats 1000000 in
set_option maxRecDepth 100000 in
theorem Ways_fitsSights_32_t {g : (Nat × Int32 × Int32 × Int32 × Nat × am_H) → Option (Int32 × am_H)} (hg : ∀ s r, g s = some r → Ways_fitsSights_5_P s r) {v0 : Nat} {v2 : Int32} {v3 : Int32} {v4 : Int32} {h : am_H} {r : (Int32 × am_H)} (hb : Ways_fitsSights_32_b g v0 v2 v3 v4 h = some r) : Sx 5 mX10_fitsSights 32 [.ref v0, .retAddr 0, .int v2, .int v3, .int v4] [] h (some (.int r.1)) r.2 := by
  unfold Ways_fitsSights_32_b at hb
  refine Sx.o (fun _ _ _ k => ex_iload_n dX10_fitsSights_32 rfl k) ?_
  refine Sx.b (fun _ _ _ k1 k2 => ex_if_lt 62 dX10_fitsSights_33 (by decide) k1 k2) (fun q => ?_) (fun q => ?_)
  · have hb14 := ip q hb
    refine Sx.o (fun _ _ _ k => op_iconst (0 : Int32) dX10_fitsSights_62 (by decide) k) ?_
    obtain rfl := Option.some.inj hb14
    exact Sx.r (fun _ _ _ k => ex_zret rfl rfl dX10_fitsSights_63 k)
  · have hb15 := iq q hb
    refine Sx.o (fun _ _ _ k => ex_aload_n dX10_fitsSights_36 rfl rfl k) ?_
    obtain ⟨x16, e_x16, hb17⟩ := ob2 hb15
    refine Sx.o (fun _ _ _ k => op_getR fX10_28 dX10_fitsSights_37 e_x16 k) ?_
    refine Sx.o (fun _ _ _ k => ex_iload dX10_fitsSights_40 rfl k) ?_
    obtain ⟨x18, e_x18, hb19⟩ := ob2 hb17
    refine Sx.o (fun _ _ _ k => op_iald dX10_fitsSights_42 e_x18 k) ?_
    refine Sx.o (fun _ _ _ k => op_iconst (-1 : Int32) dX10_fitsSights_43 (by decide) k) ?_
    refine Sx.b (fun _ _ _ k1 k2 => ex_icmp_eq 64 dX10_fitsSights_44 (by decide) k1 k2) (fun q => ?_) (fun q => ?_)
    · have hb20 := ip q hb19
      exact (hg _ _ hb20).2.2.1 rfl
    · have hb21 := iq q hb19
      refine Sx.o (fun _ _ _ k => ex_aload_n dX10_fitsSights_47 rfl rfl k) ?_
      obtain ⟨x22, e_x22, hb23⟩ := ob2 hb21
      refine Sx.o (fun _ _ _ k => op_getR fX10_28 dX10_fitsSights_48 e_x22 k) ?_
      refine Sx.o (fun _ _ _ k => ex_iload dX10_fitsSights_51 rfl k) ?_
      obtain ⟨x24, e_x24, hb25⟩ := ob2 hb23
      refine Sx.o (fun _ _ _ k => op_iald dX10_fitsSights_53 e_x24 k) ?_
      refine Sx.o (fun _ _ _ k => ex_aload_n dX10_fitsSights_54 rfl rfl k) ?_
      refine Sx.o (fun _ _ _ k => ex_iload_n dX10_fitsSights_55 rfl k) ?_
      obtain ⟨x26, e_x26, hb27⟩ := ob2 hb25
      refine sx_callV (dc := 1) (as := [.int v3]) (stq := [.int x26, .int x24]) (by omega) dX10_fitsSights_56 MX10_topOf kX10_213 iX10_topOf sX10_topOf rfl rfl (Ways_topOf_o e_x26) rfl rfl (Nat.le_of_ble_eq_true rfl) (Nat.le_of_ble_eq_true rfl) (Ways_topOf_s e_x26) rfl ?_
      refine Sx.b (fun _ _ _ k1 k2 => ex_icmp_eq 64 dX10_fitsSights_59 (by decide) k1 k2) (fun q => ?_) (fun q => ?_)
      · have hb28 := ip q hb27
        exact (hg _ _ hb28).2.2.1 rfl
      · have hb29 := iq q hb27
        refine Sx.o (fun _ _ _ k => op_iconst (0 : Int32) dX10_fitsSights_62 (by decide) k) ?_
        obtain rfl := Option.some.inj hb29
        exact Sx.r (fun _ _ _ k => ex_zret rfl rfl dX10_fitsSights_63 k)
set_option maxHeartbeats 1000000 in
set_option maxRecDepth 100000 in
theorem Ways_fitsSights_64_t {g : (Nat × Int32 × Int32 × Int32 × Nat × am_H) → Option (Int32 × am_H)} (hg : ∀ s r, g s = some r → Ways_fitsSights_5_P s r) {v0 : Nat} {v2 : Int32} {v3 : Int32} {v4 : Int32} {h : am_H} {r : (Int32 × am_H)} (hb : Ways_fitsSights_64_b g v0 v2 v3 v4 h = some r) : Sx 5 mX10_fitsSights 64 [.ref v0, .retAddr 0, .int v2, .int v3, .int v4] [] h (some (.int r.1)) r.2 := by
  unfold Ways_fitsSights_64_b at hb
  refine Sx.o (L' := [.ref v0, .retAddr 0, .int v2, .int v3, .int (v4 + (1 : Int32))]) (fun _ _ _ k => op_iinc (1 : Int32) dX10_fitsSights_64 (by decide) rfl (by decide) k) ?_
  refine Sx.o (fun _ _ _ k => ex_goto 5 dX10_fitsSights_67 (by decide) k) ?_
  exact (hg _ _ hb).1 rfl
theorem Ways_fitsSights_5_T : ∀ s r, fx Ways_fitsSights_5_F Ways_fitsSights_5_M s = some r → Ways_fitsSights_5_P s r := fx_ind Ways_fitsSights_5_M Ways_fitsSights_5_P (fun g hg s r hb => by
  unfold Ways_fitsSights_5_F at hb
  exact ⟨fun q => Ways_fitsSights_5_t hg (ip q hb), fun q => Ways_fitsSights_32_t hg (ip q (iq (by rw [q]; decide) hb)), fun q => Ways_fitsSights_64_t hg (ip q (iq (by rw [q]; decide) (iq (by rw [q]; decide) hb))), trivial⟩)
set_option maxHeartbeats 1000000 in
set_option maxRecDepth 100000 in
theorem Ways_fitsSights_5_r {g : (Nat × Int32 × Int32 × Int32 × Nat × am_H) → Option (Int32 × am_H)} (hg : ∀ s r, g s = some r → Eqs s.2.2.2.2.2 r.2) {v0 : Nat} {v2 : Int32} {v3 : Int32} {v4 : Int32} {h : am_H} {r : (Int32 × am_H)} (hb : Ways_fitsSights_5_b g v0 v2 v3 v4 h = some r) : Eqs h r.2 := by
  unfold Ways_fitsSights_5_b at hb
  have w0 := Eqs.rf h
  by_cases q : v2 < v4
  · have hb1 := ip q hb
    obtain rfl := Option.some.inj hb1
    exact w0
  · have hb2 := iq q hb
    obtain ⟨x3, e_x3, hb4⟩ := ob2 hb2
    obtain ⟨x5, e_x5, hb6⟩ := ob2 hb4
    by_cases q : x5 ≤ v4
    · have hb7 := ip q hb6
      obtain rfl := Option.some.inj hb7
      exact w0
    · have hb8 := iq q hb6
      by_cases q : v4 ≤ (0 : Int32)
      · have hb9 := ip q hb8
        exact w0.tr (hg _ _ hb9)
      · have hb10 := iq q hb8
        obtain ⟨r11, e_r11, hb12⟩ := ob2 hb10
        have w13 := w0.tr (Ways_follow_q e_r11)
        exact w13.tr (hg _ _ hb12)
set_option maxHeartbeats 1000000 in
set_option maxRecDepth 100000 in
theorem Ways_fitsSights_32_r {g : (Nat × Int32 × Int32 × Int32 × Nat × am_H) → Option (Int32 × am_H)} (hg : ∀ s r, g s = some r → Eqs s.2.2.2.2.2 r.2) {v0 : Nat} {v2 : Int32} {v3 : Int32} {v4 : Int32} {h : am_H} {r : (Int32 × am_H)} (hb : Ways_fitsSights_32_b g v0 v2 v3 v4 h = some r) : Eqs h r.2 := by
  unfold Ways_fitsSights_32_b at hb
  have w0 := Eqs.rf h
  by_cases q : v3 < (0 : Int32)
  · have hb14 := ip q hb
    obtain rfl := Option.some.inj hb14
    exact w0
  · have hb15 := iq q hb
    obtain ⟨x16, e_x16, hb17⟩ := ob2 hb15
    obtain ⟨x18, e_x18, hb19⟩ := ob2 hb17
    by_cases q : x18 = (-1 : Int32)
    · have hb20 := ip q hb19
      exact w0.tr (hg _ _ hb20)
    · have hb21 := iq q hb19
      obtain ⟨x22, e_x22, hb23⟩ := ob2 hb21
      obtain ⟨x24, e_x24, hb25⟩ := ob2 hb23
      obtain ⟨x26, e_x26, hb27⟩ := ob2 hb25
      by_cases q : x24 = x26
      · have hb28 := ip q hb27
        exact w0.tr (hg _ _ hb28)
      · have hb29 := iq q hb27
        obtain rfl := Option.some.inj hb29
        exact w0
set_option maxHeartbeats 1000000 in
set_option maxRecDepth 100000 in
theorem Ways_fitsSights_64_r {g : (Nat × Int32 × Int32 × Int32 × Nat × am_H) → Option (Int32 × am_H)} (hg : ∀ s r, g s = some r → Eqs s.2.2.2.2.2 r.2) {v0 : Nat} {v2 : Int32} {v3 : Int32} {v4 : Int32} {h : am_H} {r : (Int32 × am_H)} (hb : Ways_fitsSights_64_b g v0 v2 v3 v4 h = some r) : Eqs h r.2 := by
  unfold Ways_fitsSights_64_b at hb
  have w0 := Eqs.rf h
  exact w0.tr (hg _ _ hb)
theorem Ways_fitsSights_5_Q : ∀ s r, fx Ways_fitsSights_5_F Ways_fitsSights_5_M s = some r → Eqs s.2.2.2.2.2 r.2 := fx_ind Ways_fitsSights_5_M (fun s r => Eqs s.2.2.2.2.2 r.2) (fun g hg s r hb => by
  unfold Ways_fitsSights_5_F at hb
  by_cases q0 : s.1 = 5
  · exact Ways_fitsSights_5_r hg (ip q0 hb)
  · have hb0 := iq q0 hb
    by_cases q1 : s.1 = 32
    · exact Ways_fitsSights_32_r hg (ip q1 hb0)
    · have hb1 := iq q1 hb0
      by_cases q2 : s.1 = 64
      · exact Ways_fitsSights_64_r hg (ip q2 hb1)
      · have hb2 := iq q2 hb1
        exact nomatch hb2)
noncomputable def Ways_fitsSights_5 (v0 : Nat) (v2 : Int32) (v3 : Int32) (v4 : Int32) (h : am_H) : Option (Int32 × am_H) := fx Ways_fitsSights_5_F Ways_fitsSights_5_M (5, v2, v3, v4, v0, h)
noncomputable def Ways_fitsSights_32 (v0 : Nat) (v2 : Int32) (v3 : Int32) (v4 : Int32) (h : am_H) : Option (Int32 × am_H) := fx Ways_fitsSights_5_F Ways_fitsSights_5_M (32, v2, v3, v4, v0, h)
noncomputable def Ways_fitsSights_64 (v0 : Nat) (v2 : Int32) (v3 : Int32) (v4 : Int32) (h : am_H) : Option (Int32 × am_H) := fx Ways_fitsSights_5_F Ways_fitsSights_5_M (64, v2, v3, v4, v0, h)
set_option maxHeartbeats 1000000 in
set_option maxRecDepth 100000 in
theorem Ways_fitsSights_5_e (v0 : Nat) (v2 : Int32) (v3 : Int32) (v4 : Int32) (h : am_H) : Ways_fitsSights_5 v0 v2 v3 v4 h = (if v2 < v4 then some ((1 : Int32), h) else (gR h 10 v0 11).bind fun x3 => (aL h x3).bind fun x5 => if x5 ≤ v4 then some ((1 : Int32), h) else if v4 ≤ (0 : Int32) then Ways_fitsSights_32 v0 v2 v3 v4 h else (Ways_follow v0 v3 h).bind fun r11 => Ways_fitsSights_32 v0 v2 r11.1 v4 r11.2) := (fx_eq Ways_fitsSights_5_M (5, v2, v3, v4, v0, h)).trans (if_pos rfl)
theorem Ways_fitsSights_5_q {v0 : Nat} {v2 : Int32} {v3 : Int32} {v4 : Int32} {h : am_H} {r : (Int32 × am_H)} (hb : Ways_fitsSights_5 v0 v2 v3 v4 h = some r) : Eqs h r.2 := Ways_fitsSights_5_Q _ _ hb
theorem Ways_fitsSights_5_s {v0 : Nat} {v2 : Int32} {v3 : Int32} {v4 : Int32} {h : am_H} {r : (Int32 × am_H)} (hb : Ways_fitsSights_5 v0 v2 v3 v4 h = some r) : Sx 5 mX10_fitsSights 5 [.ref v0, .retAddr 0, .int v2, .int v3, .int v4] [] h (some (.int r.1)) r.2 := (Ways_fitsSights_5_T _ _ hb).1 rfl
set_option maxHeartbeats 1000000 in
set_option maxRecDepth 100000 in
theorem Ways_fitsSights_32_e (v0 : Nat) (v2 : Int32) (v3 : Int32) (v4 : Int32) (h : am_H) : Ways_fitsSights_32 v0 v2 v3 v4 h = (if v3 < (0 : Int32) then some ((0 : Int32), h) else (gR h 10 v0 11).bind fun x16 => (aI h 0 x16 v4).bind fun x18 => if x18 = (-1 : Int32) then Ways_fitsSights_64 v0 v2 v3 v4 h else (gR h 10 v0 11).bind fun x22 => (aI h 0 x22 v4).bind fun x24 => (Ways_topOf v0 v3 h).bind fun x26 => if x24 = x26 then Ways_fitsSights_64 v0 v2 v3 v4 h else some ((0 : Int32), h)) := (fx_eq Ways_fitsSights_5_M (32, v2, v3, v4, v0, h)).trans ((if_neg (show ¬ (32 : Nat) = 5 by decide)).trans (if_pos rfl))
theorem Ways_fitsSights_32_q {v0 : Nat} {v2 : Int32} {v3 : Int32} {v4 : Int32} {h : am_H} {r : (Int32 × am_H)} (hb : Ways_fitsSights_32 v0 v2 v3 v4 h = some r) : Eqs h r.2 := Ways_fitsSights_5_Q _ _ hb
theorem Ways_fitsSights_32_s {v0 : Nat} {v2 : Int32} {v3 : Int32} {v4 : Int32} {h : am_H} {r : (Int32 × am_H)} (hb : Ways_fitsSights_32 v0 v2 v3 v4 h = some r) : Sx 5 mX10_fitsSights 32 [.ref v0, .retAddr 0, .int v2, .int v3, .int v4] [] h (some (.int r.1)) r.2 := (Ways_fitsSights_5_T _ _ hb).2.1 rfl
set_option maxHeartbeats 1000000 in
set_option maxRecDepth 100000 in
theorem Ways_fitsSights_64_e (v0 : Nat) (v2 : Int32) (v3 : Int32) (v4 : Int32) (h : am_H) : Ways_fitsSights_64 v0 v2 v3 v4 h = (Ways_fitsSights_5 v0 v2 v3 (v4 + (1 : Int32)) h) := (fx_eq Ways_fitsSights_5_M (64, v2, v3, v4, v0, h)).trans ((if_neg (show ¬ (64 : Nat) = 5 by decide)).trans ((if_neg (show ¬ (64 : Nat) = 32 by decide)).trans (if_pos rfl)))
theorem Ways_fitsSights_64_q {v0 : Nat} {v2 : Int32} {v3 : Int32} {v4 : Int32} {h : am_H} {r : (Int32 × am_H)} (hb : Ways_fitsSights_64 v0 v2 v3 v4 h = some r) : Eqs h r.2 := Ways_fitsSights_5_Q _ _ hb
theorem Ways_fitsSights_64_s {v0 : Nat} {v2 : Int32} {v3 : Int32} {v4 : Int32} {h : am_H} {r : (Int32 × am_H)} (hb : Ways_fitsSights_64 v0 v2 v3 v4 h = some r) : Sx 5 mX10_fitsSights 64 [.ref v0, .retAddr 0, .int v2, .int v3, .int v4] [] h (some (.int r.1)) r.2 := (Ways_fitsSights_5_T _ _ hb).2.2.1 rfl
set_option maxHeartbeats 1000000 in
set_option maxRecDepth 100000 in
noncomputable def Ways_fitsSights (v0 : Nat) (v1 : Int32) (v2 : Int32) (h : am_H) : Option (Int32 × am_H) := if isO h 10 v0 = true then Ways_fitsSights_5 v0 v2 v1 (0 : Int32) h else none
set_option maxHeartbeats 1000000 in
set_option maxRecDepth 100000 in
theorem Ways_fitsSights_s {v0 : Nat} {v1 : Int32} {v2 : Int32} {h : am_H} {r : (Int32 × am_H)} (hb : Ways_fitsSights v0 v1 v2 h = some r) : Sx 5 mX10_fitsSights 0 (am_en [.ref v0, .int v1, .int v2] 5) [] h (some (.int r.1)) r.2 := by
  unfold Ways_fitsSights at hb
  have hb := (iz hb).2
  show Sx 5 mX10_fitsSights 0 [.ref v0, .int v1, .int v2, .retAddr 0, .retAddr 0] [] h (some (.int r.1)) r.2
  refine Sx.o (fun _ _ _ k => ex_iload_n dX10_fitsSights_0 rfl k) ?_
  refine Sx.o (L' := [.ref v0, .int v1, .int v2, .int v1, .retAddr 0]) (fun _ _ _ k => ex_istore_n dX10_fitsSights_1 (by decide) k) ?_
  refine Sx.o (fun _ _ _ k => op_iconst (0 : Int32) dX10_fitsSights_2 (by decide) k) ?_
  refine Sx.o (L' := [.ref v0, .int v1, .int v2, .int v1, .int (0 : Int32)]) (fun _ _ _ k => ex_istore dX10_fitsSights_3 (by decide) k) ?_
  refine Sx.fg [true, false, true, true, true] ?_
  exact Ways_fitsSights_5_s hb
set_option maxHeartbeats 1000000 in
set_option maxRecDepth 100000 in
theorem Ways_fitsSights_q {v0 : Nat} {v1 : Int32} {v2 : Int32} {h : am_H} {r : (Int32 × am_H)} (hb : Ways_fitsSights v0 v1 v2 h = some r) : Eqs h r.2 := by
  unfold Ways_fitsSights at hb
  have hb := (iz hb).2
  have w0 := Eqs.rf h
  exact w0.tr (Ways_fitsSights_5_q hb)
theorem Ways_fitsSights_o {v0 : Nat} {v1 : Int32} {v2 : Int32} {h : am_H} {r : (Int32 × am_H)} (hb : Ways_fitsSights v0 v1 v2 h = some r) : isO h 10 v0 = true := by
  unfold Ways_fitsSights at hb
  exact (iz hb).1
set_option maxHeartbeats 1000000 in
set_option maxRecDepth 100000 in
noncomputable def Ways_makeRoom_127 (v0 : Nat) (v2 : Int32) (h : am_H) : Option am_H := (nA h 0 v2).bind fun h1 => (pV h1 10 v0 16 (.ref (List.length h))).bind fun h3 => (nA h3 0 v2).bind fun h6 => (pV h6 10 v0 17 (.ref (List.length h3))).bind fun h8 => some h8
set_option maxHeartbeats 1000000 in
set_option maxRecDepth 100000 in
theorem Ways_makeRoom_127_s {v0 : Nat} {v2 : Int32} {h : am_H} {r : am_H} (hb : Ways_makeRoom_127 v0 v2 h = some r) : Sx 1 mX10_makeRoom 127 [.ref v0, .retAddr 0, .int v2, .retAddr 0] [] h none r := by
  unfold Ways_makeRoom_127 at hb
  refine Sx.o (fun _ _ _ k => ex_aload_n dX10_makeRoom_127 rfl rfl k) ?_
  refine Sx.o (fun _ _ _ k => ex_iload_n dX10_makeRoom_128 rfl k) ?_
  obtain ⟨h1, e_h1, hb2⟩ := ob2 hb
  refine sx_newa (t := 0) (fun _ _ _ N c1 c2 c3 kk => ex_newa0 a_int dX10_makeRoom_129 c1 c2 c3 kk) e_h1 ?_
  obtain ⟨h3, e_h3, hb4⟩ := ob2 hb2
  refine Sx.p (pV_q e_h3) (fun _ _ _ k => op_put pX10_34 dX10_makeRoom_131 e_h3 (fun _ => rfl) (fun _ => rfl) k) ?_
  refine Sx.o (fun _ _ _ k => ex_aload_n dX10_makeRoom_134 rfl rfl k) ?_
  refine Sx.o (fun _ _ _ k => ex_iload_n dX10_makeRoom_135 rfl k) ?_
  obtain ⟨h6, e_h6, hb7⟩ := ob2 hb4
  refine sx_newa (t := 0) (fun _ _ _ N c1 c2 c3 kk => ex_newa0 a_int dX10_makeRoom_136 c1 c2 c3 kk) e_h6 ?_
  obtain ⟨h8, e_h8, hb9⟩ := ob2 hb7
  refine Sx.p (pV_q e_h8) (fun _ _ _ k => op_put pX10_37 dX10_makeRoom_138 e_h8 (fun _ => rfl) (fun _ => rfl) k) ?_
  refine Sx.o (fun _ _ _ k => ex_goto 171 dX10_makeRoom_141 (by decide) k) ?_
  obtain rfl := Option.some.inj hb9
  exact Sx.r (fun _ _ _ k => ex_vret rfl dX10_makeRoom_171 k)
set_option maxHeartbeats 1000000 in
set_option maxRecDepth 100000 in
noncomputable def Ways_makeRoom_146_b (g : (Nat × Int32 × Int32 × Nat × am_H) → Option am_H) (v0 : Nat) (v2 : Int32) (v3 : Int32) (h : am_H) : Option am_H := if v2 ≤ v3 then some h else (gR h 10 v0 16).bind fun x13 => (sI h x13 v3 (0 : Int32)).bind fun h15 => (gR h15 10 v0 17).bind fun x18 => (sI h15 x18 v3 (0 : Int32)).bind fun h20 => g (146, v2, (v3 + (1 : Int32)), v0, h20)
set_option maxHeartbeats 1000000 in
set_option maxRecDepth 100000 in
theorem Ways_makeRoom_146_m {g g2 : (Nat × Int32 × Int32 × Nat × am_H) → Option am_H} (hg : ∀ s, Le (g s) (g2 s)) (v0 : Nat) (v2 : Int32) (v3 : Int32) (h : am_H) : Le (Ways_makeRoom_146_b g v0 v2 v3 h) (Ways_makeRoom_146_b g2 v0 v2 v3 h) := by unfold Ways_makeRoom_146_b; exact le_i (le_r _) (le_b (le_r _) fun x13 => le_b (le_r _) fun h15 => le_b (le_r _) fun x18 => le_b (le_r _) fun h20 => hg _)
noncomputable def Ways_makeRoom_146_F (g : (Nat × Int32 × Int32 × Nat × am_H) → Option am_H) (s : (Nat × Int32 × Int32 × Nat × am_H)) : Option am_H := if s.1 = 146 then Ways_makeRoom_146_b g s.2.2.2.1 s.2.1 s.2.2.1 s.2.2.2.2 else none
theorem Ways_makeRoom_146_M : Mn Ways_makeRoom_146_F := fun g g2 hg s => by unfold Ways_makeRoom_146_F; exact le_i (Ways_makeRoom_146_m hg s.2.2.2.1 s.2.1 s.2.2.1 s.2.2.2.2) (le_r _)
def Ways_makeRoom_146_P (s : (Nat × Int32 × Int32 × Nat × am_H)) (r : am_H) : Prop := (s.1 = 146 → Sx 1 mX10_makeRoom 146 [.ref s.2.2.2.1, .retAddr 0, .int s.2.1, .int s.2.2.1] [] s.2.2.2.2 none r) ∧ True
set_option maxHeartbeats 1000000 in
set_option maxRecDepth 100000 in
theorem Ways_makeRoom_146_t {g : (Nat × Int32 × Int32 × Nat × am_H) → Option am_H} (hg : ∀ s r, g s = some r → Ways_makeRoom_146_P s r) {v0 : Nat} {v2 : Int32} {v3 : Int32} {h : am_H} {r : am_H} (hb : Ways_makeRoom_146_b g v0 v2 v3 h = some r) : Sx 1 mX10_makeRoom 146 [.ref v0, .retAddr 0, .int v2, .int v3] [] h none r := by
  unfold Ways_makeRoom_146_b at hb
  refine Sx.o (fun _ _ _ k => ex_iload_n dX10_makeRoom_146 rfl k) ?_
  refine Sx.o (fun _ _ _ k => ex_iload_n dX10_makeRoom_147 rfl k) ?_
  refine Sx.b (fun _ _ _ k1 k2 => ex_icmp_ge 171 dX10_makeRoom_148 (by decide) k1 k2) (fun q => ?_) (fun q => ?_)
  · have hb11 := ip q hb
    obtain rfl := Option.some.inj hb11
    exact Sx.r (fun _ _ _ k => ex_vret rfl dX10_makeRoom_171 k)
  · have hb12 := iq q hb
    refine Sx.o (fun _ _ _ k => ex_aload_n dX10_makeRoom_151 rfl rfl k) ?_
    obtain ⟨x13, e_x13, hb14⟩ := ob2 hb12
    refine Sx.o (fun _ _ _ k => op_getR fX10_34 dX10_makeRoom_152 e_x13 k) ?_
    refine Sx.o (fun _ _ _ k => ex_iload_n dX10_makeRoom_155 rfl k) ?_
    refine Sx.o (fun _ _ _ k => op_iconst (0 : Int32) dX10_makeRoom_156 (by decide) k) ?_
    obtain ⟨h15, e_h15, hb16⟩ := ob2 hb14
    refine Sx.p (sI_q e_h15) (fun _ _ _ k => op_iast dX10_makeRoom_157 e_h15 k) ?_
    refine Sx.o (fun _ _ _ k => ex_aload_n dX10_makeRoom_158 rfl rfl k) ?_
    obtain ⟨x18, e_x18, hb19⟩ := ob2 hb16
    refine Sx.o (fun _ _ _ k => op_getR fX10_37 dX10_makeRoom_159 e_x18 k) ?_
    refine Sx.o (fun _ _ _ k => ex_iload_n dX10_makeRoom_162 rfl k) ?_
    refine Sx.o (fun _ _ _ k => op_iconst (0 : Int32) dX10_makeRoom_163 (by decide) k) ?_
    obtain ⟨h20, e_h20, hb21⟩ := ob2 hb19
    refine Sx.p (sI_q e_h20) (fun _ _ _ k => op_iast dX10_makeRoom_164 e_h20 k) ?_
    refine Sx.o (L' := [.ref v0, .retAddr 0, .int v2, .int (v3 + (1 : Int32))]) (fun _ _ _ k => op_iinc (1 : Int32) dX10_makeRoom_165 (by decide) rfl (by decide) k) ?_
    refine Sx.o (fun _ _ _ k => ex_goto 146 dX10_makeRoom_168 (by decide) k) ?_
    exact (hg _ _ hb21).1 rfl
theorem Ways_makeRoom_146_T : ∀ s r, fx Ways_makeRoom_146_F Ways_makeRoom_146_M s = some r → Ways_makeRoom_146_P s r := fx_ind Ways_makeRoom_146_M Ways_makeRoom_146_P (fun g hg s r hb => by
  unfold Ways_makeRoom_146_F at hb
  exact ⟨fun q => Ways_makeRoom_146_t hg (ip q hb), trivial⟩)
noncomputable def Ways_makeRoom_146 (v0 : Nat) (v2 : Int32) (v3 : Int32) (h : am_H) : Option am_H := fx Ways_makeRoom_146_F Ways_makeRoom_146_M (146, v2, v3, v0, h)
set_option maxHeartbeats 1000000 in
set_option maxRecDepth 100000 in
theorem Ways_makeRoom_146_e (v0 : Nat) (v2 : Int32) (v3 : Int32) (h : am_H) : Ways_makeRoom_146 v0 v2 v3 h = (if v2 ≤ v3 then some h else (gR h 10 v0 16).bind fun x13 => (sI h x13 v3 (0 : Int32)).bind fun h15 => (gR h15 10 v0 17).bind fun x18 => (sI h15 x18 v3 (0 : Int32)).bind fun h20 => Ways_makeRoom_146 v0 v2 (v3 + (1 : Int32)) h20) := (fx_eq Ways_makeRoom_146_M (146, v2, v3, v0, h)).trans (if_pos rfl)
theorem Ways_makeRoom_146_s {v0 : Nat} {v2 : Int32} {v3 : Int32} {h : am_H} {r : am_H} (hb : Ways_makeRoom_146 v0 v2 v3 h = some r) : Sx 1 mX10_makeRoom 146 [.ref v0, .retAddr 0, .int v2, .int v3] [] h none r := (Ways_makeRoom_146_T _ _ hb).1 rfl
set_option maxHeartbeats 1000000 in
set_option maxRecDepth 100000 in
noncomputable def Ways_makeRoom_65_b (g : (Nat × Int32 × Nat × am_H) → Option am_H) (v0 : Nat) (v2 : Int32) (h : am_H) : Option am_H := if v2 < (0 : Int32) then (gR h 10 v0 8).bind fun x25 => (gI h 4 x25 1).bind fun x27 => (Ways_rowsOf x27 h).bind fun x29 => (gI h 10 v0 15).bind fun x31 => (gR h 10 v0 16).bind fun x33 => (aL h x33).bind fun x35 => if x35 < (x29 * x31) then Ways_makeRoom_127 v0 (x29 * x31) h else (gR h 10 v0 17).bind fun x39 => (aL h x39).bind fun x41 => if (x29 * x31) ≤ x41 then Ways_makeRoom_146 v0 (x29 * x31) (0 : Int32) h else Ways_makeRoom_127 v0 (x29 * x31) h else (gR h 10 v0 12).bind fun x45 => (gR h 10 v0 8).bind fun x47 => (gR h 4 x47 0).bind fun x49 => (aI h 0 x49 v2).bind fun x51 => (sI h x45 (x51 &&& (15 : Int32)) v2).bind fun h53 => g (65, (v2 + (-1 : Int32)), v0, h53)
set_option maxHeartbeats 1000000 in
set_option maxRecDepth 100000 in
theorem Ways_makeRoom_65_m {g g2 : (Nat × Int32 × Nat × am_H) → Option am_H} (hg : ∀ s, Le (g s) (g2 s)) (v0 : Nat) (v2 : Int32) (h : am_H) : Le (Ways_makeRoom_65_b g v0 v2 h) (Ways_makeRoom_65_b g2 v0 v2 h) := by unfold Ways_makeRoom_65_b; exact le_i (le_r _) (le_b (le_r _) fun x45 => le_b (le_r _) fun x47 => le_b (le_r _) fun x49 => le_b (le_r _) fun x51 => le_b (le_r _) fun h53 => hg _)
noncomputable def Ways_makeRoom_65_F (g : (Nat × Int32 × Nat × am_H) → Option am_H) (s : (Nat × Int32 × Nat × am_H)) : Option am_H := if s.1 = 65 then Ways_makeRoom_65_b g s.2.2.1 s.2.1 s.2.2.2 else none
theorem Ways_makeRoom_65_M : Mn Ways_makeRoom_65_F := fun g g2 hg s => by unfold Ways_makeRoom_65_F; exact le_i (Ways_makeRoom_65_m hg s.2.2.1 s.2.1 s.2.2.2) (le_r _)
def Ways_makeRoom_65_P (s : (Nat × Int32 × Nat × am_H)) (r : am_H) : Prop := (s.1 = 65 → Sx 1 mX10_makeRoom 65 [.ref s.2.2.1, .retAddr 0, .int s.2.1, .retAddr 0] [] s.2.2.2 none r) ∧ True
set_option maxHeartbeats 1000000 in
set_option maxRecDepth 100000 in
theorem Ways_makeRoom_65_t {g : (Nat × Int32 × Nat × am_H) → Option am_H} (hg : ∀ s r, g s = some r → Ways_makeRoom_65_P s r) {v0 : Nat} {v2 : Int32} {h : am_H} {r : am_H} (hb : Ways_makeRoom_65_b g v0 v2 h = some r) : Sx 1 mX10_makeRoom 65 [.ref v0, .retAddr 0, .int v2, .retAddr 0] [] h none r := by
  unfold Ways_makeRoom_65_b at hb
  refine Sx.o (fun _ _ _ k => ex_iload_n dX10_makeRoom_65 rfl k) ?_
  refine Sx.b (fun _ _ _ k1 k2 => ex_if_lt 93 dX10_makeRoom_66 (by decide) k1 k2) (fun q => ?_) (fun q => ?_)
  · have hb23 := ip q hb
    refine Sx.o (fun _ _ _ k => ex_aload_n dX10_makeRoom_93 rfl rfl k) ?_
    obtain ⟨x25, e_x25, hb26⟩ := ob2 hb23
    refine Sx.o (fun _ _ _ k => op_getR fX10_18 dX10_makeRoom_94 e_x25 k) ?_
    obtain ⟨x27, e_x27, hb28⟩ := ob2 hb26
    refine Sx.o (fun _ _ _ k => op_getI fX10_52 dX10_makeRoom_97 e_x27 k) ?_
    obtain ⟨x29, e_x29, hb30⟩ := ob2 hb28
    refine sx_callS (dc := 0) (as := [.int x27]) (stq := [.int x29]) (by omega) dX10_makeRoom_100 MX10_rowsOf kX10_118 tX10_rowsOf rfl rfl (Nat.le_of_ble_eq_true rfl) (Nat.le_of_ble_eq_true rfl) (Ways_rowsOf_s e_x29) rfl ?_
    refine Sx.o (fun _ _ _ k => ex_aload_n dX10_makeRoom_103 rfl rfl k) ?_
    obtain ⟨x31, e_x31, hb32⟩ := ob2 hb30
    refine Sx.o (fun _ _ _ k => op_getI fX10_75 dX10_makeRoom_104 e_x31 k) ?_
    refine Sx.o (fun _ _ _ k => ex_imul dX10_makeRoom_107 k) ?_
    refine Sx.o (L' := [.ref v0, .retAddr 0, .int (x29 * x31), .retAddr 0]) (fun _ _ _ k => ex_istore_n dX10_makeRoom_108 (by decide) k) ?_
    refine Sx.o (fun _ _ _ k => ex_aload_n dX10_makeRoom_109 rfl rfl k) ?_
    obtain ⟨x33, e_x33, hb34⟩ := ob2 hb32
    refine Sx.o (fun _ _ _ k => op_getR fX10_34 dX10_makeRoom_110 e_x33 k) ?_
    obtain ⟨x35, e_x35, hb36⟩ := ob2 hb34
    refine Sx.o (fun _ _ _ k => op_alen dX10_makeRoom_113 e_x35 k) ?_
    refine Sx.o (fun _ _ _ k => ex_iload_n dX10_makeRoom_114 rfl k) ?_
    refine Sx.b (fun _ _ _ k1 k2 => ex_icmp_lt 127 dX10_makeRoom_115 (by decide) k1 k2) (fun q => ?_) (fun q => ?_)
    · have hb37 := ip q hb36
      exact Ways_makeRoom_127_s hb37
    · have hb38 := iq q hb36
      refine Sx.o (fun _ _ _ k => ex_aload_n dX10_makeRoom_118 rfl rfl k) ?_
      obtain ⟨x39, e_x39, hb40⟩ := ob2 hb38
      refine Sx.o (fun _ _ _ k => op_getR fX10_37 dX10_makeRoom_119 e_x39 k) ?_
      obtain ⟨x41, e_x41, hb42⟩ := ob2 hb40
      refine Sx.o (fun _ _ _ k => op_alen dX10_makeRoom_122 e_x41 k) ?_
      refine Sx.o (fun _ _ _ k => ex_iload_n dX10_makeRoom_123 rfl k) ?_
      refine Sx.b (fun _ _ _ k1 k2 => ex_icmp_ge 144 dX10_makeRoom_124 (by decide) k1 k2) (fun q => ?_) (fun q => ?_)
      · have hb43 := ip q hb42
        refine Sx.o (fun _ _ _ k => op_iconst (0 : Int32) dX10_makeRoom_144 (by decide) k) ?_
        refine Sx.o (L' := [.ref v0, .retAddr 0, .int (x29 * x31), .int (0 : Int32)]) (fun _ _ _ k => ex_istore_n dX10_makeRoom_145 (by decide) k) ?_
        exact Ways_makeRoom_146_s hb43
      · have hb44 := iq q hb42
        exact Ways_makeRoom_127_s hb44
  · have hb24 := iq q hb
    refine Sx.o (fun _ _ _ k => ex_aload_n dX10_makeRoom_69 rfl rfl k) ?_
    obtain ⟨x45, e_x45, hb46⟩ := ob2 hb24
    refine Sx.o (fun _ _ _ k => op_getR fX10_31 dX10_makeRoom_70 e_x45 k) ?_
    refine Sx.o (fun _ _ _ k => ex_aload_n dX10_makeRoom_73 rfl rfl k) ?_
    obtain ⟨x47, e_x47, hb48⟩ := ob2 hb46
    refine Sx.o (fun _ _ _ k => op_getR fX10_18 dX10_makeRoom_74 e_x47 k) ?_
    obtain ⟨x49, e_x49, hb50⟩ := ob2 hb48
    refine Sx.o (fun _ _ _ k => op_getR fX10_115 dX10_makeRoom_77 e_x49 k) ?_
    refine Sx.o (fun _ _ _ k => ex_iload_n dX10_makeRoom_80 rfl k) ?_
    obtain ⟨x51, e_x51, hb52⟩ := ob2 hb50
    refine Sx.o (fun _ _ _ k => op_iald dX10_makeRoom_81 e_x51 k) ?_
    refine Sx.o (fun _ _ _ k => op_bipush (15 : Int32) dX10_makeRoom_82 (by decide) k) ?_
    refine Sx.o (fun _ _ _ k => ex_iand dX10_makeRoom_84 k) ?_
    refine Sx.o (fun _ _ _ k => ex_iload_n dX10_makeRoom_85 rfl k) ?_
    obtain ⟨h53, e_h53, hb54⟩ := ob2 hb52
    refine Sx.p (sI_q e_h53) (fun _ _ _ k => op_iast dX10_makeRoom_86 e_h53 k) ?_
    refine Sx.o (L' := [.ref v0, .retAddr 0, .int (v2 + (-1 : Int32)), .retAddr 0]) (fun _ _ _ k => op_iinc (-1 : Int32) dX10_makeRoom_87 (by decide) rfl (by decide) k) ?_
    refine Sx.o (fun _ _ _ k => ex_goto 65 dX10_makeRoom_90 (by decide) k) ?_
    exact (hg _ _ hb54).1 rfl
theorem Ways_makeRoom_65_T : ∀ s r, fx Ways_makeRoom_65_F Ways_makeRoom_65_M s = some r → Ways_makeRoom_65_P s r := fx_ind Ways_makeRoom_65_M Ways_makeRoom_65_P (fun g hg s r hb => by
  unfold Ways_makeRoom_65_F at hb
  exact ⟨fun q => Ways_makeRoom_65_t hg (ip q hb), trivial⟩)
noncomputable def Ways_makeRoom_65 (v0 : Nat) (v2 : Int32) (h : am_H) : Option am_H := fx Ways_makeRoom_65_F Ways_makeRoom_65_M (65, v2, v0, h)
set_option maxHeartbeats 1000000 in
set_option maxRecDepth 100000 in
theorem Ways_makeRoom_65_e (v0 : Nat) (v2 : Int32) (h : am_H) : Ways_makeRoom_65 v0 v2 h = (if v2 < (0 : Int32) then (gR h 10 v0 8).bind fun x25 => (gI h 4 x25 1).bind fun x27 => (Ways_rowsOf x27 h).bind fun x29 => (gI h 10 v0 15).bind fun x31 => (gR h 10 v0 16).bind fun x33 => (aL h x33).bind fun x35 => if x35 < (x29 * x31) then Ways_makeRoom_127 v0 (x29 * x31) h else (gR h 10 v0 17).bind fun x39 => (aL h x39).bind fun x41 => if (x29 * x31) ≤ x41 then Ways_makeRoom_146 v0 (x29 * x31) (0 : Int32) h else Ways_makeRoom_127 v0 (x29 * x31) h else (gR h 10 v0 12).bind fun x45 => (gR h 10 v0 8).bind fun x47 => (gR h 4 x47 0).bind fun x49 => (aI h 0 x49 v2).bind fun x51 => (sI h x45 (x51 &&& (15 : Int32)) v2).bind fun h53 => Ways_makeRoom_65 v0 (v2 + (-1 : Int32)) h53) := (fx_eq Ways_makeRoom_65_M (65, v2, v0, h)).trans (if_pos rfl)
theorem Ways_makeRoom_65_s {v0 : Nat} {v2 : Int32} {h : am_H} {r : am_H} (hb : Ways_makeRoom_65 v0 v2 h = some r) : Sx 1 mX10_makeRoom 65 [.ref v0, .retAddr 0, .int v2, .retAddr 0] [] h none r := (Ways_makeRoom_65_T _ _ hb).1 rfl
set_option maxHeartbeats 1000000 in
set_option maxRecDepth 100000 in
noncomputable def Ways_makeRoom_52 (v0 : Nat) (s0 : Int32) (s1 : Nat) (h : am_H) : Option am_H := (pV h 10 s1 15 (.int s0)).bind fun h56 => (gR h56 10 v0 8).bind fun x59 => (gI h56 4 x59 1).bind fun x61 => Ways_makeRoom_65 v0 (x61 - (1 : Int32)) h56
set_option maxHeartbeats 1000000 in
set_option maxRecDepth 100000 in
theorem Ways_makeRoom_52_s {v0 : Nat} {s0 : Int32} {s1 : Nat} {h : am_H} {r : am_H} (hb : Ways_makeRoom_52 v0 s0 s1 h = some r) : Sx 1 mX10_makeRoom 52 [.ref v0, .retAddr 0, .retAddr 0, .retAddr 0] [.int s0, .ref s1] h none r := by
  unfold Ways_makeRoom_52 at hb
  obtain ⟨h56, e_h56, hb57⟩ := ob2 hb
  refine Sx.p (pV_q e_h56) (fun _ _ _ k => op_put pX10_75 dX10_makeRoom_52 e_h56 (fun _ => rfl) (fun _ => rfl) k) ?_
  refine Sx.o (fun _ _ _ k => ex_aload_n dX10_makeRoom_55 rfl rfl k) ?_
  obtain ⟨x59, e_x59, hb60⟩ := ob2 hb57
  refine Sx.o (fun _ _ _ k => op_getR fX10_18 dX10_makeRoom_56 e_x59 k) ?_
  obtain ⟨x61, e_x61, hb62⟩ := ob2 hb60
  refine Sx.o (fun _ _ _ k => op_getI fX10_52 dX10_makeRoom_59 e_x61 k) ?_
  refine Sx.o (fun _ _ _ k => op_iconst (1 : Int32) dX10_makeRoom_62 (by decide) k) ?_
  refine Sx.o (fun _ _ _ k => ex_isub dX10_makeRoom_63 k) ?_
  refine Sx.o (L' := [.ref v0, .retAddr 0, .int (x61 - (1 : Int32)), .retAddr 0]) (fun _ _ _ k => ex_istore_n dX10_makeRoom_64 (by decide) k) ?_
  exact Ways_makeRoom_65_s hb62
set_option maxHeartbeats 1000000 in
set_option maxRecDepth 100000 in
noncomputable def Ways_makeRoom_33 (v0 : Nat) (s0 : Int32) (h : am_H) : Option am_H := if s0 = (0 : Int32) then Ways_makeRoom_52 v0 (1 : Int32) v0 h else (gR h 10 v0 8).bind fun x65 => (gI h 4 x65 1).bind fun x67 => Ways_makeRoom_52 v0 (x67 + (1 : Int32)) v0 h
set_option maxHeartbeats 1000000 in
set_option maxRecDepth 100000 in
theorem Ways_makeRoom_33_s {v0 : Nat} {s0 : Int32} {h : am_H} {r : am_H} (hb : Ways_makeRoom_33 v0 s0 h = some r) : Sx 1 mX10_makeRoom 33 [.ref v0, .retAddr 0, .retAddr 0, .retAddr 0] [.int s0] h none r := by
  unfold Ways_makeRoom_33 at hb
  refine Sx.o (L' := [.ref v0, .int s0, .retAddr 0, .retAddr 0]) (fun _ _ _ k => ex_istore_n dX10_makeRoom_33 (by decide) k) ?_
  refine Sx.o (fun _ _ _ k => ex_aload_n dX10_makeRoom_34 rfl rfl k) ?_
  refine Sx.o (fun _ _ _ k => ex_iload_n dX10_makeRoom_35 rfl k) ?_
  refine Sx.b (fun _ _ _ k1 k2 => ex_if_eq 51 dX10_makeRoom_36 (by decide) k1 k2) (fun q => ?_) (fun q => ?_)
  · have hb63 := ip q hb
    refine Sx.o (fun _ _ _ k => op_iconst (1 : Int32) dX10_makeRoom_51 (by decide) k) ?_
    refine Sx.fg [true, false, true, true] ?_
    exact Ways_makeRoom_52_s hb63
  · have hb64 := iq q hb
    refine Sx.o (fun _ _ _ k => ex_aload_n dX10_makeRoom_39 rfl rfl k) ?_
    obtain ⟨x65, e_x65, hb66⟩ := ob2 hb64
    refine Sx.o (fun _ _ _ k => op_getR fX10_18 dX10_makeRoom_40 e_x65 k) ?_
    obtain ⟨x67, e_x67, hb68⟩ := ob2 hb66
    refine Sx.o (fun _ _ _ k => op_getI fX10_52 dX10_makeRoom_43 e_x67 k) ?_
    refine Sx.o (fun _ _ _ k => op_iconst (1 : Int32) dX10_makeRoom_46 (by decide) k) ?_
    refine Sx.o (fun _ _ _ k => ex_iadd dX10_makeRoom_47 k) ?_
    refine Sx.o (fun _ _ _ k => ex_goto 52 dX10_makeRoom_48 (by decide) k) ?_
    refine Sx.fg [true, false, true, true] ?_
    exact Ways_makeRoom_52_s hb68
set_option maxHeartbeats 1000000 in
set_option maxRecDepth 100000 in
noncomputable def Ways_makeRoom_28 (v0 : Nat) (h : am_H) : Option am_H := Ways_makeRoom_33 v0 (1 : Int32) h
set_option maxHeartbeats 1000000 in
set_option maxRecDepth 100000 in
theorem Ways_makeRoom_28_s {v0 : Nat} {h : am_H} {r : am_H} (hb : Ways_makeRoom_28 v0 h = some r) : Sx 1 mX10_makeRoom 28 [.ref v0, .retAddr 0, .retAddr 0, .retAddr 0] [] h none r := by
  unfold Ways_makeRoom_28 at hb
  refine Sx.o (fun _ _ _ k => op_iconst (1 : Int32) dX10_makeRoom_28 (by decide) k) ?_
  refine Sx.o (fun _ _ _ k => ex_goto 33 dX10_makeRoom_29 (by decide) k) ?_
  exact Ways_makeRoom_33_s hb
set_option maxHeartbeats 1000000 in
set_option maxRecDepth 100000 in
noncomputable def Ways_makeRoom_32 (v0 : Nat) (h : am_H) : Option am_H := Ways_makeRoom_33 v0 (0 : Int32) h
set_option maxHeartbeats 1000000 in
set_option maxRecDepth 100000 in
theorem Ways_makeRoom_32_s {v0 : Nat} {h : am_H} {r : am_H} (hb : Ways_makeRoom_32 v0 h = some r) : Sx 1 mX10_makeRoom 32 [.ref v0, .retAddr 0, .retAddr 0, .retAddr 0] [] h none r := by
  unfold Ways_makeRoom_32 at hb
  refine Sx.o (fun _ _ _ k => op_iconst (0 : Int32) dX10_makeRoom_32 (by decide) k) ?_
  exact Ways_makeRoom_33_s hb
set_option maxHeartbeats 1000000 in
set_option maxRecDepth 100000 in
noncomputable def Ways_makeRoom (v0 : Nat) (h : am_H) : Option am_H := if isO h 10 v0 = true then (gR h 10 v0 8).bind fun x69 => (Row_card x69 (0 : Int32) h).bind fun x71 => if x71 = (0 : Int32) then Ways_makeRoom_28 v0 h else (gN h 10 v0 13).bind fun x75 => if x75 = none then Ways_makeRoom_32 v0 h else (x75).bind fun x79 => (gN h 10 v0 13).bind fun x81 => (x81).bind fun x83 => (gI h 9 x83 8).bind fun x85 => if x85 = (0 : Int32) then Ways_makeRoom_32 v0 h else Ways_makeRoom_28 v0 h else none
set_option maxHeartbeats 1000000 in
set_option maxRecDepth 100000 in
theorem Ways_makeRoom_s {v0 : Nat} {h : am_H} {r : am_H} (hb : Ways_makeRoom v0 h = some r) : Sx 1 mX10_makeRoom 0 (am_en [.ref v0] 4) [] h none r := by
  unfold Ways_makeRoom at hb
  have hb := (iz hb).2
  show Sx 1 mX10_makeRoom 0 [.ref v0, .retAddr 0, .retAddr 0, .retAddr 0] [] h none r
  refine Sx.o (fun _ _ _ k => ex_aload_n dX10_makeRoom_0 rfl rfl k) ?_
  obtain ⟨x69, e_x69, hb70⟩ := ob2 hb
  refine Sx.o (fun _ _ _ k => op_getR fX10_18 dX10_makeRoom_1 e_x69 k) ?_
  refine Sx.o (fun _ _ _ k => op_iconst (0 : Int32) dX10_makeRoom_4 (by decide) k) ?_
  obtain ⟨x71, e_x71, hb72⟩ := ob2 hb70
  refine sx_callV (dc := 0) (as := [.int (0 : Int32)]) (stq := [.int x71]) (by omega) dX10_makeRoom_5 MX4_card kX10_105 iX4_card sX4_card rfl rfl (Row_card_o e_x71) rfl rfl (Nat.le_of_ble_eq_true rfl) (Nat.le_of_ble_eq_true rfl) (Row_card_s e_x71) rfl ?_
  refine Sx.b (fun _ _ _ k1 k2 => ex_if_eq 28 dX10_makeRoom_8 (by decide) k1 k2) (fun q => ?_) (fun q => ?_)
  · have hb73 := ip q hb72
    exact Ways_makeRoom_28_s hb73
  · have hb74 := iq q hb72
    refine Sx.o (fun _ _ _ k => ex_aload_n dX10_makeRoom_11 rfl rfl k) ?_
    obtain ⟨x75, e_x75, hb76⟩ := ob2 hb74
    refine Sx.o (fun _ _ _ k => op_getN fX10_78 dX10_makeRoom_12 e_x75 k) ?_
    refine Sx.b (fun _ _ _ k1 k2 => op_ifnull (r := x75) 32 dX10_makeRoom_15 (by decide) k1 k2) (fun q => ?_) (fun q => ?_)
    · have hb77 := ip q hb76
      exact Ways_makeRoom_32_s hb77
    · have hb78 := iq q hb76
      obtain ⟨x79, e_x79, hb80⟩ := ob2 hb78
      subst e_x79
      refine Sx.o (fun _ _ _ k => ex_aload_n dX10_makeRoom_18 rfl rfl k) ?_
      obtain ⟨x81, e_x81, hb82⟩ := ob2 hb80
      refine Sx.o (fun _ _ _ k => op_getN fX10_78 dX10_makeRoom_19 e_x81 k) ?_
      obtain ⟨x83, e_x83, hb84⟩ := ob2 hb82
      subst e_x83
      obtain ⟨x85, e_x85, hb86⟩ := ob2 hb84
      refine Sx.o (fun _ _ _ k => op_getI fX10_109 dX10_makeRoom_22 e_x85 k) ?_
      refine Sx.b (fun _ _ _ k1 k2 => ex_if_eq 32 dX10_makeRoom_25 (by decide) k1 k2) (fun q => ?_) (fun q => ?_)
      · have hb87 := ip q hb86
        exact Ways_makeRoom_32_s hb87
      · have hb88 := iq q hb86
        exact Ways_makeRoom_28_s hb88
theorem Ways_makeRoom_o {v0 : Nat} {h : am_H} {r : am_H} (hb : Ways_makeRoom v0 h = some r) : isO h 10 v0 = true := by
  unfold Ways_makeRoom at hb
  exact (iz hb).1
set_option maxHeartbeats 1000000 in
set_option maxRecDepth 100000 in
noncomputable def Ways_start_147 (v0 : Nat) (s0 : Int32) (h : am_H) : Option am_H := if s0 = (0 : Int32) then (gR h 10 v0 8).bind fun x3 => (gR h 10 v0 9).bind fun x5 => (Row_copy x3 x5 h).bind fun h7 => (gR h7 10 v0 6).bind fun x9 => (Table_inForce x9 h7).bind fun x11 => (pV h7 10 v0 13 (va_rf x11)).bind fun h13 => (gR h13 10 v0 6).bind fun x16 => (gI h13 7 x16 4).bind fun x18 => (pV h13 10 v0 14 (.int x18)).bind fun h20 => (pV h20 10 v0 18 (.int (-1 : Int32))).bind fun h23 => (Ways_makeRoom v0 h23).bind fun h26 => some h26 else some h
set_option maxHeartbeats 1000000 in
set_option maxRecDepth 100000 in
theorem Ways_start_147_s {v0 : Nat} {s0 : Int32} {h : am_H} {r : am_H} (hb : Ways_start_147 v0 s0 h = some r) : Sx 3 mX10_start 147 [.ref v0, .retAddr 0, .retAddr 0] [.int s0] h none r := by
  unfold Ways_start_147 at hb
  refine Sx.o (L' := [.ref v0, .retAddr 0, .int s0]) (fun _ _ _ k => ex_istore_n dX10_start_147 (by decide) k) ?_
  refine Sx.o (fun _ _ _ k => ex_iload_n dX10_start_148 rfl k) ?_
  refine Sx.bn (fun _ _ _ k1 k2 => ex_if_ne 194 dX10_start_149 (by decide) k1 k2) (fun q => ?_) (fun q => ?_)
  · have hb1 := iq q hb
    obtain rfl := Option.some.inj hb1
    exact Sx.r (fun _ _ _ k => ex_vret rfl dX10_start_194 k)
  · have hb2 := ip q hb
    refine Sx.o (fun _ _ _ k => ex_aload_n dX10_start_152 rfl rfl k) ?_
    obtain ⟨x3, e_x3, hb4⟩ := ob2 hb2
    refine Sx.o (fun _ _ _ k => op_getR fX10_18 dX10_start_153 e_x3 k) ?_
    refine Sx.o (fun _ _ _ k => ex_aload_n dX10_start_156 rfl rfl k) ?_
    obtain ⟨x5, e_x5, hb6⟩ := ob2 hb4
    refine Sx.o (fun _ _ _ k => op_getR fX10_22 dX10_start_157 e_x5 k) ?_
    obtain ⟨h7, e_h7, hb8⟩ := ob2 hb6
    refine sx_callV (dc := 1) (as := [.ref x5]) (stq := []) (by omega) dX10_start_160 MX4_copy kX10_48 iX4_copy sX4_copy rfl rfl (Row_copy_o e_h7) rfl rfl (Nat.le_of_ble_eq_true rfl) (Nat.le_of_ble_eq_true rfl) (Row_copy_s e_h7) rfl ?_
    refine Sx.o (fun _ _ _ k => ex_aload_n dX10_start_163 rfl rfl k) ?_
    refine Sx.o (fun _ _ _ k => ex_aload_n dX10_start_164 rfl rfl k) ?_
    obtain ⟨x9, e_x9, hb10⟩ := ob2 hb8
    refine Sx.o (fun _ _ _ k => op_getR fX10_40 dX10_start_165 e_x9 k) ?_
    obtain ⟨x11, e_x11, hb12⟩ := ob2 hb10
    refine sx_callV (dc := 0) (as := []) (stq := [va_rf x11, .ref v0]) (by omega) dX10_start_168 MX7_inForce kX10_82 iX7_inForce sX7_inForce rfl rfl (Table_inForce_o e_x11) rfl rfl (Nat.le_of_ble_eq_true rfl) (Nat.le_of_ble_eq_true rfl) (Table_inForce_s e_x11) rfl ?_
    obtain ⟨h13, e_h13, hb14⟩ := ob2 hb12
    refine Sx.p (pV_q e_h13) (fun _ _ _ k => op_put pX10_78 dX10_start_171 e_h13 (fun _ => by cases x11 <;> rfl) (fun _ => by cases x11 <;> rfl) k) ?_
    refine Sx.o (fun _ _ _ k => ex_aload_n dX10_start_174 rfl rfl k) ?_
    refine Sx.o (fun _ _ _ k => ex_aload_n dX10_start_175 rfl rfl k) ?_
    obtain ⟨x16, e_x16, hb17⟩ := ob2 hb14
    refine Sx.o (fun _ _ _ k => op_getR fX10_40 dX10_start_176 e_x16 k) ?_
    obtain ⟨x18, e_x18, hb19⟩ := ob2 hb17
    refine Sx.o (fun _ _ _ k => op_getI fX10_91 dX10_start_179 e_x18 k) ?_
    obtain ⟨h20, e_h20, hb21⟩ := ob2 hb19
    refine Sx.p (pV_q e_h20) (fun _ _ _ k => op_put pX10_88 dX10_start_182 e_h20 (fun _ => rfl) (fun _ => rfl) k) ?_
    refine Sx.o (fun _ _ _ k => ex_aload_n dX10_start_185 rfl rfl k) ?_
    refine Sx.o (fun _ _ _ k => op_iconst (-1 : Int32) dX10_start_186 (by decide) k) ?_
    obtain ⟨h23, e_h23, hb24⟩ := ob2 hb21
    refine Sx.p (pV_q e_h23) (fun _ _ _ k => op_put pX10_99 dX10_start_187 e_h23 (fun _ => rfl) (fun _ => rfl) k) ?_
    refine Sx.o (fun _ _ _ k => ex_aload_n dX10_start_190 rfl rfl k) ?_
    obtain ⟨h26, e_h26, hb27⟩ := ob2 hb24
    refine sx_callV (dc := 1) (as := []) (stq := []) (by omega) dX10_start_191 MX10_makeRoom kX10_102 iX10_makeRoom sX10_makeRoom rfl rfl (Ways_makeRoom_o e_h26) rfl rfl (Nat.le_of_ble_eq_true rfl) (Nat.le_of_ble_eq_true rfl) (Ways_makeRoom_s e_h26) rfl ?_
    obtain rfl := Option.some.inj hb27
    exact Sx.r (fun _ _ _ k => ex_vret rfl dX10_start_194 k)
set_option maxHeartbeats 1000000 in
set_option maxRecDepth 100000 in
noncomputable def Ways_start_146 (v0 : Nat) (h : am_H) : Option am_H := Ways_start_147 v0 (0 : Int32) h
set_option maxHeartbeats 1000000 in
set_option maxRecDepth 100000 in
theorem Ways_start_146_s {v0 : Nat} {h : am_H} {r : am_H} (hb : Ways_start_146 v0 h = some r) : Sx 3 mX10_start 146 [.ref v0, .retAddr 0, .retAddr 0] [] h none r := by
  unfold Ways_start_146 at hb
  refine Sx.o (fun _ _ _ k => op_iconst (0 : Int32) dX10_start_146 (by decide) k) ?_
  exact Ways_start_147_s hb
set_option maxHeartbeats 1000000 in
set_option maxRecDepth 100000 in
noncomputable def Ways_start (v0 : Nat) (v1 : Nat) (h : am_H) : Option am_H := if isO h 10 v0 = true then (gR h 10 v0 9).bind fun x28 => (Row_copy x28 v1 h).bind fun h30 => (gR h30 10 v0 9).bind fun x32 => (gR h30 10 v0 9).bind fun x34 => (gI h30 4 x34 1).bind fun x36 => (pV h30 4 x32 1 (.int (if (1 : Int32) < (if (7 : Int32) < x36 then (7 : Int32) else x36) then (if (7 : Int32) < x36 then (7 : Int32) else x36) else (1 : Int32)))).bind fun h38 => (gR h38 10 v0 9).bind fun x41 => (Row_order x41 (0 : Int32) h38).bind fun h43 => (gR h43 10 v0 9).bind fun x45 => (pV h43 4 x45 3 (.int (0 : Int32))).bind fun h47 => (gR h47 10 v0 9).bind fun x50 => (pV h47 4 x50 2 (.int (0 : Int32))).bind fun h52 => (gI h52 10 v0 15).bind fun x55 => if x55 ≤ (0 : Int32) then Ways_start_146 v0 h52 else (gN h52 10 v0 13).bind fun x59 => (gR h52 10 v0 6).bind fun x61 => (Table_inForce x61 h52).bind fun x63 => if x59 = x63 then (gI h52 10 v0 14).bind fun x67 => (gR h52 10 v0 6).bind fun x69 => (gI h52 7 x69 4).bind fun x71 => if x67 = x71 then (gR h52 10 v0 9).bind fun x75 => (gI h52 4 x75 1).bind fun x77 => (gR h52 10 v0 8).bind fun x79 => (gI h52 4 x79 1).bind fun x81 => if x77 = x81 then (gR h52 10 v0 9).bind fun x85 => (gI h52 4 x85 4).bind fun x87 => (gR h52 10 v0 8).bind fun x89 => (gI h52 4 x89 4).bind fun x91 => if x87 = x91 then (gR h52 10 v0 9).bind fun x95 => (Row_packed x95 h52).bind fun x97 => (gR h52 10 v0 8).bind fun x99 => (Row_packed x99 h52).bind fun x101 => if (lg_cmp x97 x101) = (0 : Int32) then Ways_start_147 v0 (1 : Int32) h52 else Ways_start_146 v0 h52 else Ways_start_146 v0 h52 else Ways_start_146 v0 h52 else Ways_start_146 v0 h52 else Ways_start_146 v0 h52 else none
set_option maxHeartbeats 1000000 in
set_option maxRecDepth 100000 in
theorem Ways_start_s {v0 : Nat} {v1 : Nat} {h : am_H} {r : am_H} (hb : Ways_start v0 v1 h = some r) : Sx 3 mX10_start 0 (am_en [.ref v0, .ref v1] 3) [] h none r := by
  unfold Ways_start at hb
  have hb := (iz hb).2
  show Sx 3 mX10_start 0 [.ref v0, .ref v1, .retAddr 0] [] h none r
  refine Sx.o (fun _ _ _ k => ex_aload_n dX10_start_0 rfl rfl k) ?_
  obtain ⟨x28, e_x28, hb29⟩ := ob2 hb
  refine Sx.o (fun _ _ _ k => op_getR fX10_22 dX10_start_1 e_x28 k) ?_
  refine Sx.o (fun _ _ _ k => ex_aload_n dX10_start_4 rfl rfl k) ?_
  obtain ⟨h30, e_h30, hb31⟩ := ob2 hb29
  refine sx_callV (dc := 1) (as := [.ref v1]) (stq := []) (by omega) dX10_start_5 MX4_copy kX10_48 iX4_copy sX4_copy rfl rfl (Row_copy_o e_h30) rfl rfl (Nat.le_of_ble_eq_true rfl) (Nat.le_of_ble_eq_true rfl) (Row_copy_s e_h30) rfl ?_
  refine Sx.o (fun _ _ _ k => ex_aload_n dX10_start_8 rfl rfl k) ?_
  obtain ⟨x32, e_x32, hb33⟩ := ob2 hb31
  refine Sx.o (fun _ _ _ k => op_getR fX10_22 dX10_start_9 e_x32 k) ?_
  refine Sx.o (fun _ _ _ k => op_iconst (1 : Int32) dX10_start_12 (by decide) k) ?_
  refine Sx.o (fun _ _ _ k => ex_aload_n dX10_start_13 rfl rfl k) ?_
  obtain ⟨x34, e_x34, hb35⟩ := ob2 hb33
  refine Sx.o (fun _ _ _ k => op_getR fX10_22 dX10_start_14 e_x34 k) ?_
  obtain ⟨x36, e_x36, hb37⟩ := ob2 hb35
  refine Sx.o (fun _ _ _ k => op_getI fX10_52 dX10_start_17 e_x36 k) ?_
  refine Sx.o (fun _ _ _ k => op_bipush (7 : Int32) dX10_start_20 (by decide) k) ?_
  refine Sx.o (fun _ _ _ k => op_mmin (by omega) dX10_start_22 kX10_56 (Nat.le_of_ble_eq_true rfl) k) ?_
  refine Sx.o (fun _ _ _ k => op_mmax (by omega) dX10_start_25 kX10_62 (Nat.le_of_ble_eq_true rfl) k) ?_
  obtain ⟨h38, e_h38, hb39⟩ := ob2 hb37
  refine Sx.p (pV_q e_h38) (fun _ _ _ k => op_put pX10_52 dX10_start_28 e_h38 (fun _ => rfl) (fun _ => rfl) k) ?_
  refine Sx.o (fun _ _ _ k => ex_aload_n dX10_start_31 rfl rfl k) ?_
  obtain ⟨x41, e_x41, hb42⟩ := ob2 hb39
  refine Sx.o (fun _ _ _ k => op_getR fX10_22 dX10_start_32 e_x41 k) ?_
  refine Sx.o (fun _ _ _ k => op_iconst (0 : Int32) dX10_start_35 (by decide) k) ?_
  obtain ⟨h43, e_h43, hb44⟩ := ob2 hb42
  refine sx_callV (dc := 2) (as := [.int (0 : Int32)]) (stq := []) (by omega) dX10_start_36 MX4_order kX10_65 iX4_order sX4_order rfl rfl (Row_order_o e_h43) rfl rfl (Nat.le_of_ble_eq_true rfl) (Nat.le_of_ble_eq_true rfl) (Row_order_s e_h43) rfl ?_
  refine Sx.o (fun _ _ _ k => ex_aload_n dX10_start_39 rfl rfl k) ?_
  obtain ⟨x45, e_x45, hb46⟩ := ob2 hb44
  refine Sx.o (fun _ _ _ k => op_getR fX10_22 dX10_start_40 e_x45 k) ?_
  refine Sx.o (fun _ _ _ k => op_iconst (0 : Int32) dX10_start_43 (by decide) k) ?_
  obtain ⟨h47, e_h47, hb48⟩ := ob2 hb46
  refine Sx.p (pV_q e_h47) (fun _ _ _ k => op_put pX10_69 dX10_start_44 e_h47 (fun _ => rfl) (fun _ => rfl) k) ?_
  refine Sx.o (fun _ _ _ k => ex_aload_n dX10_start_47 rfl rfl k) ?_
  obtain ⟨x50, e_x50, hb51⟩ := ob2 hb48
  refine Sx.o (fun _ _ _ k => op_getR fX10_22 dX10_start_48 e_x50 k) ?_
  refine Sx.o (fun _ _ _ k => op_iconst (0 : Int32) dX10_start_51 (by decide) k) ?_
  obtain ⟨h52, e_h52, hb53⟩ := ob2 hb51
  refine Sx.p (pV_q e_h52) (fun _ _ _ k => op_put pX10_72 dX10_start_52 e_h52 (fun _ => rfl) (fun _ => rfl) k) ?_
  refine Sx.o (fun _ _ _ k => ex_aload_n dX10_start_55 rfl rfl k) ?_
  obtain ⟨x55, e_x55, hb56⟩ := ob2 hb53
  refine Sx.o (fun _ _ _ k => op_getI fX10_75 dX10_start_56 e_x55 k) ?_
  refine Sx.b (fun _ _ _ k1 k2 => ex_if_le 146 dX10_start_59 (by decide) k1 k2) (fun q => ?_) (fun q => ?_)
  · have hb57 := ip q hb56
    refine Sx.fg [true, false, true] ?_
    exact Ways_start_146_s hb57
  · have hb58 := iq q hb56
    refine Sx.o (fun _ _ _ k => ex_aload_n dX10_start_62 rfl rfl k) ?_
    obtain ⟨x59, e_x59, hb60⟩ := ob2 hb58
    refine Sx.o (fun _ _ _ k => op_getN fX10_78 dX10_start_63 e_x59 k) ?_
    refine Sx.o (fun _ _ _ k => ex_aload_n dX10_start_66 rfl rfl k) ?_
    obtain ⟨x61, e_x61, hb62⟩ := ob2 hb60
    refine Sx.o (fun _ _ _ k => op_getR fX10_40 dX10_start_67 e_x61 k) ?_
    obtain ⟨x63, e_x63, hb64⟩ := ob2 hb62
    refine sx_callV (dc := 0) (as := []) (stq := [va_rf x63, va_rf x59]) (by omega) dX10_start_70 MX7_inForce kX10_82 iX7_inForce sX7_inForce rfl rfl (Table_inForce_o e_x63) rfl rfl (by cases x59 <;> exact Nat.le_of_ble_eq_true rfl) (Nat.le_of_ble_eq_true rfl) (Table_inForce_s e_x63) rfl ?_
    refine Sx.bn (fun _ _ _ k1 k2 => ex_acmp_ne (rx := x59) (ry := x63) 146 dX10_start_73 (by decide) k1 k2) (fun q => ?_) (fun q => ?_)
    · have hb65 := iq q hb64
      refine Sx.fg [true, false, true] ?_
      exact Ways_start_146_s hb65
    · have hb66 := ip q hb64
      refine Sx.o (fun _ _ _ k => ex_aload_n dX10_start_76 rfl rfl k) ?_
      obtain ⟨x67, e_x67, hb68⟩ := ob2 hb66
      refine Sx.o (fun _ _ _ k => op_getI fX10_88 dX10_start_77 e_x67 k) ?_
      refine Sx.o (fun _ _ _ k => ex_aload_n dX10_start_80 rfl rfl k) ?_
      obtain ⟨x69, e_x69, hb70⟩ := ob2 hb68
      refine Sx.o (fun _ _ _ k => op_getR fX10_40 dX10_start_81 e_x69 k) ?_
      obtain ⟨x71, e_x71, hb72⟩ := ob2 hb70
      refine Sx.o (fun _ _ _ k => op_getI fX10_91 dX10_start_84 e_x71 k) ?_
      refine Sx.bn (fun _ _ _ k1 k2 => ex_icmp_ne 146 dX10_start_87 (by decide) k1 k2) (fun q => ?_) (fun q => ?_)
      · have hb73 := iq q hb72
        refine Sx.fg [true, false, true] ?_
        exact Ways_start_146_s hb73
      · have hb74 := ip q hb72
        refine Sx.o (fun _ _ _ k => ex_aload_n dX10_start_90 rfl rfl k) ?_
        obtain ⟨x75, e_x75, hb76⟩ := ob2 hb74
        refine Sx.o (fun _ _ _ k => op_getR fX10_22 dX10_start_91 e_x75 k) ?_
        obtain ⟨x77, e_x77, hb78⟩ := ob2 hb76
        refine Sx.o (fun _ _ _ k => op_getI fX10_52 dX10_start_94 e_x77 k) ?_
        refine Sx.o (fun _ _ _ k => ex_aload_n dX10_start_97 rfl rfl k) ?_
        obtain ⟨x79, e_x79, hb80⟩ := ob2 hb78
        refine Sx.o (fun _ _ _ k => op_getR fX10_18 dX10_start_98 e_x79 k) ?_
        obtain ⟨x81, e_x81, hb82⟩ := ob2 hb80
        refine Sx.o (fun _ _ _ k => op_getI fX10_52 dX10_start_101 e_x81 k) ?_
        refine Sx.bn (fun _ _ _ k1 k2 => ex_icmp_ne 146 dX10_start_104 (by decide) k1 k2) (fun q => ?_) (fun q => ?_)
        · have hb83 := iq q hb82
          refine Sx.fg [true, false, true] ?_
          exact Ways_start_146_s hb83
        · have hb84 := ip q hb82
          refine Sx.o (fun _ _ _ k => ex_aload_n dX10_start_107 rfl rfl k) ?_
          obtain ⟨x85, e_x85, hb86⟩ := ob2 hb84
          refine Sx.o (fun _ _ _ k => op_getR fX10_22 dX10_start_108 e_x85 k) ?_
          obtain ⟨x87, e_x87, hb88⟩ := ob2 hb86
          refine Sx.o (fun _ _ _ k => op_getI fX10_92 dX10_start_111 e_x87 k) ?_
          refine Sx.o (fun _ _ _ k => ex_aload_n dX10_start_114 rfl rfl k) ?_
          obtain ⟨x89, e_x89, hb90⟩ := ob2 hb88
          refine Sx.o (fun _ _ _ k => op_getR fX10_18 dX10_start_115 e_x89 k) ?_
          obtain ⟨x91, e_x91, hb92⟩ := ob2 hb90
          refine Sx.o (fun _ _ _ k => op_getI fX10_92 dX10_start_118 e_x91 k) ?_
          refine Sx.bn (fun _ _ _ k1 k2 => ex_icmp_ne 146 dX10_start_121 (by decide) k1 k2) (fun q => ?_) (fun q => ?_)
          · have hb93 := iq q hb92
            refine Sx.fg [true, false, true] ?_
            exact Ways_start_146_s hb93
          · have hb94 := ip q hb92
            refine Sx.o (fun _ _ _ k => ex_aload_n dX10_start_124 rfl rfl k) ?_
            obtain ⟨x95, e_x95, hb96⟩ := ob2 hb94
            refine Sx.o (fun _ _ _ k => op_getR fX10_22 dX10_start_125 e_x95 k) ?_
            obtain ⟨x97, e_x97, hb98⟩ := ob2 hb96
            refine sx_callV (dc := 0) (as := []) (stq := [.long x97]) (by omega) dX10_start_128 MX4_packed kX10_95 iX4_packed sX4_packed rfl rfl (Row_packed_o e_x97) rfl rfl (Nat.le_of_ble_eq_true rfl) (Nat.le_of_ble_eq_true rfl) (Row_packed_s e_x97) rfl ?_
            refine Sx.o (fun _ _ _ k => ex_aload_n dX10_start_131 rfl rfl k) ?_
            obtain ⟨x99, e_x99, hb100⟩ := ob2 hb98
            refine Sx.o (fun _ _ _ k => op_getR fX10_18 dX10_start_132 e_x99 k) ?_
            obtain ⟨x101, e_x101, hb102⟩ := ob2 hb100
            refine sx_callV (dc := 0) (as := []) (stq := [.long x101, .long x97]) (by omega) dX10_start_135 MX4_packed kX10_95 iX4_packed sX4_packed rfl rfl (Row_packed_o e_x101) rfl rfl (Nat.le_of_ble_eq_true rfl) (Nat.le_of_ble_eq_true rfl) (Row_packed_s e_x101) rfl ?_
            refine Sx.o (fun _ _ _ k => ex_lcmp dX10_start_138 k) ?_
            refine Sx.bn (fun _ _ _ k1 k2 => ex_if_ne 146 dX10_start_139 (by decide) k1 k2) (fun q => ?_) (fun q => ?_)
            · have hb103 := iq q hb102
              refine Sx.fg [true, false, true] ?_
              exact Ways_start_146_s hb103
            · have hb104 := ip q hb102
              refine Sx.o (fun _ _ _ k => op_iconst (1 : Int32) dX10_start_142 (by decide) k) ?_
              refine Sx.o (fun _ _ _ k => ex_goto 147 dX10_start_143 (by decide) k) ?_
              refine Sx.fg [true, false, true] ?_
              exact Ways_start_147_s hb104
theorem Ways_start_o {v0 : Nat} {v1 : Nat} {h : am_H} {r : am_H} (hb : Ways_start v0 v1 h = some r) : isO h 10 v0 = true := by
  unfold Ways_start at hb
  exact (iz hb).1
set_option maxHeartbeats 1000000 in
set_option maxRecDepth 100000 in
noncomputable def Ways_wantSights_12_b (g : (Nat × Int32 × Int32 × Int32 × Int32 × Int32 × Nat × Nat × am_H) → Option (Int32 × am_H)) (v0 : Nat) (v1 : Int32) (v2 : Int32) (h : am_H) : Option (Int32 × am_H) := (gR h 10 v0 6).bind fun x1 => (gI h 7 x1 1).bind fun x3 => if x3 ≤ v2 then some (v1, h) else (gR h 10 v0 6).bind fun x7 => (Table_stepsOf x7 v2 h).bind fun x9 => if x9 < (0 : Int32) then g (95, v1, v2, 0, 0, 0, v0, 0, h) else (gR h 10 v0 11).bind fun x13 => (aL h x13).bind fun x15 => if x15 ≤ x9 then g (95, v1, v2, 0, 0, 0, v0, 0, h) else (gR h 10 v0 6).bind fun x19 => (Table_cardOf x19 v2 h).bind fun x21 => (gR h 10 v0 11).bind fun x23 => (gR h 10 v0 11).bind fun x25 => (aI h 0 x25 x9).bind fun x27 => if x27 = (-1 : Int32) then g (81, v1, v2, x9, x21, x9, v0, x23, h) else (gR h 10 v0 11).bind fun x31 => (aI h 0 x31 x9).bind fun x33 => if x33 = x21 then g (81, v1, v2, x9, x21, x9, v0, x23, h) else g (88, v1, v2, x9, (14 : Int32), x9, v0, x23, h)
set_option maxHeartbeats 1000000 in
set_option maxRecDepth 100000 in
theorem Ways_wantSights_12_m {g g2 : (Nat × Int32 × Int32 × Int32 × Int32 × Int32 × Nat × Nat × am_H) → Option (Int32 × am_H)} (hg : ∀ s, Le (g s) (g2 s)) (v0 : Nat) (v1 : Int32) (v2 : Int32) (h : am_H) : Le (Ways_wantSights_12_b g v0 v1 v2 h) (Ways_wantSights_12_b g2 v0 v1 v2 h) := by unfold Ways_wantSights_12_b; exact le_b (le_r _) fun x1 => le_b (le_r _) fun x3 => le_i (le_r _) (le_b (le_r _) fun x7 => le_b (le_r _) fun x9 => le_i (hg _) (le_b (le_r _) fun x13 => le_b (le_r _) fun x15 => le_i (hg _) (le_b (le_r _) fun x19 => le_b (le_r _) fun x21 => le_b (le_r _) fun x23 => le_b (le_r _) fun x25 => le_b (le_r _) fun x27 => le_i (hg _) (le_b (le_r _) fun x31 => le_b (le_r _) fun x33 => le_i (hg _) (hg _)))))
set_option maxHeartbeats 1000000 in
set_option maxRecDepth 100000 in
noncomputable def Ways_wantSights_81_b (g : (Nat × Int32 × Int32 × Int32 × Int32 × Int32 × Nat × Nat × am_H) → Option (Int32 × am_H)) (v0 : Nat) (v1 : Int32) (v2 : Int32) (v3 : Int32) (v4 : Int32) (s0 : Int32) (s1 : Nat) (h : am_H) : Option (Int32 × am_H) := g (88, v1, v2, v3, v4, s0, v0, s1, h)
set_option maxHeartbeats 1000000 in
set_option maxRecDepth 100000 in
theorem Ways_wantSights_81_m {g g2 : (Nat × Int32 × Int32 × Int32 × Int32 × Int32 × Nat × Nat × am_H) → Option (Int32 × am_H)} (hg : ∀ s, Le (g s) (g2 s)) (v0 : Nat) (v1 : Int32) (v2 : Int32) (v3 : Int32) (v4 : Int32) (s0 : Int32) (s1 : Nat) (h : am_H) : Le (Ways_wantSights_81_b g v0 v1 v2 v3 v4 s0 s1 h) (Ways_wantSights_81_b g2 v0 v1 v2 v3 v4 s0 s1 h) := by unfold Ways_wantSights_81_b; exact hg _
set_option maxHeartbeats 1000000 in
set_option maxRecDepth 100000 in
noncomputable def Ways_wantSights_88_b (g : (Nat × Int32 × Int32 × Int32 × Int32 × Int32 × Nat × Nat × am_H) → Option (Int32 × am_H)) (v0 : Nat) (v1 : Int32) (v2 : Int32) (v3 : Int32) (s0 : Int32) (s1 : Int32) (s2 : Nat) (h : am_H) : Option (Int32 × am_H) := (sI h s2 s1 s0).bind fun h37 => g (95, (if v1 < v3 then v3 else v1), v2, 0, 0, 0, v0, 0, h37)
set_option maxHeartbeats 1000000 in
set_option maxRecDepth 100000 in
theorem Ways_wantSights_88_m {g g2 : (Nat × Int32 × Int32 × Int32 × Int32 × Int32 × Nat × Nat × am_H) → Option (Int32 × am_H)} (hg : ∀ s, Le (g s) (g2 s)) (v0 : Nat) (v1 : Int32) (v2 : Int32) (v3 : Int32) (s0 : Int32) (s1 : Int32) (s2 : Nat) (h : am_H) : Le (Ways_wantSights_88_b g v0 v1 v2 v3 s0 s1 s2 h) (Ways_wantSights_88_b g2 v0 v1 v2 v3 s0 s1 s2 h) := by unfold Ways_wantSights_88_b; exact le_b (le_r _) fun h37 => hg _
set_option maxHeartbeats 1000000 in
set_option maxRecDepth 100000 in
noncomputable def Ways_wantSights_95_b (g : (Nat × Int32 × Int32 × Int32 × Int32 × Int32 × Nat × Nat × am_H) → Option (Int32 × am_H)) (v0 : Nat) (v1 : Int32) (v2 : Int32) (h : am_H) : Option (Int32 × am_H) := g (12, v1, (v2 + (1 : Int32)), 0, 0, 0, v0, 0, h)
set_option maxHeartbeats 1000000 in
set_option maxRecDepth 100000 in
theorem Ways_wantSights_95_m {g g2 : (Nat × Int32 × Int32 × Int32 × Int32 × Int32 × Nat × Nat × am_H) → Option (Int32 × am_H)} (hg : ∀ s, Le (g s) (g2 s)) (v0 : Nat) (v1 : Int32) (v2 : Int32) (h : am_H) : Le (Ways_wantSights_95_b g v0 v1 v2 h) (Ways_wantSights_95_b g2 v0 v1 v2 h) := by unfold Ways_wantSights_95_b; exact hg _
noncomputable def Ways_wantSights_12_F (g : (Nat × Int32 × Int32 × Int32 × Int32 × Int32 × Nat × Nat × am_H) → Option (Int32 × am_H)) (s : (Nat × Int32 × Int32 × Int32 × Int32 × Int32 × Nat × Nat × am_H)) : Option (Int32 × am_H) := if s.1 = 12 then Ways_wantSights_12_b g s.2.2.2.2.2.2.1 s.2.1 s.2.2.1 s.2.2.2.2.2.2.2.2 else if s.1 = 81 then Ways_wantSights_81_b g s.2.2.2.2.2.2.1 s.2.1 s.2.2.1 s.2.2.2.1 s.2.2.2.2.1 s.2.2.2.2.2.1 s.2.2.2.2.2.2.2.1 s.2.2.2.2.2.2.2.2 else if s.1 = 88 then Ways_wantSights_88_b g s.2.2.2.2.2.2.1 s.2.1 s.2.2.1 s.2.2.2.1 s.2.2.2.2.1 s.2.2.2.2.2.1 s.2.2.2.2.2.2.2.1 s.2.2.2.2.2.2.2.2 else if s.1 = 95 then Ways_wantSights_95_b g s.2.2.2.2.2.2.1 s.2.1 s.2.2.1 s.2.2.2.2.2.2.2.2 else none
theorem Ways_wantSights_12_M : Mn Ways_wantSights_12_F := fun g g2 hg s => by unfold Ways_wantSights_12_F; exact le_i (Ways_wantSights_12_m hg s.2.2.2.2.2.2.1 s.2.1 s.2.2.1 s.2.2.2.2.2.2.2.2) (le_i (Ways_wantSights_81_m hg s.2.2.2.2.2.2.1 s.2.1 s.2.2.1 s.2.2.2.1 s.2.2.2.2.1 s.2.2.2.2.2.1 s.2.2.2.2.2.2.2.1 s.2.2.2.2.2.2.2.2) (le_i (Ways_wantSights_88_m hg s.2.2.2.2.2.2.1 s.2.1 s.2.2.1 s.2.2.2.1 s.2.2.2.2.1 s.2.2.2.2.2.1 s.2.2.2.2.2.2.2.1 s.2.2.2.2.2.2.2.2) (le_i (Ways_wantSights_95_m hg s.2.2.2.2.2.2.1 s.2.1 s.2.2.1 s.2.2.2.2.2.2.2.2) (le_r _))))
def Ways_wantSights_12_P (s : (Nat × Int32 × Int32 × Int32 × Int32 × Int32 × Nat × Nat × am_H)) (r : (Int32 × am_H)) : Prop := (s.1 = 12 → Sx 1 mX10_wantSights 12 [.ref s.2.2.2.2.2.2.1, .int s.2.1, .int s.2.2.1, .retAddr 0, .retAddr 0] [] s.2.2.2.2.2.2.2.2 (some (.int r.1)) r.2) ∧ (s.1 = 81 → Sx 1 mX10_wantSights 81 [.ref s.2.2.2.2.2.2.1, .int s.2.1, .int s.2.2.1, .int s.2.2.2.1, .int s.2.2.2.2.1] [.int s.2.2.2.2.2.1, .ref s.2.2.2.2.2.2.2.1] s.2.2.2.2.2.2.2.2 (some (.int r.1)) r.2) ∧ (s.1 = 88 → Sx 1 mX10_wantSights 88 [.ref s.2.2.2.2.2.2.1, .int s.2.1, .int s.2.2.1, .int s.2.2.2.1, .retAddr 0] [.int s.2.2.2.2.1, .int s.2.2.2.2.2.1, .ref s.2.2.2.2.2.2.2.1] s.2.2.2.2.2.2.2.2 (some (.int r.1)) r.2) ∧ (s.1 = 95 → Sx 1 mX10_wantSights 95 [.ref s.2.2.2.2.2.2.1, .int s.2.1, .int s.2.2.1, .retAddr 0, .retAddr 0] [] s.2.2.2.2.2.2.2.2 (some (.int r.1)) r.2) ∧ True
set_option maxHeartbeats 1000000 in
set_option maxRecDepth 100000 in
theorem Ways_wantSights_12_t {g : (Nat × Int32 × Int32 × Int32 × Int32 × Int32 × Nat × Nat × am_H) → Option (Int32 × am_H)} (hg : ∀ s r, g s = some r → Ways_wantSights_12_P s r) {v0 : Nat} {v1 : Int32} {v2 : Int32} {h : am_H} {r : (Int32 × am_H)} (hb : Ways_wantSights_12_b g v0 v1 v2 h = some r) : Sx 1 mX10_wantSights 12 [.ref v0, .int v1, .int v2, .retAddr 0, .retAddr 0] [] h (some (.int r.1)) r.2 := by
  unfold Ways_wantSights_12_b at hb
  refine Sx.o (fun _ _ _ k => ex_iload_n dX10_wantSights_12 rfl k) ?_
  refine Sx.o (fun _ _ _ k => ex_aload_n dX10_wantSights_13 rfl rfl k) ?_
  obtain ⟨x1, e_x1, hb2⟩ := ob2 hb
  refine Sx.o (fun _ _ _ k => op_getR fX10_40 dX10_wantSights_14 e_x1 k) ?_
  obtain ⟨x3, e_x3, hb4⟩ := ob2 hb2
  refine Sx.o (fun _ _ _ k => op_getI fX10_204 dX10_wantSights_17 e_x3 k) ?_
  refine Sx.b (fun _ _ _ k1 k2 => ex_icmp_ge 101 dX10_wantSights_20 (by decide) k1 k2) (fun q => ?_) (fun q => ?_)
  · have hb5 := ip q hb4
    refine Sx.o (fun _ _ _ k => ex_iload_n dX10_wantSights_101 rfl k) ?_
    obtain rfl := Option.some.inj hb5
    exact Sx.r (fun _ _ _ k => ex_iret rfl dX10_wantSights_102 k)
  · have hb6 := iq q hb4
    refine Sx.o (fun _ _ _ k => ex_aload_n dX10_wantSights_23 rfl rfl k) ?_
    obtain ⟨x7, e_x7, hb8⟩ := ob2 hb6
    refine Sx.o (fun _ _ _ k => op_getR fX10_40 dX10_wantSights_24 e_x7 k) ?_
    refine Sx.o (fun _ _ _ k => ex_iload_n dX10_wantSights_27 rfl k) ?_
    obtain ⟨x9, e_x9, hb10⟩ := ob2 hb8
    refine sx_callV (dc := 0) (as := [.int v2]) (stq := [.int x9]) (by omega) dX10_wantSights_28 MX7_stepsOf kX10_207 iX7_stepsOf sX7_stepsOf rfl rfl (Table_stepsOf_o e_x9) rfl rfl (Nat.le_of_ble_eq_true rfl) (Nat.le_of_ble_eq_true rfl) (Table_stepsOf_s e_x9) rfl ?_
    refine Sx.o (L' := [.ref v0, .int v1, .int v2, .int x9, .retAddr 0]) (fun _ _ _ k => ex_istore_n dX10_wantSights_31 (by decide) k) ?_
    refine Sx.o (fun _ _ _ k => ex_iload_n dX10_wantSights_32 rfl k) ?_
    refine Sx.b (fun _ _ _ k1 k2 => ex_if_lt 95 dX10_wantSights_33 (by decide) k1 k2) (fun q => ?_) (fun q => ?_)
    · have hb11 := ip q hb10
      refine Sx.fg [true, true, true, false, true] ?_
      exact (hg _ _ hb11).2.2.2.1 rfl
    · have hb12 := iq q hb10
      refine Sx.o (fun _ _ _ k => ex_iload_n dX10_wantSights_36 rfl k) ?_
      refine Sx.o (fun _ _ _ k => ex_aload_n dX10_wantSights_37 rfl rfl k) ?_
      obtain ⟨x13, e_x13, hb14⟩ := ob2 hb12
      refine Sx.o (fun _ _ _ k => op_getR fX10_28 dX10_wantSights_38 e_x13 k) ?_
      obtain ⟨x15, e_x15, hb16⟩ := ob2 hb14
      refine Sx.o (fun _ _ _ k => op_alen dX10_wantSights_41 e_x15 k) ?_
      refine Sx.b (fun _ _ _ k1 k2 => ex_icmp_ge 95 dX10_wantSights_42 (by decide) k1 k2) (fun q => ?_) (fun q => ?_)
      · have hb17 := ip q hb16
        refine Sx.fg [true, true, true, false, true] ?_
        exact (hg _ _ hb17).2.2.2.1 rfl
      · have hb18 := iq q hb16
        refine Sx.o (fun _ _ _ k => ex_aload_n dX10_wantSights_45 rfl rfl k) ?_
        obtain ⟨x19, e_x19, hb20⟩ := ob2 hb18
        refine Sx.o (fun _ _ _ k => op_getR fX10_40 dX10_wantSights_46 e_x19 k) ?_
        refine Sx.o (fun _ _ _ k => ex_iload_n dX10_wantSights_49 rfl k) ?_
        obtain ⟨x21, e_x21, hb22⟩ := ob2 hb20
        refine sx_callV (dc := 0) (as := [.int v2]) (stq := [.int x21]) (by omega) dX10_wantSights_50 MX7_cardOf kX10_210 iX7_cardOf sX7_cardOf rfl rfl (Table_cardOf_o e_x21) rfl rfl (Nat.le_of_ble_eq_true rfl) (Nat.le_of_ble_eq_true rfl) (Table_cardOf_s e_x21) rfl ?_
        refine Sx.o (L' := [.ref v0, .int v1, .int v2, .int x9, .int x21]) (fun _ _ _ k => ex_istore dX10_wantSights_53 (by decide) k) ?_
        refine Sx.o (fun _ _ _ k => ex_aload_n dX10_wantSights_55 rfl rfl k) ?_
        obtain ⟨x23, e_x23, hb24⟩ := ob2 hb22
        refine Sx.o (fun _ _ _ k => op_getR fX10_28 dX10_wantSights_56 e_x23 k) ?_
        refine Sx.o (fun _ _ _ k => ex_iload_n dX10_wantSights_59 rfl k) ?_
        refine Sx.o (fun _ _ _ k => ex_aload_n dX10_wantSights_60 rfl rfl k) ?_
        obtain ⟨x25, e_x25, hb26⟩ := ob2 hb24
        refine Sx.o (fun _ _ _ k => op_getR fX10_28 dX10_wantSights_61 e_x25 k) ?_
        refine Sx.o (fun _ _ _ k => ex_iload_n dX10_wantSights_64 rfl k) ?_
        obtain ⟨x27, e_x27, hb28⟩ := ob2 hb26
        refine Sx.o (fun _ _ _ k => op_iald dX10_wantSights_65 e_x27 k) ?_
        refine Sx.o (fun _ _ _ k => op_iconst (-1 : Int32) dX10_wantSights_66 (by decide) k) ?_
        refine Sx.b (fun _ _ _ k1 k2 => ex_icmp_eq 81 dX10_wantSights_67 (by decide) k1 k2) (fun q => ?_) (fun q => ?_)
        · have hb29 := ip q hb28
          exact (hg _ _ hb29).2.1 rfl
        · have hb30 := iq q hb28
          refine Sx.o (fun _ _ _ k => ex_aload_n dX10_wantSights_70 rfl rfl k) ?_
          obtain ⟨x31, e_x31, hb32⟩ := ob2 hb30
          refine Sx.o (fun _ _ _ k => op_getR fX10_28 dX10_wantSights_71 e_x31 k) ?_
          refine Sx.o (fun _ _ _ k => ex_iload_n dX10_wantSights_74 rfl k) ?_
          obtain ⟨x33, e_x33, hb34⟩ := ob2 hb32
          refine Sx.o (fun _ _ _ k => op_iald dX10_wantSights_75 e_x33 k) ?_
          refine Sx.o (fun _ _ _ k => ex_iload dX10_wantSights_76 rfl k) ?_
          refine Sx.bn (fun _ _ _ k1 k2 => ex_icmp_ne 86 dX10_wantSights_78 (by decide) k1 k2) (fun q => ?_) (fun q => ?_)
          · have hb35 := iq q hb34
            refine Sx.o (fun _ _ _ k => op_bipush (14 : Int32) dX10_wantSights_86 (by decide) k) ?_
            refine Sx.fg [true, true, true, true, false] ?_
            exact (hg _ _ hb35).2.2.1 rfl
          · have hb36 := ip q hb34
            exact (hg _ _ hb36).2.1 rfl
set_option maxHeartbeats 1000000 in
set_option maxRecDepth 100000 in
theorem Ways_wantSights_81_t {g : (Nat × Int32 × Int32 × Int32 × Int32 × Int32 × Nat × Nat × am_H) → Option (Int32 × am_H)} (hg : ∀ s r, g s = some r → Ways_wantSights_12_P s r) {v0 : Nat} {v1 : Int32} {v2 : Int32} {v3 : Int32} {v4 : Int32} {s0 : Int32} {s1 : Nat} {h : am_H} {r : (Int32 × am_H)} (hb : Ways_wantSights_81_b g v0 v1 v2 v3 v4 s0 s1 h = some r) : Sx 1 mX10_wantSights 81 [.ref v0, .int v1, .int v2, .int v3, .int v4] [.int s0, .ref s1] h (some (.int r.1)) r.2 := by
  unfold Ways_wantSights_81_b at hb
  refine Sx.o (fun _ _ _ k => ex_iload dX10_wantSights_81 rfl k) ?_
  refine Sx.o (fun _ _ _ k => ex_goto 88 dX10_wantSights_83 (by decide) k) ?_
  refine Sx.fg [true, true, true, true, false] ?_
  exact (hg _ _ hb).2.2.1 rfl
set_option maxHeartbeats 1000000 in
set_option maxRecDepth 100000 in
theorem Ways_wantSights_88_t {g : (Nat × Int32 × Int32 × Int32 × Int32 × Int32 × Nat × Nat × am_H) → Option (Int32 × am_H)} (hg : ∀ s r, g s = some r → Ways_wantSights_12_P s r) {v0 : Nat} {v1 : Int32} {v2 : Int32} {v3 : Int32} {s0 : Int32} {s1 : Int32} {s2 : Nat} {h : am_H} {r : (Int32 × am_H)} (hb : Ways_wantSights_88_b g v0 v1 v2 v3 s0 s1 s2 h = some r) : Sx 1 mX10_wantSights 88 [.ref v0, .int v1, .int v2, .int v3, .retAddr 0] [.int s0, .int s1, .ref s2] h (some (.int r.1)) r.2 := by
  unfold Ways_wantSights_88_b at hb
  obtain ⟨h37, e_h37, hb38⟩ := ob2 hb
  refine Sx.p (sI_q e_h37) (fun _ _ _ k => op_iast dX10_wantSights_88 e_h37 k) ?_
  refine Sx.o (fun _ _ _ k => ex_iload_n dX10_wantSights_89 rfl k) ?_
  refine Sx.o (fun _ _ _ k => ex_iload_n dX10_wantSights_90 rfl k) ?_
  refine Sx.o (fun _ _ _ k => op_mmax (by omega) dX10_wantSights_91 kX10_62 (Nat.le_of_ble_eq_true rfl) k) ?_
  refine Sx.o (L' := [.ref v0, .int (if v1 < v3 then v3 else v1), .int v2, .int v3, .retAddr 0]) (fun _ _ _ k => ex_istore_n dX10_wantSights_94 (by decide) k) ?_
  refine Sx.fg [true, true, true, false, true] ?_
  exact (hg _ _ hb38).2.2.2.1 rfl
set_option maxHeartbeats 1000000 in
set_option maxRecDepth 100000 in
theorem Ways_wantSights_95_t {g : (Nat × Int32 × Int32 × Int32 × Int32 × Int32 × Nat × Nat × am_H) → Option (Int32 × am_H)} (hg : ∀ s r, g s = some r → Ways_wantSights_12_P s r) {v0 : Nat} {v1 : Int32} {v2 : Int32} {h : am_H} {r : (Int32 × am_H)} (hb : Ways_wantSights_95_b g v0 v1 v2 h = some r) : Sx 1 mX10_wantSights 95 [.ref v0, .int v1, .int v2, .retAddr 0, .retAddr 0] [] h (some (.int r.1)) r.2 := by
  unfold Ways_wantSights_95_b at hb
  refine Sx.o (L' := [.ref v0, .int v1, .int (v2 + (1 : Int32)), .retAddr 0, .retAddr 0]) (fun _ _ _ k => op_iinc (1 : Int32) dX10_wantSights_95 (by decide) rfl (by decide) k) ?_
  refine Sx.o (fun _ _ _ k => ex_goto 12 dX10_wantSights_98 (by decide) k) ?_
  exact (hg _ _ hb).1 rfl
theorem Ways_wantSights_12_T : ∀ s r, fx Ways_wantSights_12_F Ways_wantSights_12_M s = some r → Ways_wantSights_12_P s r := fx_ind Ways_wantSights_12_M Ways_wantSights_12_P (fun g hg s r hb => by
  unfold Ways_wantSights_12_F at hb
  exact ⟨fun q => Ways_wantSights_12_t hg (ip q hb), fun q => Ways_wantSights_81_t hg (ip q (iq (by rw [q]; decide) hb)), fun q => Ways_wantSights_88_t hg (ip q (iq (by rw [q]; decide) (iq (by rw [q]; decide) hb))), fun q => Ways_wantSights_95_t hg (ip q (iq (by rw [q]; decide) (iq (by rw [q]; decide) (iq (by rw [q]; decide) hb)))), trivial⟩)
set_option maxHeartbeats 1000000 in
set_option maxRecDepth 100000 in
theorem Ways_wantSights_12_r {g : (Nat × Int32 × Int32 × Int32 × Int32 × Int32 × Nat × Nat × am_H) → Option (Int32 × am_H)} (hg : ∀ s r, g s = some r → Eqs s.2.2.2.2.2.2.2.2 r.2) {v0 : Nat} {v1 : Int32} {v2 : Int32} {h : am_H} {r : (Int32 × am_H)} (hb : Ways_wantSights_12_b g v0 v1 v2 h = some r) : Eqs h r.2 := by
  unfold Ways_wantSights_12_b at hb
  have w0 := Eqs.rf h
  obtain ⟨x1, e_x1, hb2⟩ := ob2 hb
  obtain ⟨x3, e_x3, hb4⟩ := ob2 hb2
  by_cases q : x3 ≤ v2
  · have hb5 := ip q hb4
    obtain rfl := Option.some.inj hb5
    exact w0
  · have hb6 := iq q hb4
    obtain ⟨x7, e_x7, hb8⟩ := ob2 hb6
    obtain ⟨x9, e_x9, hb10⟩ := ob2 hb8
    by_cases q : x9 < (0 : Int32)
    · have hb11 := ip q hb10
      exact w0.tr (hg _ _ hb11)
    · have hb12 := iq q hb10
      obtain ⟨x13, e_x13, hb14⟩ := ob2 hb12
      obtain ⟨x15, e_x15, hb16⟩ := ob2 hb14
      by_cases q : x15 ≤ x9
      · have hb17 := ip q hb16
        exact w0.tr (hg _ _ hb17)
      · have hb18 := iq q hb16
        obtain ⟨x19, e_x19, hb20⟩ := ob2 hb18
        obtain ⟨x21, e_x21, hb22⟩ := ob2 hb20
        obtain ⟨x23, e_x23, hb24⟩ := ob2 hb22
        obtain ⟨x25, e_x25, hb26⟩ := ob2 hb24
        obtain ⟨x27, e_x27, hb28⟩ := ob2 hb26
        by_cases q : x27 = (-1 : Int32)
        · have hb29 := ip q hb28
          exact w0.tr (hg _ _ hb29)
        · have hb30 := iq q hb28
          obtain ⟨x31, e_x31, hb32⟩ := ob2 hb30
          obtain ⟨x33, e_x33, hb34⟩ := ob2 hb32
          by_cases q : x33 = x21
          · have hb36 := ip q hb34
            exact w0.tr (hg _ _ hb36)
          · have hb35 := iq q hb34
            exact w0.tr (hg _ _ hb35)
set_option maxHeartbeats 1000000 in
set_option maxRecDepth 100000 in
theorem Ways_wantSights_81_r {g : (Nat × Int32 × Int32 × Int32 × Int32 × Int32 × Nat × Nat × am_H) → Option (Int32 × am_H)} (hg : ∀ s r, g s = some r → Eqs s.2.2.2.2.2.2.2.2 r.2) {v0 : Nat} {v1 : Int32} {v2 : Int32} {v3 : Int32} {v4 : Int32} {s0 : Int32} {s1 : Nat} {h : am_H} {r : (Int32 × am_H)} (hb : Ways_wantSights_81_b g v0 v1 v2 v3 v4 s0 s1 h = some r) : Eqs h r.2 := by
  unfold Ways_wantSights_81_b at hb
  have w0 := Eqs.rf h
  exact w0.tr (hg _ _ hb)
set_option maxHeartbeats 1000000 in
set_option maxRecDepth 100000 in
theorem Ways_wantSights_88_r {g : (Nat × Int32 × Int32 × Int32 × Int32 × Int32 × Nat × Nat × am_H) → Option (Int32 × am_H)} (hg : ∀ s r, g s = some r → Eqs s.2.2.2.2.2.2.2.2 r.2) {v0 : Nat} {v1 : Int32} {v2 : Int32} {v3 : Int32} {s0 : Int32} {s1 : Int32} {s2 : Nat} {h : am_H} {r : (Int32 × am_H)} (hb : Ways_wantSights_88_b g v0 v1 v2 v3 s0 s1 s2 h = some r) : Eqs h r.2 := by
  unfold Ways_wantSights_88_b at hb
  have w0 := Eqs.rf h
  obtain ⟨h37, e_h37, hb38⟩ := ob2 hb
  have w39 := w0.tr (sI_q e_h37)
  exact w39.tr (hg _ _ hb38)
set_option maxHeartbeats 1000000 in
set_option maxRecDepth 100000 in
theorem Ways_wantSights_95_r {g : (Nat × Int32 × Int32 × Int32 × Int32 × Int32 × Nat × Nat × am_H) → Option (Int32 × am_H)} (hg : ∀ s r, g s = some r → Eqs s.2.2.2.2.2.2.2.2 r.2) {v0 : Nat} {v1 : Int32} {v2 : Int32} {h : am_H} {r : (Int32 × am_H)} (hb : Ways_wantSights_95_b g v0 v1 v2 h = some r) : Eqs h r.2 := by
  unfold Ways_wantSights_95_b at hb
  have w0 := Eqs.rf h
  exact w0.tr (hg _ _ hb)
theorem Ways_wantSights_12_Q : ∀ s r, fx Ways_wantSights_12_F Ways_wantSights_12_M s = some r → Eqs s.2.2.2.2.2.2.2.2 r.2 := fx_ind Ways_wantSights_12_M (fun s r => Eqs s.2.2.2.2.2.2.2.2 r.2) (fun g hg s r hb => by
  unfold Ways_wantSights_12_F at hb
  by_cases q0 : s.1 = 12
  · exact Ways_wantSights_12_r hg (ip q0 hb)
  · have hb0 := iq q0 hb
    by_cases q1 : s.1 = 81
    · exact Ways_wantSights_81_r hg (ip q1 hb0)
    · have hb1 := iq q1 hb0
      by_cases q2 : s.1 = 88
      · exact Ways_wantSights_88_r hg (ip q2 hb1)
      · have hb2 := iq q2 hb1
        by_cases q3 : s.1 = 95
        · exact Ways_wantSights_95_r hg (ip q3 hb2)
        · have hb3 := iq q3 hb2
          exact nomatch hb3)
noncomputable def Ways_wantSights_12 (v0 : Nat) (v1 : Int32) (v2 : Int32) (h : am_H) : Option (Int32 × am_H) := fx Ways_wantSights_12_F Ways_wantSights_12_M (12, v1, v2, 0, 0, 0, v0, 0, h)
noncomputable def Ways_wantSights_81 (v0 : Nat) (v1 : Int32) (v2 : Int32) (v3 : Int32) (v4 : Int32) (s0 : Int32) (s1 : Nat) (h : am_H) : Option (Int32 × am_H) := fx Ways_wantSights_12_F Ways_wantSights_12_M (81, v1, v2, v3, v4, s0, v0, s1, h)
noncomputable def Ways_wantSights_88 (v0 : Nat) (v1 : Int32) (v2 : Int32) (v3 : Int32) (s0 : Int32) (s1 : Int32) (s2 : Nat) (h : am_H) : Option (Int32 × am_H) := fx Ways_wantSights_12_F Ways_wantSights_12_M (88, v1, v2, v3, s0, s1, v0, s2, h)
noncomputable def Ways_wantSights_95 (v0 : Nat) (v1 : Int32) (v2 : Int32) (h : am_H) : Option (Int32 × am_H) := fx Ways_wantSights_12_F Ways_wantSights_12_M (95, v1, v2, 0, 0, 0, v0, 0, h)
set_option maxHeartbeats 1000000 in
set_option maxRecDepth 100000 in
theorem Ways_wantSights_12_e (v0 : Nat) (v1 : Int32) (v2 : Int32) (h : am_H) : Ways_wantSights_12 v0 v1 v2 h = ((gR h 10 v0 6).bind fun x1 => (gI h 7 x1 1).bind fun x3 => if x3 ≤ v2 then some (v1, h) else (gR h 10 v0 6).bind fun x7 => (Table_stepsOf x7 v2 h).bind fun x9 => if x9 < (0 : Int32) then Ways_wantSights_95 v0 v1 v2 h else (gR h 10 v0 11).bind fun x13 => (aL h x13).bind fun x15 => if x15 ≤ x9 then Ways_wantSights_95 v0 v1 v2 h else (gR h 10 v0 6).bind fun x19 => (Table_cardOf x19 v2 h).bind fun x21 => (gR h 10 v0 11).bind fun x23 => (gR h 10 v0 11).bind fun x25 => (aI h 0 x25 x9).bind fun x27 => if x27 = (-1 : Int32) then Ways_wantSights_81 v0 v1 v2 x9 x21 x9 x23 h else (gR h 10 v0 11).bind fun x31 => (aI h 0 x31 x9).bind fun x33 => if x33 = x21 then Ways_wantSights_81 v0 v1 v2 x9 x21 x9 x23 h else Ways_wantSights_88 v0 v1 v2 x9 (14 : Int32) x9 x23 h) := (fx_eq Ways_wantSights_12_M (12, v1, v2, 0, 0, 0, v0, 0, h)).trans (if_pos rfl)
theorem Ways_wantSights_12_q {v0 : Nat} {v1 : Int32} {v2 : Int32} {h : am_H} {r : (Int32 × am_H)} (hb : Ways_wantSights_12 v0 v1 v2 h = some r) : Eqs h r.2 := Ways_wantSights_12_Q _ _ hb
theorem Ways_wantSights_12_s {v0 : Nat} {v1 : Int32} {v2 : Int32} {h : am_H} {r : (Int32 × am_H)} (hb : Ways_wantSights_12 v0 v1 v2 h = some r) : Sx 1 mX10_wantSights 12 [.ref v0, .int v1, .int v2, .retAddr 0, .retAddr 0] [] h (some (.int r.1)) r.2 := (Ways_wantSights_12_T _ _ hb).1 rfl
set_option maxHeartbeats 1000000 in
set_option maxRecDepth 100000 in
theorem Ways_wantSights_81_e (v0 : Nat) (v1 : Int32) (v2 : Int32) (v3 : Int32) (v4 : Int32) (s0 : Int32) (s1 : Nat) (h : am_H) : Ways_wantSights_81 v0 v1 v2 v3 v4 s0 s1 h = (Ways_wantSights_88 v0 v1 v2 v3 v4 s0 s1 h) := (fx_eq Ways_wantSights_12_M (81, v1, v2, v3, v4, s0, v0, s1, h)).trans ((if_neg (show ¬ (81 : Nat) = 12 by decide)).trans (if_pos rfl))
theorem Ways_wantSights_81_q {v0 : Nat} {v1 : Int32} {v2 : Int32} {v3 : Int32} {v4 : Int32} {s0 : Int32} {s1 : Nat} {h : am_H} {r : (Int32 × am_H)} (hb : Ways_wantSights_81 v0 v1 v2 v3 v4 s0 s1 h = some r) : Eqs h r.2 := Ways_wantSights_12_Q _ _ hb
theorem Ways_wantSights_81_s {v0 : Nat} {v1 : Int32} {v2 : Int32} {v3 : Int32} {v4 : Int32} {s0 : Int32} {s1 : Nat} {h : am_H} {r : (Int32 × am_H)} (hb : Ways_wantSights_81 v0 v1 v2 v3 v4 s0 s1 h = some r) : Sx 1 mX10_wantSights 81 [.ref v0, .int v1, .int v2, .int v3, .int v4] [.int s0, .ref s1] h (some (.int r.1)) r.2 := (Ways_wantSights_12_T _ _ hb).2.1 rfl
set_option maxHeartbeats 1000000 in
set_option maxRecDepth 100000 in
theorem Ways_wantSights_88_e (v0 : Nat) (v1 : Int32) (v2 : Int32) (v3 : Int32) (s0 : Int32) (s1 : Int32) (s2 : Nat) (h : am_H) : Ways_wantSights_88 v0 v1 v2 v3 s0 s1 s2 h = ((sI h s2 s1 s0).bind fun h37 => Ways_wantSights_95 v0 (if v1 < v3 then v3 else v1) v2 h37) := (fx_eq Ways_wantSights_12_M (88, v1, v2, v3, s0, s1, v0, s2, h)).trans ((if_neg (show ¬ (88 : Nat) = 12 by decide)).trans ((if_neg (show ¬ (88 : Nat) = 81 by decide)).trans (if_pos rfl)))
theorem Ways_wantSights_88_q {v0 : Nat} {v1 : Int32} {v2 : Int32} {v3 : Int32} {s0 : Int32} {s1 : Int32} {s2 : Nat} {h : am_H} {r : (Int32 × am_H)} (hb : Ways_wantSights_88 v0 v1 v2 v3 s0 s1 s2 h = some r) : Eqs h r.2 := Ways_wantSights_12_Q _ _ hb
theorem Ways_wantSights_88_s {v0 : Nat} {v1 : Int32} {v2 : Int32} {v3 : Int32} {s0 : Int32} {s1 : Int32} {s2 : Nat} {h : am_H} {r : (Int32 × am_H)} (hb : Ways_wantSights_88 v0 v1 v2 v3 s0 s1 s2 h = some r) : Sx 1 mX10_wantSights 88 [.ref v0, .int v1, .int v2, .int v3, .retAddr 0] [.int s0, .int s1, .ref s2] h (some (.int r.1)) r.2 := (Ways_wantSights_12_T _ _ hb).2.2.1 rfl
set_option maxHeartbeats 1000000 in
set_option maxRecDepth 100000 in
theorem Ways_wantSights_95_e (v0 : Nat) (v1 : Int32) (v2 : Int32) (h : am_H) : Ways_wantSights_95 v0 v1 v2 h = (Ways_wantSights_12 v0 v1 (v2 + (1 : Int32)) h) := (fx_eq Ways_wantSights_12_M (95, v1, v2, 0, 0, 0, v0, 0, h)).trans ((if_neg (show ¬ (95 : Nat) = 12 by decide)).trans ((if_neg (show ¬ (95 : Nat) = 81 by decide)).trans ((if_neg (show ¬ (95 : Nat) = 88 by decide)).trans (if_pos rfl))))
theorem Ways_wantSights_95_q {v0 : Nat} {v1 : Int32} {v2 : Int32} {h : am_H} {r : (Int32 × am_H)} (hb : Ways_wantSights_95 v0 v1 v2 h = some r) : Eqs h r.2 := Ways_wantSights_12_Q _ _ hb
theorem Ways_wantSights_95_s {v0 : Nat} {v1 : Int32} {v2 : Int32} {h : am_H} {r : (Int32 × am_H)} (hb : Ways_wantSights_95 v0 v1 v2 h = some r) : Sx 1 mX10_wantSights 95 [.ref v0, .int v1, .int v2, .retAddr 0, .retAddr 0] [] h (some (.int r.1)) r.2 := (Ways_wantSights_12_T _ _ hb).2.2.2.1 rfl
set_option maxHeartbeats 1000000 in
set_option maxRecDepth 100000 in
noncomputable def Ways_wantSights (v0 : Nat) (h : am_H) : Option (Int32 × am_H) := if isO h 10 v0 = true then (gR h 10 v0 11).bind fun x40 => (Arr_fill x40 (-1 : Int32) h).bind fun h42 => Ways_wantSights_12 v0 (0 : Int32) (0 : Int32) h42 else none
set_option maxHeartbeats 1000000 in
set_option maxRecDepth 100000 in
theorem Ways_wantSights_s {v0 : Nat} {h : am_H} {r : (Int32 × am_H)} (hb : Ways_wantSights v0 h = some r) : Sx 1 mX10_wantSights 0 (am_en [.ref v0] 5) [] h (some (.int r.1)) r.2 := by
  unfold Ways_wantSights at hb
  have hb := (iz hb).2
  show Sx 1 mX10_wantSights 0 [.ref v0, .retAddr 0, .retAddr 0, .retAddr 0, .retAddr 0] [] h (some (.int r.1)) r.2
  refine Sx.o (fun _ _ _ k => op_iconst (0 : Int32) dX10_wantSights_0 (by decide) k) ?_
  refine Sx.o (L' := [.ref v0, .int (0 : Int32), .retAddr 0, .retAddr 0, .retAddr 0]) (fun _ _ _ k => ex_istore_n dX10_wantSights_1 (by decide) k) ?_
  refine Sx.o (fun _ _ _ k => ex_aload_n dX10_wantSights_2 rfl rfl k) ?_
  obtain ⟨x40, e_x40, hb41⟩ := ob2 hb
  refine Sx.o (fun _ _ _ k => op_getR fX10_28 dX10_wantSights_3 e_x40 k) ?_
  refine Sx.o (fun _ _ _ k => op_iconst (-1 : Int32) dX10_wantSights_6 (by decide) k) ?_
  obtain ⟨h42, e_h42, hb43⟩ := ob2 hb41
  refine sx_callS (dc := 0) (as := [.ref x40, .int (-1 : Int32)]) (stq := []) (by omega) dX10_wantSights_7 MJ7_fill_53178 kX10_167 tJ7_fill_53178 rfl rfl (Nat.le_of_ble_eq_true rfl) (Nat.le_of_ble_eq_true rfl) (Arr_fill_s e_h42) rfl ?_
  refine Sx.o (fun _ _ _ k => op_iconst (0 : Int32) dX10_wantSights_10 (by decide) k) ?_
  refine Sx.o (L' := [.ref v0, .int (0 : Int32), .int (0 : Int32), .retAddr 0, .retAddr 0]) (fun _ _ _ k => ex_istore_n dX10_wantSights_11 (by decide) k) ?_
  exact Ways_wantSights_12_s hb43
set_option maxHeartbeats 1000000 in
set_option maxRecDepth 100000 in
theorem Ways_wantSights_q {v0 : Nat} {h : am_H} {r : (Int32 × am_H)} (hb : Ways_wantSights v0 h = some r) : Eqs h r.2 := by
  unfold Ways_wantSights at hb
  have hb := (iz hb).2
  have w0 := Eqs.rf h
  obtain ⟨x40, e_x40, hb41⟩ := ob2 hb
  obtain ⟨h42, e_h42, hb43⟩ := ob2 hb41
  have w44 := w0.tr (Arr_fill_q e_h42)
  exact w44.tr (Ways_wantSights_12_q hb43)
theorem Ways_wantSights_o {v0 : Nat} {h : am_H} {r : (Int32 × am_H)} (hb : Ways_wantSights v0 h = some r) : isO h 10 v0 = true := by
  unfold Ways_wantSights at hb
  exact (iz hb).1
set_option maxHeartbeats 1000000 in
set_option maxRecDepth 100000 in
noncomputable def Ways_fitting_91 (v2 : Int32) (v5 : Int32) (h : am_H) : Option (Int32 × am_H) := if v2 = (-1 : Int32) then some (v5, h) else some ((-1 : Int32), h)
set_option maxHeartbeats 1000000 in
set_option maxRecDepth 100000 in
theorem Ways_fitting_91_s {v2 : Int32} {v5 : Int32} {h : am_H} {r : (Int32 × am_H)} (hb : Ways_fitting_91 v2 v5 h = some r) : Sx 6 mX10_fitting 91 [.retAddr 0, .retAddr 0, .int v2, .retAddr 0, .retAddr 0, .int v5, .retAddr 0, .retAddr 0] [] h (some (.int r.1)) r.2 := by
  unfold Ways_fitting_91 at hb
  refine Sx.o (fun _ _ _ k => ex_iload_n dX10_fitting_91 rfl k) ?_
  refine Sx.o (fun _ _ _ k => op_iconst (-1 : Int32) dX10_fitting_92 (by decide) k) ?_
  refine Sx.bn (fun _ _ _ k1 k2 => ex_icmp_ne 101 dX10_fitting_93 (by decide) k1 k2) (fun q => ?_) (fun q => ?_)
  · have hb1 := iq q hb
    refine Sx.o (fun _ _ _ k => op_iconst (-1 : Int32) dX10_fitting_101 (by decide) k) ?_
    obtain rfl := Option.some.inj hb1
    exact Sx.r (fun _ _ _ k => ex_iret rfl dX10_fitting_102 k)
  · have hb2 := ip q hb
    refine Sx.o (fun _ _ _ k => ex_iload dX10_fitting_96 rfl k) ?_
    refine Sx.o (fun _ _ _ k => ex_goto 102 dX10_fitting_98 (by decide) k) ?_
    obtain rfl := Option.some.inj hb2
    exact Sx.r (fun _ _ _ k => ex_iret rfl dX10_fitting_102 k)
set_option maxHeartbeats 1000000 in
set_option maxRecDepth 100000 in
noncomputable def Ways_fitting_20_b (g : (Nat × Int32 × Int32 × Int32 × Int32 × Int32 × Int32 × Nat × am_H) → Option (Int32 × am_H)) (v0 : Nat) (v2 : Int32) (v3 : Int32) (v4 : Int32) (v5 : Int32) (v6 : Int32) (v7 : Int32) (h : am_H) : Option (Int32 × am_H) := (gR h 10 v0 8).bind fun x3 => (gI h 4 x3 1).bind fun x5 => (Ways_rowsOf x5 h).bind fun x7 => if x7 ≤ v7 then Ways_fitting_91 v2 v5 h else if v6 = (0 : Int32) then Ways_fitting_91 v2 v5 h else (gR h 10 v0 9).bind fun x13 => (Ways_timeOf v0 x13 h).bind fun x15 => (Ways_fitsSights v0 x15 v4 h).bind fun r17 => if r17.1 = (0 : Int32) then g (75, v2, v3, v4, v5, v7, 0, v0, r17.2) else if v5 = v2 then (gR r17.2 10 v0 9).bind fun x23 => (Row_card x23 v3 r17.2).bind fun x25 => some (x25, r17.2) else g (75, v2, v3, v4, (v5 + (1 : Int32)), v7, 0, v0, r17.2)
set_option maxHeartbeats 1000000 in
set_option maxRecDepth 100000 in
theorem Ways_fitting_20_m {g g2 : (Nat × Int32 × Int32 × Int32 × Int32 × Int32 × Int32 × Nat × am_H) → Option (Int32 × am_H)} (hg : ∀ s, Le (g s) (g2 s)) (v0 : Nat) (v2 : Int32) (v3 : Int32) (v4 : Int32) (v5 : Int32) (v6 : Int32) (v7 : Int32) (h : am_H) : Le (Ways_fitting_20_b g v0 v2 v3 v4 v5 v6 v7 h) (Ways_fitting_20_b g2 v0 v2 v3 v4 v5 v6 v7 h) := by unfold Ways_fitting_20_b; exact le_b (le_r _) fun x3 => le_b (le_r _) fun x5 => le_b (le_r _) fun x7 => le_i (le_r _) (le_i (le_r _) (le_b (le_r _) fun x13 => le_b (le_r _) fun x15 => le_b (le_r _) fun r17 => le_i (hg _) (le_i (le_r _) (hg _))))
set_option maxHeartbeats 1000000 in
set_option maxRecDepth 100000 in
noncomputable def Ways_fitting_75_b (g : (Nat × Int32 × Int32 × Int32 × Int32 × Int32 × Int32 × Nat × am_H) → Option (Int32 × am_H)) (v0 : Nat) (v2 : Int32) (v3 : Int32) (v4 : Int32) (v5 : Int32) (v7 : Int32) (h : am_H) : Option (Int32 × am_H) := (gR h 10 v0 9).bind fun x27 => (Row_advance x27 (0 : Int32) h).bind fun r29 => g (20, v2, v3, v4, v5, r29.1, (v7 + (1 : Int32)), v0, r29.2)
set_option maxHeartbeats 1000000 in
set_option maxRecDepth 100000 in
theorem Ways_fitting_75_m {g g2 : (Nat × Int32 × Int32 × Int32 × Int32 × Int32 × Int32 × Nat × am_H) → Option (Int32 × am_H)} (hg : ∀ s, Le (g s) (g2 s)) (v0 : Nat) (v2 : Int32) (v3 : Int32) (v4 : Int32) (v5 : Int32) (v7 : Int32) (h : am_H) : Le (Ways_fitting_75_b g v0 v2 v3 v4 v5 v7 h) (Ways_fitting_75_b g2 v0 v2 v3 v4 v5 v7 h) := by unfold Ways_fitting_75_b; exact le_b (le_r _) fun x27 => le_b (le_r _) fun r29 => hg _
noncomputable def Ways_fitting_20_F (g : (Nat × Int32 × Int32 × Int32 × Int32 × Int32 × Int32 × Nat × am_H) → Option (Int32 × am_H)) (s : (Nat × Int32 × Int32 × Int32 × Int32 × Int32 × Int32 × Nat × am_H)) : Option (Int32 × am_H) := if s.1 = 20 then Ways_fitting_20_b g s.2.2.2.2.2.2.2.1 s.2.1 s.2.2.1 s.2.2.2.1 s.2.2.2.2.1 s.2.2.2.2.2.1 s.2.2.2.2.2.2.1 s.2.2.2.2.2.2.2.2 else if s.1 = 75 then Ways_fitting_75_b g s.2.2.2.2.2.2.2.1 s.2.1 s.2.2.1 s.2.2.2.1 s.2.2.2.2.1 s.2.2.2.2.2.1 s.2.2.2.2.2.2.2.2 else none
theorem Ways_fitting_20_M : Mn Ways_fitting_20_F := fun g g2 hg s => by unfold Ways_fitting_20_F; exact le_i (Ways_fitting_20_m hg s.2.2.2.2.2.2.2.1 s.2.1 s.2.2.1 s.2.2.2.1 s.2.2.2.2.1 s.2.2.2.2.2.1 s.2.2.2.2.2.2.1 s.2.2.2.2.2.2.2.2) (le_i (Ways_fitting_75_m hg s.2.2.2.2.2.2.2.1 s.2.1 s.2.2.1 s.2.2.2.1 s.2.2.2.2.1 s.2.2.2.2.2.1 s.2.2.2.2.2.2.2.2) (le_r _))
def Ways_fitting_20_P (s : (Nat × Int32 × Int32 × Int32 × Int32 × Int32 × Int32 × Nat × am_H)) (r : (Int32 × am_H)) : Prop := (s.1 = 20 → Sx 6 mX10_fitting 20 [.ref s.2.2.2.2.2.2.2.1, .retAddr 0, .int s.2.1, .int s.2.2.1, .int s.2.2.2.1, .int s.2.2.2.2.1, .int s.2.2.2.2.2.1, .int s.2.2.2.2.2.2.1] [] s.2.2.2.2.2.2.2.2 (some (.int r.1)) r.2) ∧ (s.1 = 75 → Sx 6 mX10_fitting 75 [.ref s.2.2.2.2.2.2.2.1, .retAddr 0, .int s.2.1, .int s.2.2.1, .int s.2.2.2.1, .int s.2.2.2.2.1, .retAddr 0, .int s.2.2.2.2.2.1] [] s.2.2.2.2.2.2.2.2 (some (.int r.1)) r.2) ∧ True
set_option maxHeartbeats 1000000 in
set_option maxRecDepth 100000 in
theorem Ways_fitting_20_t {g : (Nat × Int32 × Int32 × Int32 × Int32 × Int32 × Int32 × Nat × am_H) → Option (Int32 × am_H)} (hg : ∀ s r, g s = some r → Ways_fitting_20_P s r) {v0 : Nat} {v2 : Int32} {v3 : Int32} {v4 : Int32} {v5 : Int32} {v6 : Int32} {v7 : Int32} {h : am_H} {r : (Int32 × am_H)} (hb : Ways_fitting_20_b g v0 v2 v3 v4 v5 v6 v7 h = some r) : Sx 6 mX10_fitting 20 [.ref v0, .retAddr 0, .int v2, .int v3, .int v4, .int v5, .int v6, .int v7] [] h (some (.int r.1)) r.2 := by
  unfold Ways_fitting_20_b at hb
  refine Sx.o (fun _ _ _ k => ex_iload dX10_fitting_20 rfl k) ?_
  refine Sx.o (fun _ _ _ k => ex_aload_n dX10_fitting_22 rfl rfl k) ?_
  obtain ⟨x3, e_x3, hb4⟩ := ob2 hb
  refine Sx.o (fun _ _ _ k => op_getR fX10_18 dX10_fitting_23 e_x3 k) ?_
  obtain ⟨x5, e_x5, hb6⟩ := ob2 hb4
  refine Sx.o (fun _ _ _ k => op_getI fX10_52 dX10_fitting_26 e_x5 k) ?_
  obtain ⟨x7, e_x7, hb8⟩ := ob2 hb6
  refine sx_callS (dc := 0) (as := [.int x5]) (stq := [.int x7, .int v7]) (by omega) dX10_fitting_29 MX10_rowsOf kX10_118 tX10_rowsOf rfl rfl (Nat.le_of_ble_eq_true rfl) (Nat.le_of_ble_eq_true rfl) (Ways_rowsOf_s e_x7) rfl ?_
  refine Sx.b (fun _ _ _ k1 k2 => ex_icmp_ge 91 dX10_fitting_32 (by decide) k1 k2) (fun q => ?_) (fun q => ?_)
  · have hb9 := ip q hb8
    refine Sx.fg [false, true, true, false, false, true, false, false] ?_
    exact Ways_fitting_91_s hb9
  · have hb10 := iq q hb8
    refine Sx.o (fun _ _ _ k => ex_iload dX10_fitting_35 rfl k) ?_
    refine Sx.b (fun _ _ _ k1 k2 => ex_if_eq 91 dX10_fitting_37 (by decide) k1 k2) (fun q => ?_) (fun q => ?_)
    · have hb11 := ip q hb10
      refine Sx.fg [false, true, true, false, false, true, false, false] ?_
      exact Ways_fitting_91_s hb11
    · have hb12 := iq q hb10
      refine Sx.o (fun _ _ _ k => ex_aload_n dX10_fitting_40 rfl rfl k) ?_
      refine Sx.o (fun _ _ _ k => ex_aload_n dX10_fitting_41 rfl rfl k) ?_
      refine Sx.o (fun _ _ _ k => ex_aload_n dX10_fitting_42 rfl rfl k) ?_
      obtain ⟨x13, e_x13, hb14⟩ := ob2 hb12
      refine Sx.o (fun _ _ _ k => op_getR fX10_22 dX10_fitting_43 e_x13 k) ?_
      obtain ⟨x15, e_x15, hb16⟩ := ob2 hb14
      refine sx_callV (dc := 1) (as := [.ref x13]) (stq := [.int x15, .ref v0]) (by omega) dX10_fitting_46 MX10_timeOf kX10_141 iX10_timeOf sX10_timeOf rfl rfl (Ways_timeOf_o e_x15) rfl rfl (Nat.le_of_ble_eq_true rfl) (Nat.le_of_ble_eq_true rfl) (Ways_timeOf_s e_x15) rfl ?_
      refine Sx.o (fun _ _ _ k => ex_iload dX10_fitting_49 rfl k) ?_
      obtain ⟨r17, e_r17, hb18⟩ := ob2 hb16
      refine sx_callV (dc := 5) (as := [.int x15, .int v4]) (stq := [.int r17.1]) (by omega) dX10_fitting_51 MX10_fitsSights kX10_200 iX10_fitsSights sX10_fitsSights rfl rfl (Ways_fitsSights_o e_r17) rfl rfl (Nat.le_of_ble_eq_true rfl) (Nat.le_of_ble_eq_true rfl) (Ways_fitsSights_s e_r17) rfl ?_
      refine Sx.b (fun _ _ _ k1 k2 => ex_if_eq 75 dX10_fitting_54 (by decide) k1 k2) (fun q => ?_) (fun q => ?_)
      · have hb19 := ip q hb18
        refine Sx.fg [true, true, true, true, true, true, false, true] ?_
        exact (hg _ _ hb19).2.1 rfl
      · have hb20 := iq q hb18
        refine Sx.o (fun _ _ _ k => ex_iload dX10_fitting_57 rfl k) ?_
        refine Sx.o (fun _ _ _ k => ex_iload_n dX10_fitting_59 rfl k) ?_
        refine Sx.bn (fun _ _ _ k1 k2 => ex_icmp_ne 72 dX10_fitting_60 (by decide) k1 k2) (fun q => ?_) (fun q => ?_)
        · have hb21 := iq q hb20
          refine Sx.o (L' := [.ref v0, .retAddr 0, .int v2, .int v3, .int v4, .int (v5 + (1 : Int32)), .int v6, .int v7]) (fun _ _ _ k => op_iinc (1 : Int32) dX10_fitting_72 (by decide) rfl (by decide) k) ?_
          refine Sx.fg [true, true, true, true, true, true, false, true] ?_
          exact (hg _ _ hb21).2.1 rfl
        · have hb22 := ip q hb20
          refine Sx.o (fun _ _ _ k => ex_aload_n dX10_fitting_63 rfl rfl k) ?_
          obtain ⟨x23, e_x23, hb24⟩ := ob2 hb22
          refine Sx.o (fun _ _ _ k => op_getR fX10_22 dX10_fitting_64 e_x23 k) ?_
          refine Sx.o (fun _ _ _ k => ex_iload_n dX10_fitting_67 rfl k) ?_
          obtain ⟨x25, e_x25, hb26⟩ := ob2 hb24
          refine sx_callV (dc := 0) (as := [.int v3]) (stq := [.int x25]) (by omega) dX10_fitting_68 MX4_card kX10_105 iX4_card sX4_card rfl rfl (Row_card_o e_x25) rfl rfl (Nat.le_of_ble_eq_true rfl) (Nat.le_of_ble_eq_true rfl) (Row_card_s e_x25) rfl ?_
          obtain rfl := Option.some.inj hb26
          exact Sx.r (fun _ _ _ k => ex_iret rfl dX10_fitting_71 k)
set_option maxHeartbeats 1000000 in
set_option maxRecDepth 100000 in
theorem Ways_fitting_75_t {g : (Nat × Int32 × Int32 × Int32 × Int32 × Int32 × Int32 × Nat × am_H) → Option (Int32 × am_H)} (hg : ∀ s r, g s = some r → Ways_fitting_20_P s r) {v0 : Nat} {v2 : Int32} {v3 : Int32} {v4 : Int32} {v5 : Int32} {v7 : Int32} {h : am_H} {r : (Int32 × am_H)} (hb : Ways_fitting_75_b g v0 v2 v3 v4 v5 v7 h = some r) : Sx 6 mX10_fitting 75 [.ref v0, .retAddr 0, .int v2, .int v3, .int v4, .int v5, .retAddr 0, .int v7] [] h (some (.int r.1)) r.2 := by
  unfold Ways_fitting_75_b at hb
  refine Sx.o (fun _ _ _ k => ex_aload_n dX10_fitting_75 rfl rfl k) ?_
  obtain ⟨x27, e_x27, hb28⟩ := ob2 hb
  refine Sx.o (fun _ _ _ k => op_getR fX10_22 dX10_fitting_76 e_x27 k) ?_
  refine Sx.o (fun _ _ _ k => op_iconst (0 : Int32) dX10_fitting_79 (by decide) k) ?_
  obtain ⟨r29, e_r29, hb30⟩ := ob2 hb28
  refine sx_callV (dc := 2) (as := [.int (0 : Int32)]) (stq := [.int r29.1]) (by omega) dX10_fitting_80 MX4_advance kX10_180 iX4_advance sX4_advance rfl rfl (Row_advance_o e_r29) rfl rfl (Nat.le_of_ble_eq_true rfl) (Nat.le_of_ble_eq_true rfl) (Row_advance_s e_r29) rfl ?_
  refine Sx.o (L' := [.ref v0, .retAddr 0, .int v2, .int v3, .int v4, .int v5, .int r29.1, .int v7]) (fun _ _ _ k => ex_istore dX10_fitting_83 (by decide) k) ?_
  refine Sx.o (L' := [.ref v0, .retAddr 0, .int v2, .int v3, .int v4, .int v5, .int r29.1, .int (v7 + (1 : Int32))]) (fun _ _ _ k => op_iinc (1 : Int32) dX10_fitting_85 (by decide) rfl (by decide) k) ?_
  refine Sx.o (fun _ _ _ k => ex_goto 20 dX10_fitting_88 (by decide) k) ?_
  exact (hg _ _ hb30).1 rfl
theorem Ways_fitting_20_T : ∀ s r, fx Ways_fitting_20_F Ways_fitting_20_M s = some r → Ways_fitting_20_P s r := fx_ind Ways_fitting_20_M Ways_fitting_20_P (fun g hg s r hb => by
  unfold Ways_fitting_20_F at hb
  exact ⟨fun q => Ways_fitting_20_t hg (ip q hb), fun q => Ways_fitting_75_t hg (ip q (iq (by rw [q]; decide) hb)), trivial⟩)
noncomputable def Ways_fitting_20 (v0 : Nat) (v2 : Int32) (v3 : Int32) (v4 : Int32) (v5 : Int32) (v6 : Int32) (v7 : Int32) (h : am_H) : Option (Int32 × am_H) := fx Ways_fitting_20_F Ways_fitting_20_M (20, v2, v3, v4, v5, v6, v7, v0, h)
noncomputable def Ways_fitting_75 (v0 : Nat) (v2 : Int32) (v3 : Int32) (v4 : Int32) (v5 : Int32) (v7 : Int32) (h : am_H) : Option (Int32 × am_H) := fx Ways_fitting_20_F Ways_fitting_20_M (75, v2, v3, v4, v5, v7, 0, v0, h)
set_option maxHeartbeats 1000000 in
set_option maxRecDepth 100000 in
theorem Ways_fitting_20_e (v0 : Nat) (v2 : Int32) (v3 : Int32) (v4 : Int32) (v5 : Int32) (v6 : Int32) (v7 : Int32) (h : am_H) : Ways_fitting_20 v0 v2 v3 v4 v5 v6 v7 h = ((gR h 10 v0 8).bind fun x3 => (gI h 4 x3 1).bind fun x5 => (Ways_rowsOf x5 h).bind fun x7 => if x7 ≤ v7 then Ways_fitting_91 v2 v5 h else if v6 = (0 : Int32) then Ways_fitting_91 v2 v5 h else (gR h 10 v0 9).bind fun x13 => (Ways_timeOf v0 x13 h).bind fun x15 => (Ways_fitsSights v0 x15 v4 h).bind fun r17 => if r17.1 = (0 : Int32) then Ways_fitting_75 v0 v2 v3 v4 v5 v7 r17.2 else if v5 = v2 then (gR r17.2 10 v0 9).bind fun x23 => (Row_card x23 v3 r17.2).bind fun x25 => some (x25, r17.2) else Ways_fitting_75 v0 v2 v3 v4 (v5 + (1 : Int32)) v7 r17.2) := (fx_eq Ways_fitting_20_M (20, v2, v3, v4, v5, v6, v7, v0, h)).trans (if_pos rfl)
theorem Ways_fitting_20_s {v0 : Nat} {v2 : Int32} {v3 : Int32} {v4 : Int32} {v5 : Int32} {v6 : Int32} {v7 : Int32} {h : am_H} {r : (Int32 × am_H)} (hb : Ways_fitting_20 v0 v2 v3 v4 v5 v6 v7 h = some r) : Sx 6 mX10_fitting 20 [.ref v0, .retAddr 0, .int v2, .int v3, .int v4, .int v5, .int v6, .int v7] [] h (some (.int r.1)) r.2 := (Ways_fitting_20_T _ _ hb).1 rfl
set_option maxHeartbeats 1000000 in
set_option maxRecDepth 100000 in
theorem Ways_fitting_75_e (v0 : Nat) (v2 : Int32) (v3 : Int32) (v4 : Int32) (v5 : Int32) (v7 : Int32) (h : am_H) : Ways_fitting_75 v0 v2 v3 v4 v5 v7 h = ((gR h 10 v0 9).bind fun x27 => (Row_advance x27 (0 : Int32) h).bind fun r29 => Ways_fitting_20 v0 v2 v3 v4 v5 r29.1 (v7 + (1 : Int32)) r29.2) := (fx_eq Ways_fitting_20_M (75, v2, v3, v4, v5, v7, 0, v0, h)).trans ((if_neg (show ¬ (75 : Nat) = 20 by decide)).trans (if_pos rfl))
theorem Ways_fitting_75_s {v0 : Nat} {v2 : Int32} {v3 : Int32} {v4 : Int32} {v5 : Int32} {v7 : Int32} {h : am_H} {r : (Int32 × am_H)} (hb : Ways_fitting_75 v0 v2 v3 v4 v5 v7 h = some r) : Sx 6 mX10_fitting 75 [.ref v0, .retAddr 0, .int v2, .int v3, .int v4, .int v5, .retAddr 0, .int v7] [] h (some (.int r.1)) r.2 := (Ways_fitting_20_T _ _ hb).2.1 rfl
set_option maxHeartbeats 1000000 in
set_option maxRecDepth 100000 in
noncomputable def Ways_fitting (v0 : Nat) (v1 : Nat) (v2 : Int32) (v3 : Int32) (h : am_H) : Option (Int32 × am_H) := if isO h 10 v0 = true then (Ways_start v0 v1 h).bind fun h31 => (Ways_wantSights v0 h31).bind fun r33 => Ways_fitting_20 v0 v2 v3 r33.1 (0 : Int32) (1 : Int32) (0 : Int32) r33.2 else none
set_option maxHeartbeats 1000000 in
set_option maxRecDepth 100000 in
theorem Ways_fitting_s {v0 : Nat} {v1 : Nat} {v2 : Int32} {v3 : Int32} {h : am_H} {r : (Int32 × am_H)} (hb : Ways_fitting v0 v1 v2 v3 h = some r) : Sx 6 mX10_fitting 0 (am_en [.ref v0, .ref v1, .int v2, .int v3] 8) [] h (some (.int r.1)) r.2 := by
  unfold Ways_fitting at hb
  have hb := (iz hb).2
  show Sx 6 mX10_fitting 0 [.ref v0, .ref v1, .int v2, .int v3, .retAddr 0, .retAddr 0, .retAddr 0, .retAddr 0] [] h (some (.int r.1)) r.2
  refine Sx.o (fun _ _ _ k => ex_aload_n dX10_fitting_0 rfl rfl k) ?_
  refine Sx.o (fun _ _ _ k => ex_aload_n dX10_fitting_1 rfl rfl k) ?_
  obtain ⟨h31, e_h31, hb32⟩ := ob2 hb
  refine sx_callV (dc := 3) (as := [.ref v1]) (stq := []) (by omega) dX10_fitting_2 MX10_start kX10_152 iX10_start sX10_start rfl rfl (Ways_start_o e_h31) rfl rfl (Nat.le_of_ble_eq_true rfl) (Nat.le_of_ble_eq_true rfl) (Ways_start_s e_h31) rfl ?_
  refine Sx.o (fun _ _ _ k => ex_aload_n dX10_fitting_5 rfl rfl k) ?_
  obtain ⟨r33, e_r33, hb34⟩ := ob2 hb32
  refine sx_callV (dc := 1) (as := []) (stq := [.int r33.1]) (by omega) dX10_fitting_6 MX10_wantSights kX10_196 iX10_wantSights sX10_wantSights rfl rfl (Ways_wantSights_o e_r33) rfl rfl (Nat.le_of_ble_eq_true rfl) (Nat.le_of_ble_eq_true rfl) (Ways_wantSights_s e_r33) rfl ?_
  refine Sx.o (L' := [.ref v0, .ref v1, .int v2, .int v3, .int r33.1, .retAddr 0, .retAddr 0, .retAddr 0]) (fun _ _ _ k => ex_istore dX10_fitting_9 (by decide) k) ?_
  refine Sx.o (fun _ _ _ k => op_iconst (0 : Int32) dX10_fitting_11 (by decide) k) ?_
  refine Sx.o (L' := [.ref v0, .ref v1, .int v2, .int v3, .int r33.1, .int (0 : Int32), .retAddr 0, .retAddr 0]) (fun _ _ _ k => ex_istore dX10_fitting_12 (by decide) k) ?_
  refine Sx.o (fun _ _ _ k => op_iconst (1 : Int32) dX10_fitting_14 (by decide) k) ?_
  refine Sx.o (L' := [.ref v0, .ref v1, .int v2, .int v3, .int r33.1, .int (0 : Int32), .int (1 : Int32), .retAddr 0]) (fun _ _ _ k => ex_istore dX10_fitting_15 (by decide) k) ?_
  refine Sx.o (fun _ _ _ k => op_iconst (0 : Int32) dX10_fitting_17 (by decide) k) ?_
  refine Sx.o (L' := [.ref v0, .ref v1, .int v2, .int v3, .int r33.1, .int (0 : Int32), .int (1 : Int32), .int (0 : Int32)]) (fun _ _ _ k => ex_istore dX10_fitting_18 (by decide) k) ?_
  refine Sx.fg [true, false, true, true, true, true, true, true] ?_
  exact Ways_fitting_20_s hb34
theorem Ways_fitting_o {v0 : Nat} {v1 : Nat} {v2 : Int32} {v3 : Int32} {h : am_H} {r : (Int32 × am_H)} (hb : Ways_fitting v0 v1 v2 v3 h = some r) : isO h 10 v0 = true := by
  unfold Ways_fitting at hb
  exact (iz hb).1
set_option maxHeartbeats 1000000 in
set_option maxRecDepth 100000 in
noncomputable def Ways_init (v0 : Nat) (v1 : Nat) (v2 : Nat) (h : am_H) : Option am_H := if isO h 10 v0 = true then (nA h 0 (4 : Int32)).bind fun h1 => (pV h1 10 v0 3 (.ref (List.length h))).bind fun h3 => (some (h3 ++ [.inr (4, [.null, .int 0, .int 0, .int 0, .int 0])])).bind fun h6 => (Row_init (List.length h3) h6).bind fun h8 => (pV h8 10 v0 8 (.ref (List.length h3))).bind fun h10 => (some (h10 ++ [.inr (4, [.null, .int 0, .int 0, .int 0, .int 0])])).bind fun h13 => (Row_init (List.length h10) h13).bind fun h15 => (pV h15 10 v0 9 (.ref (List.length h10))).bind fun h17 => (some (h17 ++ [.inr (4, [.null, .int 0, .int 0, .int 0, .int 0])])).bind fun h20 => (Row_init (List.length h17) h20).bind fun h22 => (pV h22 10 v0 10 (.ref (List.length h17))).bind fun h24 => (nA h24 0 (100 : Int32)).bind fun h27 => (pV h27 10 v0 11 (.ref (List.length h24))).bind fun h29 => (nA h29 0 (16 : Int32)).bind fun h32 => (pV h32 10 v0 12 (.ref (List.length h29))).bind fun h34 => (nA h34 0 (0 : Int32)).bind fun h37 => (pV h37 10 v0 16 (.ref (List.length h34))).bind fun h39 => (nA h39 0 (0 : Int32)).bind fun h42 => (pV h42 10 v0 17 (.ref (List.length h39))).bind fun h44 => (pV h44 10 v0 6 (.ref v1)).bind fun h47 => (pV h47 10 v0 7 (.ref v2)).bind fun h50 => some h50 else none
set_option maxHeartbeats 1000000 in
set_option maxRecDepth 100000 in
theorem Ways_init_s {v0 : Nat} {v1 : Nat} {v2 : Nat} {h : am_H} {r : am_H} (hb : Ways_init v0 v1 v2 h = some r) : Sx 2 mX10_init 0 (am_en [.ref v0, .ref v1, .ref v2] 3) [] h none r := by
  unfold Ways_init at hb
  have hb := (iz hb).2
  show Sx 2 mX10_init 0 [.ref v0, .ref v1, .ref v2] [] h none r
  refine Sx.o (fun _ _ _ k => ex_aload_n dX10_init_0 rfl rfl k) ?_
  refine Sx.o (fun _ _ _ k => op_obj (by omega) dX10_init_1 kX10_3 (Nat.le_of_ble_eq_true rfl) k) ?_
  refine Sx.o (fun _ _ _ k => ex_aload_n dX10_init_4 rfl rfl k) ?_
  refine Sx.o (fun _ _ _ k => op_iconst (4 : Int32) dX10_init_5 (by decide) k) ?_
  obtain ⟨h1, e_h1, hb2⟩ := ob2 hb
  refine sx_newa (t := 0) (fun _ _ _ N c1 c2 c3 kk => ex_newa0 a_int dX10_init_6 c1 c2 c3 kk) e_h1 ?_
  obtain ⟨h3, e_h3, hb4⟩ := ob2 hb2
  refine Sx.p (pV_q e_h3) (fun _ _ _ k => op_putF pX10_11 (fun r hr => by cases hr; rfl) rfl dX10_init_8 e_h3 (fun _ => rfl) (fun _ => rfl) k) ?_
  refine Sx.o (fun _ _ _ k => ex_aload_n dX10_init_11 rfl rfl k) ?_
  obtain ⟨h6, e_h6, hb7⟩ := ob2 hb4
  have e2_h6 := Option.some.inj e_h6
  refine Sx.nw (N := 5) rfl (fun _ _ _ k => ex_new nX10_15 dX10_init_12 k) ?_
  rw [e2_h6]
  refine Sx.o (fun _ _ _ k => ex_dup dX10_init_15 rfl k) ?_
  obtain ⟨h8, e_h8, hb9⟩ := ob2 hb7
  refine sx_callIN (as := []) (by omega) dX10_init_16 MX4_init rfl rfl kX10_17 iX4_init rfl rfl (Nat.le_of_ble_eq_true rfl) (Nat.le_of_ble_eq_true rfl) (Row_init_s e_h8) ?_
  obtain ⟨h10, e_h10, hb11⟩ := ob2 hb9
  refine Sx.p (pV_q e_h10) (fun _ _ _ k => op_putF pX10_18 (fun r hr => by cases hr; rfl) rfl dX10_init_19 e_h10 (fun _ => rfl) (fun _ => rfl) k) ?_
  refine Sx.o (fun _ _ _ k => ex_aload_n dX10_init_22 rfl rfl k) ?_
  obtain ⟨h13, e_h13, hb14⟩ := ob2 hb11
  have e2_h13 := Option.some.inj e_h13
  refine Sx.nw (N := 5) rfl (fun _ _ _ k => ex_new nX10_15 dX10_init_23 k) ?_
  rw [e2_h13]
  refine Sx.o (fun _ _ _ k => ex_dup dX10_init_26 rfl k) ?_
  obtain ⟨h15, e_h15, hb16⟩ := ob2 hb14
  refine sx_callIN (as := []) (by omega) dX10_init_27 MX4_init rfl rfl kX10_17 iX4_init rfl rfl (Nat.le_of_ble_eq_true rfl) (Nat.le_of_ble_eq_true rfl) (Row_init_s e_h15) ?_
  obtain ⟨h17, e_h17, hb18⟩ := ob2 hb16
  refine Sx.p (pV_q e_h17) (fun _ _ _ k => op_putF pX10_22 (fun r hr => by cases hr; rfl) rfl dX10_init_30 e_h17 (fun _ => rfl) (fun _ => rfl) k) ?_
  refine Sx.o (fun _ _ _ k => ex_aload_n dX10_init_33 rfl rfl k) ?_
  obtain ⟨h20, e_h20, hb21⟩ := ob2 hb18
  have e2_h20 := Option.some.inj e_h20
  refine Sx.nw (N := 5) rfl (fun _ _ _ k => ex_new nX10_15 dX10_init_34 k) ?_
  rw [e2_h20]
  refine Sx.o (fun _ _ _ k => ex_dup dX10_init_37 rfl k) ?_
  obtain ⟨h22, e_h22, hb23⟩ := ob2 hb21
  refine sx_callIN (as := []) (by omega) dX10_init_38 MX4_init rfl rfl kX10_17 iX4_init rfl rfl (Nat.le_of_ble_eq_true rfl) (Nat.le_of_ble_eq_true rfl) (Row_init_s e_h22) ?_
  obtain ⟨h24, e_h24, hb25⟩ := ob2 hb23
  refine Sx.p (pV_q e_h24) (fun _ _ _ k => op_putF pX10_25 (fun r hr => by cases hr; rfl) rfl dX10_init_41 e_h24 (fun _ => rfl) (fun _ => rfl) k) ?_
  refine Sx.o (fun _ _ _ k => ex_aload_n dX10_init_44 rfl rfl k) ?_
  refine Sx.o (fun _ _ _ k => op_bipush (100 : Int32) dX10_init_45 (by decide) k) ?_
  obtain ⟨h27, e_h27, hb28⟩ := ob2 hb25
  refine sx_newa (t := 0) (fun _ _ _ N c1 c2 c3 kk => ex_newa0 a_int dX10_init_47 c1 c2 c3 kk) e_h27 ?_
  obtain ⟨h29, e_h29, hb30⟩ := ob2 hb28
  refine Sx.p (pV_q e_h29) (fun _ _ _ k => op_putF pX10_28 (fun r hr => by cases hr; rfl) rfl dX10_init_49 e_h29 (fun _ => rfl) (fun _ => rfl) k) ?_
  refine Sx.o (fun _ _ _ k => ex_aload_n dX10_init_52 rfl rfl k) ?_
  refine Sx.o (fun _ _ _ k => op_bipush (16 : Int32) dX10_init_53 (by decide) k) ?_
  obtain ⟨h32, e_h32, hb33⟩ := ob2 hb30
  refine sx_newa (t := 0) (fun _ _ _ N c1 c2 c3 kk => ex_newa0 a_int dX10_init_55 c1 c2 c3 kk) e_h32 ?_
  obtain ⟨h34, e_h34, hb35⟩ := ob2 hb33
  refine Sx.p (pV_q e_h34) (fun _ _ _ k => op_putF pX10_31 (fun r hr => by cases hr; rfl) rfl dX10_init_57 e_h34 (fun _ => rfl) (fun _ => rfl) k) ?_
  refine Sx.o (fun _ _ _ k => ex_aload_n dX10_init_60 rfl rfl k) ?_
  refine Sx.o (fun _ _ _ k => op_iconst (0 : Int32) dX10_init_61 (by decide) k) ?_
  obtain ⟨h37, e_h37, hb38⟩ := ob2 hb35
  refine sx_newa (t := 0) (fun _ _ _ N c1 c2 c3 kk => ex_newa0 a_int dX10_init_62 c1 c2 c3 kk) e_h37 ?_
  obtain ⟨h39, e_h39, hb40⟩ := ob2 hb38
  refine Sx.p (pV_q e_h39) (fun _ _ _ k => op_put pX10_34 dX10_init_64 e_h39 (fun _ => rfl) (fun _ => rfl) k) ?_
  refine Sx.o (fun _ _ _ k => ex_aload_n dX10_init_67 rfl rfl k) ?_
  refine Sx.o (fun _ _ _ k => op_iconst (0 : Int32) dX10_init_68 (by decide) k) ?_
  obtain ⟨h42, e_h42, hb43⟩ := ob2 hb40
  refine sx_newa (t := 0) (fun _ _ _ N c1 c2 c3 kk => ex_newa0 a_int dX10_init_69 c1 c2 c3 kk) e_h42 ?_
  obtain ⟨h44, e_h44, hb45⟩ := ob2 hb43
  refine Sx.p (pV_q e_h44) (fun _ _ _ k => op_put pX10_37 dX10_init_71 e_h44 (fun _ => rfl) (fun _ => rfl) k) ?_
  refine Sx.o (fun _ _ _ k => ex_aload_n dX10_init_74 rfl rfl k) ?_
  refine Sx.o (fun _ _ _ k => ex_aload_n dX10_init_75 rfl rfl k) ?_
  obtain ⟨h47, e_h47, hb48⟩ := ob2 hb45
  refine Sx.p (pV_q e_h47) (fun _ _ _ k => op_putF pX10_40 (fun r hr => by cases hr; rfl) rfl dX10_init_76 e_h47 (fun _ => rfl) (fun _ => rfl) k) ?_
  refine Sx.o (fun _ _ _ k => ex_aload_n dX10_init_79 rfl rfl k) ?_
  refine Sx.o (fun _ _ _ k => ex_aload_n dX10_init_80 rfl rfl k) ?_
  obtain ⟨h50, e_h50, hb51⟩ := ob2 hb48
  refine Sx.p (pV_q e_h50) (fun _ _ _ k => op_putF pX10_44 (fun r hr => by cases hr; rfl) rfl dX10_init_81 e_h50 (fun _ => rfl) (fun _ => rfl) k) ?_
  obtain rfl := Option.some.inj hb51
  exact Sx.r (fun _ _ _ k => ex_vret rfl dX10_init_84 k)
theorem Ways_init_o {v0 : Nat} {v1 : Nat} {v2 : Nat} {h : am_H} {r : am_H} (hb : Ways_init v0 v1 v2 h = some r) : isO h 10 v0 = true := by
  unfold Ways_init at hb
  exact (iz hb).1
set_option maxHeartbeats 1000000 in
set_option maxRecDepth 100000 in
noncomputable def Ways_leading_119 (v2 : Int32) (v5 : Int32) (h : am_H) : Option (Int32 × am_H) := if v2 = (-1 : Int32) then some (v5, h) else some ((-1 : Int32), h)
set_option maxHeartbeats 1000000 in
set_option maxRecDepth 100000 in
theorem Ways_leading_119_s {v2 : Int32} {v5 : Int32} {h : am_H} {r : (Int32 × am_H)} (hb : Ways_leading_119 v2 v5 h = some r) : Sx 5 mX10_leading 119 [.retAddr 0, .retAddr 0, .int v2, .retAddr 0, .retAddr 0, .int v5, .retAddr 0, .retAddr 0, .retAddr 0] [] h (some (.int r.1)) r.2 := by
  unfold Ways_leading_119 at hb
  refine Sx.o (fun _ _ _ k => ex_iload_n dX10_leading_119 rfl k) ?_
  refine Sx.o (fun _ _ _ k => op_iconst (-1 : Int32) dX10_leading_120 (by decide) k) ?_
  refine Sx.bn (fun _ _ _ k1 k2 => ex_icmp_ne 129 dX10_leading_121 (by decide) k1 k2) (fun q => ?_) (fun q => ?_)
  · have hb1 := iq q hb
    refine Sx.o (fun _ _ _ k => op_iconst (-1 : Int32) dX10_leading_129 (by decide) k) ?_
    obtain rfl := Option.some.inj hb1
    exact Sx.r (fun _ _ _ k => ex_iret rfl dX10_leading_130 k)
  · have hb2 := ip q hb
    refine Sx.o (fun _ _ _ k => ex_iload dX10_leading_124 rfl k) ?_
    refine Sx.o (fun _ _ _ k => ex_goto 130 dX10_leading_126 (by decide) k) ?_
    obtain rfl := Option.some.inj hb2
    exact Sx.r (fun _ _ _ k => ex_iret rfl dX10_leading_130 k)
set_option maxHeartbeats 1000000 in
set_option maxRecDepth 100000 in
noncomputable def Ways_leading_30_b (g : (Nat × Int32 × Int32 × Int32 × Int32 × Int32 × Int32 × Nat × am_H) → Option (Int32 × am_H)) (v0 : Nat) (v2 : Int32) (v3 : Int32) (v4 : Int32) (v5 : Int32) (v6 : Int32) (v7 : Int32) (h : am_H) : Option (Int32 × am_H) := (gR h 10 v0 8).bind fun x3 => (gI h 4 x3 1).bind fun x5 => (Ways_rowsOf x5 h).bind fun x7 => if x7 ≤ v7 then Ways_leading_119 v2 v5 h else if v6 = (0 : Int32) then Ways_leading_119 v2 v5 h else (gR h 10 v0 9).bind fun x13 => (Ways_timeOf v0 x13 h).bind fun x15 => (Ways_follow v0 x15 h).bind fun r17 => if r17.1 < (0 : Int32) then g (103, v2, v3, v4, v5, v7, 0, v0, r17.2) else (gI r17.2 10 v0 15).bind fun x21 => (dvI r17.1 (if x21 < (1 : Int32) then (1 : Int32) else x21)).bind fun x23 => if x23 = v4 then if v5 = v2 then (gR r17.2 10 v0 9).bind fun x29 => (Row_card x29 v3 r17.2).bind fun x31 => some (x31, r17.2) else g (103, v2, v3, v4, (v5 + (1 : Int32)), v7, 0, v0, r17.2) else g (103, v2, v3, v4, v5, v7, 0, v0, r17.2)
set_option maxHeartbeats 1000000 in
set_option maxRecDepth 100000 in
theorem Ways_leading_30_m {g g2 : (Nat × Int32 × Int32 × Int32 × Int32 × Int32 × Int32 × Nat × am_H) → Option (Int32 × am_H)} (hg : ∀ s, Le (g s) (g2 s)) (v0 : Nat) (v2 : Int32) (v3 : Int32) (v4 : Int32) (v5 : Int32) (v6 : Int32) (v7 : Int32) (h : am_H) : Le (Ways_leading_30_b g v0 v2 v3 v4 v5 v6 v7 h) (Ways_leading_30_b g2 v0 v2 v3 v4 v5 v6 v7 h) := by unfold Ways_leading_30_b; exact le_b (le_r _) fun x3 => le_b (le_r _) fun x5 => le_b (le_r _) fun x7 => le_i (le_r _) (le_i (le_r _) (le_b (le_r _) fun x13 => le_b (le_r _) fun x15 => le_b (le_r _) fun r17 => le_i (hg _) (le_b (le_r _) fun x21 => le_b (le_r _) fun x23 => le_i (le_i (le_r _) (hg _)) (hg _))))
set_option maxHeartbeats 1000000 in
set_option maxRecDepth 100000 in
noncomputable def Ways_leading_103_b (g : (Nat × Int32 × Int32 × Int32 × Int32 × Int32 × Int32 × Nat × am_H) → Option (Int32 × am_H)) (v0 : Nat) (v2 : Int32) (v3 : Int32) (v4 : Int32) (v5 : Int32) (v7 : Int32) (h : am_H) : Option (Int32 × am_H) := (gR h 10 v0 9).bind fun x33 => (Row_advance x33 (0 : Int32) h).bind fun r35 => g (30, v2, v3, v4, v5, r35.1, (v7 + (1 : Int32)), v0, r35.2)
set_option maxHeartbeats 1000000 in
set_option maxRecDepth 100000 in
theorem Ways_leading_103_m {g g2 : (Nat × Int32 × Int32 × Int32 × Int32 × Int32 × Int32 × Nat × am_H) → Option (Int32 × am_H)} (hg : ∀ s, Le (g s) (g2 s)) (v0 : Nat) (v2 : Int32) (v3 : Int32) (v4 : Int32) (v5 : Int32) (v7 : Int32) (h : am_H) : Le (Ways_leading_103_b g v0 v2 v3 v4 v5 v7 h) (Ways_leading_103_b g2 v0 v2 v3 v4 v5 v7 h) := by unfold Ways_leading_103_b; exact le_b (le_r _) fun x33 => le_b (le_r _) fun r35 => hg _
noncomputable def Ways_leading_30_F (g : (Nat × Int32 × Int32 × Int32 × Int32 × Int32 × Int32 × Nat × am_H) → Option (Int32 × am_H)) (s : (Nat × Int32 × Int32 × Int32 × Int32 × Int32 × Int32 × Nat × am_H)) : Option (Int32 × am_H) := if s.1 = 30 then Ways_leading_30_b g s.2.2.2.2.2.2.2.1 s.2.1 s.2.2.1 s.2.2.2.1 s.2.2.2.2.1 s.2.2.2.2.2.1 s.2.2.2.2.2.2.1 s.2.2.2.2.2.2.2.2 else if s.1 = 103 then Ways_leading_103_b g s.2.2.2.2.2.2.2.1 s.2.1 s.2.2.1 s.2.2.2.1 s.2.2.2.2.1 s.2.2.2.2.2.1 s.2.2.2.2.2.2.2.2 else none
theorem Ways_leading_30_M : Mn Ways_leading_30_F := fun g g2 hg s => by unfold Ways_leading_30_F; exact le_i (Ways_leading_30_m hg s.2.2.2.2.2.2.2.1 s.2.1 s.2.2.1 s.2.2.2.1 s.2.2.2.2.1 s.2.2.2.2.2.1 s.2.2.2.2.2.2.1 s.2.2.2.2.2.2.2.2) (le_i (Ways_leading_103_m hg s.2.2.2.2.2.2.2.1 s.2.1 s.2.2.1 s.2.2.2.1 s.2.2.2.2.1 s.2.2.2.2.2.1 s.2.2.2.2.2.2.2.2) (le_r _))
def Ways_leading_30_P (s : (Nat × Int32 × Int32 × Int32 × Int32 × Int32 × Int32 × Nat × am_H)) (r : (Int32 × am_H)) : Prop := (s.1 = 30 → Sx 5 mX10_leading 30 [.ref s.2.2.2.2.2.2.2.1, .retAddr 0, .int s.2.1, .int s.2.2.1, .int s.2.2.2.1, .int s.2.2.2.2.1, .int s.2.2.2.2.2.1, .int s.2.2.2.2.2.2.1, .retAddr 0] [] s.2.2.2.2.2.2.2.2 (some (.int r.1)) r.2) ∧ (s.1 = 103 → Sx 5 mX10_leading 103 [.ref s.2.2.2.2.2.2.2.1, .retAddr 0, .int s.2.1, .int s.2.2.1, .int s.2.2.2.1, .int s.2.2.2.2.1, .retAddr 0, .int s.2.2.2.2.2.1, .retAddr 0] [] s.2.2.2.2.2.2.2.2 (some (.int r.1)) r.2) ∧ True
set_option maxHeartbeats 1000000 in
set_option maxRecDepth 100000 in
theorem Ways_leading_30_t {g : (Nat × Int32 × Int32 × Int32 × Int32 × Int32 × Int32 × Nat × am_H) → Option (Int32 × am_H)} (hg : ∀ s r, g s = some r → Ways_leading_30_P s r) {v0 : Nat} {v2 : Int32} {v3 : Int32} {v4 : Int32} {v5 : Int32} {v6 : Int32} {v7 : Int32} {h : am_H} {r : (Int32 × am_H)} (hb : Ways_leading_30_b g v0 v2 v3 v4 v5 v6 v7 h = some r) : Sx 5 mX10_leading 30 [.ref v0, .retAddr 0, .int v2, .int v3, .int v4, .int v5, .int v6, .int v7, .retAddr 0] [] h (some (.int r.1)) r.2 := by
  unfold Ways_leading_30_b at hb
  refine Sx.o (fun _ _ _ k => ex_iload dX10_leading_30 rfl k) ?_
  refine Sx.o (fun _ _ _ k => ex_aload_n dX10_leading_32 rfl rfl k) ?_
  obtain ⟨x3, e_x3, hb4⟩ := ob2 hb
  refine Sx.o (fun _ _ _ k => op_getR fX10_18 dX10_leading_33 e_x3 k) ?_
  obtain ⟨x5, e_x5, hb6⟩ := ob2 hb4
  refine Sx.o (fun _ _ _ k => op_getI fX10_52 dX10_leading_36 e_x5 k) ?_
  obtain ⟨x7, e_x7, hb8⟩ := ob2 hb6
  refine sx_callS (dc := 0) (as := [.int x5]) (stq := [.int x7, .int v7]) (by omega) dX10_leading_39 MX10_rowsOf kX10_118 tX10_rowsOf rfl rfl (Nat.le_of_ble_eq_true rfl) (Nat.le_of_ble_eq_true rfl) (Ways_rowsOf_s e_x7) rfl ?_
  refine Sx.b (fun _ _ _ k1 k2 => ex_icmp_ge 119 dX10_leading_42 (by decide) k1 k2) (fun q => ?_) (fun q => ?_)
  · have hb9 := ip q hb8
    refine Sx.fg [false, true, true, false, false, true, false, false, true] ?_
    exact Ways_leading_119_s hb9
  · have hb10 := iq q hb8
    refine Sx.o (fun _ _ _ k => ex_iload dX10_leading_45 rfl k) ?_
    refine Sx.b (fun _ _ _ k1 k2 => ex_if_eq 119 dX10_leading_47 (by decide) k1 k2) (fun q => ?_) (fun q => ?_)
    · have hb11 := ip q hb10
      refine Sx.fg [false, true, true, false, false, true, false, false, true] ?_
      exact Ways_leading_119_s hb11
    · have hb12 := iq q hb10
      refine Sx.o (fun _ _ _ k => ex_aload_n dX10_leading_50 rfl rfl k) ?_
      refine Sx.o (fun _ _ _ k => ex_aload_n dX10_leading_51 rfl rfl k) ?_
      refine Sx.o (fun _ _ _ k => ex_aload_n dX10_leading_52 rfl rfl k) ?_
      obtain ⟨x13, e_x13, hb14⟩ := ob2 hb12
      refine Sx.o (fun _ _ _ k => op_getR fX10_22 dX10_leading_53 e_x13 k) ?_
      obtain ⟨x15, e_x15, hb16⟩ := ob2 hb14
      refine sx_callV (dc := 1) (as := [.ref x13]) (stq := [.int x15, .ref v0]) (by omega) dX10_leading_56 MX10_timeOf kX10_141 iX10_timeOf sX10_timeOf rfl rfl (Ways_timeOf_o e_x15) rfl rfl (Nat.le_of_ble_eq_true rfl) (Nat.le_of_ble_eq_true rfl) (Ways_timeOf_s e_x15) rfl ?_
      obtain ⟨r17, e_r17, hb18⟩ := ob2 hb16
      refine sx_callV (dc := 4) (as := [.int x15]) (stq := [.int r17.1]) (by omega) dX10_leading_59 MX10_follow kX10_184 iX10_follow sX10_follow rfl rfl (Ways_follow_o e_r17) rfl rfl (Nat.le_of_ble_eq_true rfl) (Nat.le_of_ble_eq_true rfl) (Ways_follow_s e_r17) rfl ?_
      refine Sx.o (L' := [.ref v0, .retAddr 0, .int v2, .int v3, .int v4, .int v5, .int v6, .int v7, .int r17.1]) (fun _ _ _ k => ex_istore dX10_leading_62 (by decide) k) ?_
      refine Sx.o (fun _ _ _ k => ex_iload dX10_leading_64 rfl k) ?_
      refine Sx.b (fun _ _ _ k1 k2 => ex_if_lt 103 dX10_leading_66 (by decide) k1 k2) (fun q => ?_) (fun q => ?_)
      · have hb19 := ip q hb18
        refine Sx.fg [true, true, true, true, true, true, false, true, false] ?_
        exact (hg _ _ hb19).2.1 rfl
      · have hb20 := iq q hb18
        refine Sx.o (fun _ _ _ k => ex_iload dX10_leading_69 rfl k) ?_
        refine Sx.o (fun _ _ _ k => ex_aload_n dX10_leading_71 rfl rfl k) ?_
        obtain ⟨x21, e_x21, hb22⟩ := ob2 hb20
        refine Sx.o (fun _ _ _ k => op_getI fX10_75 dX10_leading_72 e_x21 k) ?_
        refine Sx.o (fun _ _ _ k => op_iconst (1 : Int32) dX10_leading_75 (by decide) k) ?_
        refine Sx.o (fun _ _ _ k => op_mmax (by omega) dX10_leading_76 kX10_62 (Nat.le_of_ble_eq_true rfl) k) ?_
        obtain ⟨x23, e_x23, hb24⟩ := ob2 hb22
        refine Sx.o (fun _ _ _ k => op_idiv dX10_leading_79 e_x23 k) ?_
        refine Sx.o (fun _ _ _ k => ex_iload dX10_leading_80 rfl k) ?_
        refine Sx.bn (fun _ _ _ k1 k2 => ex_icmp_ne 103 dX10_leading_82 (by decide) k1 k2) (fun q => ?_) (fun q => ?_)
        · have hb25 := iq q hb24
          refine Sx.fg [true, true, true, true, true, true, false, true, false] ?_
          exact (hg _ _ hb25).2.1 rfl
        · have hb26 := ip q hb24
          refine Sx.o (fun _ _ _ k => ex_iload dX10_leading_85 rfl k) ?_
          refine Sx.o (fun _ _ _ k => ex_iload_n dX10_leading_87 rfl k) ?_
          refine Sx.bn (fun _ _ _ k1 k2 => ex_icmp_ne 100 dX10_leading_88 (by decide) k1 k2) (fun q => ?_) (fun q => ?_)
          · have hb27 := iq q hb26
            refine Sx.o (L' := [.ref v0, .retAddr 0, .int v2, .int v3, .int v4, .int (v5 + (1 : Int32)), .int v6, .int v7, .int r17.1]) (fun _ _ _ k => op_iinc (1 : Int32) dX10_leading_100 (by decide) rfl (by decide) k) ?_
            refine Sx.fg [true, true, true, true, true, true, false, true, false] ?_
            exact (hg _ _ hb27).2.1 rfl
          · have hb28 := ip q hb26
            refine Sx.o (fun _ _ _ k => ex_aload_n dX10_leading_91 rfl rfl k) ?_
            obtain ⟨x29, e_x29, hb30⟩ := ob2 hb28
            refine Sx.o (fun _ _ _ k => op_getR fX10_22 dX10_leading_92 e_x29 k) ?_
            refine Sx.o (fun _ _ _ k => ex_iload_n dX10_leading_95 rfl k) ?_
            obtain ⟨x31, e_x31, hb32⟩ := ob2 hb30
            refine sx_callV (dc := 0) (as := [.int v3]) (stq := [.int x31]) (by omega) dX10_leading_96 MX4_card kX10_105 iX4_card sX4_card rfl rfl (Row_card_o e_x31) rfl rfl (Nat.le_of_ble_eq_true rfl) (Nat.le_of_ble_eq_true rfl) (Row_card_s e_x31) rfl ?_
            obtain rfl := Option.some.inj hb32
            exact Sx.r (fun _ _ _ k => ex_iret rfl dX10_leading_99 k)
set_option maxHeartbeats 1000000 in
set_option maxRecDepth 100000 in
theorem Ways_leading_103_t {g : (Nat × Int32 × Int32 × Int32 × Int32 × Int32 × Int32 × Nat × am_H) → Option (Int32 × am_H)} (hg : ∀ s r, g s = some r → Ways_leading_30_P s r) {v0 : Nat} {v2 : Int32} {v3 : Int32} {v4 : Int32} {v5 : Int32} {v7 : Int32} {h : am_H} {r : (Int32 × am_H)} (hb : Ways_leading_103_b g v0 v2 v3 v4 v5 v7 h = some r) : Sx 5 mX10_leading 103 [.ref v0, .retAddr 0, .int v2, .int v3, .int v4, .int v5, .retAddr 0, .int v7, .retAddr 0] [] h (some (.int r.1)) r.2 := by
  unfold Ways_leading_103_b at hb
  refine Sx.o (fun _ _ _ k => ex_aload_n dX10_leading_103 rfl rfl k) ?_
  obtain ⟨x33, e_x33, hb34⟩ := ob2 hb
  refine Sx.o (fun _ _ _ k => op_getR fX10_22 dX10_leading_104 e_x33 k) ?_
  refine Sx.o (fun _ _ _ k => op_iconst (0 : Int32) dX10_leading_107 (by decide) k) ?_
  obtain ⟨r35, e_r35, hb36⟩ := ob2 hb34
  refine sx_callV (dc := 2) (as := [.int (0 : Int32)]) (stq := [.int r35.1]) (by omega) dX10_leading_108 MX4_advance kX10_180 iX4_advance sX4_advance rfl rfl (Row_advance_o e_r35) rfl rfl (Nat.le_of_ble_eq_true rfl) (Nat.le_of_ble_eq_true rfl) (Row_advance_s e_r35) rfl ?_
  refine Sx.o (L' := [.ref v0, .retAddr 0, .int v2, .int v3, .int v4, .int v5, .int r35.1, .int v7, .retAddr 0]) (fun _ _ _ k => ex_istore dX10_leading_111 (by decide) k) ?_
  refine Sx.o (L' := [.ref v0, .retAddr 0, .int v2, .int v3, .int v4, .int v5, .int r35.1, .int (v7 + (1 : Int32)), .retAddr 0]) (fun _ _ _ k => op_iinc (1 : Int32) dX10_leading_113 (by decide) rfl (by decide) k) ?_
  refine Sx.o (fun _ _ _ k => ex_goto 30 dX10_leading_116 (by decide) k) ?_
  exact (hg _ _ hb36).1 rfl
theorem Ways_leading_30_T : ∀ s r, fx Ways_leading_30_F Ways_leading_30_M s = some r → Ways_leading_30_P s r := fx_ind Ways_leading_30_M Ways_leading_30_P (fun g hg s r hb => by
  unfold Ways_leading_30_F at hb
  exact ⟨fun q => Ways_leading_30_t hg (ip q hb), fun q => Ways_leading_103_t hg (ip q (iq (by rw [q]; decide) hb)), trivial⟩)
noncomputable def Ways_leading_30 (v0 : Nat) (v2 : Int32) (v3 : Int32) (v4 : Int32) (v5 : Int32) (v6 : Int32) (v7 : Int32) (h : am_H) : Option (Int32 × am_H) := fx Ways_leading_30_F Ways_leading_30_M (30, v2, v3, v4, v5, v6, v7, v0, h)
noncomputable def Ways_leading_103 (v0 : Nat) (v2 : Int32) (v3 : Int32) (v4 : Int32) (v5 : Int32) (v7 : Int32) (h : am_H) : Option (Int32 × am_H) := fx Ways_leading_30_F Ways_leading_30_M (103, v2, v3, v4, v5, v7, 0, v0, h)
set_option maxHeartbeats 1000000 in
set_option maxRecDepth 100000 in
theorem Ways_leading_30_e (v0 : Nat) (v2 : Int32) (v3 : Int32) (v4 : Int32) (v5 : Int32) (v6 : Int32) (v7 : Int32) (h : am_H) : Ways_leading_30 v0 v2 v3 v4 v5 v6 v7 h = ((gR h 10 v0 8).bind fun x3 => (gI h 4 x3 1).bind fun x5 => (Ways_rowsOf x5 h).bind fun x7 => if x7 ≤ v7 then Ways_leading_119 v2 v5 h else if v6 = (0 : Int32) then Ways_leading_119 v2 v5 h else (gR h 10 v0 9).bind fun x13 => (Ways_timeOf v0 x13 h).bind fun x15 => (Ways_follow v0 x15 h).bind fun r17 => if r17.1 < (0 : Int32) then Ways_leading_103 v0 v2 v3 v4 v5 v7 r17.2 else (gI r17.2 10 v0 15).bind fun x21 => (dvI r17.1 (if x21 < (1 : Int32) then (1 : Int32) else x21)).bind fun x23 => if x23 = v4 then if v5 = v2 then (gR r17.2 10 v0 9).bind fun x29 => (Row_card x29 v3 r17.2).bind fun x31 => some (x31, r17.2) else Ways_leading_103 v0 v2 v3 v4 (v5 + (1 : Int32)) v7 r17.2 else Ways_leading_103 v0 v2 v3 v4 v5 v7 r17.2) := (fx_eq Ways_leading_30_M (30, v2, v3, v4, v5, v6, v7, v0, h)).trans (if_pos rfl)
theorem Ways_leading_30_s {v0 : Nat} {v2 : Int32} {v3 : Int32} {v4 : Int32} {v5 : Int32} {v6 : Int32} {v7 : Int32} {h : am_H} {r : (Int32 × am_H)} (hb : Ways_leading_30 v0 v2 v3 v4 v5 v6 v7 h = some r) : Sx 5 mX10_leading 30 [.ref v0, .retAddr 0, .int v2, .int v3, .int v4, .int v5, .int v6, .int v7, .retAddr 0] [] h (some (.int r.1)) r.2 := (Ways_leading_30_T _ _ hb).1 rfl
set_option maxHeartbeats 1000000 in
set_option maxRecDepth 100000 in
theorem Ways_leading_103_e (v0 : Nat) (v2 : Int32) (v3 : Int32) (v4 : Int32) (v5 : Int32) (v7 : Int32) (h : am_H) : Ways_leading_103 v0 v2 v3 v4 v5 v7 h = ((gR h 10 v0 9).bind fun x33 => (Row_advance x33 (0 : Int32) h).bind fun r35 => Ways_leading_30 v0 v2 v3 v4 v5 r35.1 (v7 + (1 : Int32)) r35.2) := (fx_eq Ways_leading_30_M (103, v2, v3, v4, v5, v7, 0, v0, h)).trans ((if_neg (show ¬ (103 : Nat) = 30 by decide)).trans (if_pos rfl))
theorem Ways_leading_103_s {v0 : Nat} {v2 : Int32} {v3 : Int32} {v4 : Int32} {v5 : Int32} {v7 : Int32} {h : am_H} {r : (Int32 × am_H)} (hb : Ways_leading_103 v0 v2 v3 v4 v5 v7 h = some r) : Sx 5 mX10_leading 103 [.ref v0, .retAddr 0, .int v2, .int v3, .int v4, .int v5, .retAddr 0, .int v7, .retAddr 0] [] h (some (.int r.1)) r.2 := (Ways_leading_30_T _ _ hb).2.1 rfl
set_option maxHeartbeats 1000000 in
set_option maxRecDepth 100000 in
noncomputable def Ways_leading (v0 : Nat) (v1 : Nat) (v2 : Int32) (v3 : Int32) (h : am_H) : Option (Int32 × am_H) := if isO h 10 v0 = true then (Ways_start v0 v1 h).bind fun h37 => (Ways_timeOf v0 v1 h37).bind fun x39 => (gI h37 10 v0 15).bind fun x41 => (dvI x39 (if x41 < (1 : Int32) then (1 : Int32) else x41)).bind fun x43 => Ways_leading_30 v0 v2 v3 x43 (0 : Int32) (1 : Int32) (0 : Int32) h37 else none
set_option maxHeartbeats 1000000 in
set_option maxRecDepth 100000 in
theorem Ways_leading_s {v0 : Nat} {v1 : Nat} {v2 : Int32} {v3 : Int32} {h : am_H} {r : (Int32 × am_H)} (hb : Ways_leading v0 v1 v2 v3 h = some r) : Sx 5 mX10_leading 0 (am_en [.ref v0, .ref v1, .int v2, .int v3] 9) [] h (some (.int r.1)) r.2 := by
  unfold Ways_leading at hb
  have hb := (iz hb).2
  show Sx 5 mX10_leading 0 [.ref v0, .ref v1, .int v2, .int v3, .retAddr 0, .retAddr 0, .retAddr 0, .retAddr 0, .retAddr 0] [] h (some (.int r.1)) r.2
  refine Sx.o (fun _ _ _ k => ex_aload_n dX10_leading_0 rfl rfl k) ?_
  refine Sx.o (fun _ _ _ k => ex_aload_n dX10_leading_1 rfl rfl k) ?_
  obtain ⟨h37, e_h37, hb38⟩ := ob2 hb
  refine sx_callV (dc := 3) (as := [.ref v1]) (stq := []) (by omega) dX10_leading_2 MX10_start kX10_152 iX10_start sX10_start rfl rfl (Ways_start_o e_h37) rfl rfl (Nat.le_of_ble_eq_true rfl) (Nat.le_of_ble_eq_true rfl) (Ways_start_s e_h37) rfl ?_
  refine Sx.o (fun _ _ _ k => ex_aload_n dX10_leading_5 rfl rfl k) ?_
  refine Sx.o (fun _ _ _ k => ex_aload_n dX10_leading_6 rfl rfl k) ?_
  obtain ⟨x39, e_x39, hb40⟩ := ob2 hb38
  refine sx_callV (dc := 1) (as := [.ref v1]) (stq := [.int x39]) (by omega) dX10_leading_7 MX10_timeOf kX10_141 iX10_timeOf sX10_timeOf rfl rfl (Ways_timeOf_o e_x39) rfl rfl (Nat.le_of_ble_eq_true rfl) (Nat.le_of_ble_eq_true rfl) (Ways_timeOf_s e_x39) rfl ?_
  refine Sx.o (fun _ _ _ k => ex_aload_n dX10_leading_10 rfl rfl k) ?_
  obtain ⟨x41, e_x41, hb42⟩ := ob2 hb40
  refine Sx.o (fun _ _ _ k => op_getI fX10_75 dX10_leading_11 e_x41 k) ?_
  refine Sx.o (fun _ _ _ k => op_iconst (1 : Int32) dX10_leading_14 (by decide) k) ?_
  refine Sx.o (fun _ _ _ k => op_mmax (by omega) dX10_leading_15 kX10_62 (Nat.le_of_ble_eq_true rfl) k) ?_
  obtain ⟨x43, e_x43, hb44⟩ := ob2 hb42
  refine Sx.o (fun _ _ _ k => op_idiv dX10_leading_18 e_x43 k) ?_
  refine Sx.o (L' := [.ref v0, .ref v1, .int v2, .int v3, .int x43, .retAddr 0, .retAddr 0, .retAddr 0, .retAddr 0]) (fun _ _ _ k => ex_istore dX10_leading_19 (by decide) k) ?_
  refine Sx.o (fun _ _ _ k => op_iconst (0 : Int32) dX10_leading_21 (by decide) k) ?_
  refine Sx.o (L' := [.ref v0, .ref v1, .int v2, .int v3, .int x43, .int (0 : Int32), .retAddr 0, .retAddr 0, .retAddr 0]) (fun _ _ _ k => ex_istore dX10_leading_22 (by decide) k) ?_
  refine Sx.o (fun _ _ _ k => op_iconst (1 : Int32) dX10_leading_24 (by decide) k) ?_
  refine Sx.o (L' := [.ref v0, .ref v1, .int v2, .int v3, .int x43, .int (0 : Int32), .int (1 : Int32), .retAddr 0, .retAddr 0]) (fun _ _ _ k => ex_istore dX10_leading_25 (by decide) k) ?_
  refine Sx.o (fun _ _ _ k => op_iconst (0 : Int32) dX10_leading_27 (by decide) k) ?_
  refine Sx.o (L' := [.ref v0, .ref v1, .int v2, .int v3, .int x43, .int (0 : Int32), .int (1 : Int32), .int (0 : Int32), .retAddr 0]) (fun _ _ _ k => ex_istore dX10_leading_28 (by decide) k) ?_
  refine Sx.fg [true, false, true, true, true, true, true, true, true] ?_
  exact Ways_leading_30_s hb44
theorem Ways_leading_o {v0 : Nat} {v1 : Nat} {v2 : Int32} {v3 : Int32} {h : am_H} {r : (Int32 × am_H)} (hb : Ways_leading v0 v1 v2 v3 h = some r) : isO h 10 v0 = true := by
  unfold Ways_leading at hb
  exact (iz hb).1
set_option maxHeartbeats 1000000 in
set_option maxRecDepth 100000 in
noncomputable def Ways_tally_24 (v0 : Nat) (h : am_H) : Option am_H := (gR h 10 v0 3).bind fun x1 => (aI h 0 x1 (2 : Int32)).bind fun x3 => (sI h x1 (2 : Int32) (x3 + (1 : Int32))).bind fun h5 => some h5
set_option maxHeartbeats 1000000 in
set_option maxRecDepth 100000 in
theorem Ways_tally_24_s {v0 : Nat} {h : am_H} {r : am_H} (hb : Ways_tally_24 v0 h = some r) : Sx 0 mX10_tally 24 [.ref v0, .retAddr 0, .retAddr 0, .retAddr 0, .retAddr 0] [] h none r := by
  unfold Ways_tally_24 at hb
  refine Sx.o (fun _ _ _ k => ex_aload_n dX10_tally_24 rfl rfl k) ?_
  obtain ⟨x1, e_x1, hb2⟩ := ob2 hb
  refine Sx.o (fun _ _ _ k => op_getR fX10_11 dX10_tally_25 e_x1 k) ?_
  refine Sx.o (fun _ _ _ k => op_iconst (2 : Int32) dX10_tally_28 (by decide) k) ?_
  refine Sx.o (fun _ _ _ k => ex_dup2 dX10_tally_29 rfl rfl k) ?_
  obtain ⟨x3, e_x3, hb4⟩ := ob2 hb2
  refine Sx.o (fun _ _ _ k => op_iald dX10_tally_30 e_x3 k) ?_
  refine Sx.o (fun _ _ _ k => op_iconst (1 : Int32) dX10_tally_31 (by decide) k) ?_
  refine Sx.o (fun _ _ _ k => ex_iadd dX10_tally_32 k) ?_
  obtain ⟨h5, e_h5, hb6⟩ := ob2 hb4
  refine Sx.p (sI_q e_h5) (fun _ _ _ k => op_iast dX10_tally_33 e_h5 k) ?_
  refine Sx.o (fun _ _ _ k => ex_goto 131 dX10_tally_34 (by decide) k) ?_
  obtain rfl := Option.some.inj hb6
  exact Sx.r (fun _ _ _ k => ex_vret rfl dX10_tally_131 k)
set_option maxHeartbeats 1000000 in
set_option maxRecDepth 100000 in
theorem Ways_tally_24_q {v0 : Nat} {h : am_H} {r : am_H} (hb : Ways_tally_24 v0 h = some r) : Eqs h r := by
  unfold Ways_tally_24 at hb
  have w0 := Eqs.rf h
  obtain ⟨x1, e_x1, hb2⟩ := ob2 hb
  obtain ⟨x3, e_x3, hb4⟩ := ob2 hb2
  obtain ⟨h5, e_h5, hb6⟩ := ob2 hb4
  have w7 := w0.tr (sI_q e_h5)
  obtain rfl := Option.some.inj hb6
  exact w7
set_option maxHeartbeats 1000000 in
set_option maxRecDepth 100000 in
noncomputable def Ways_tally_127 (s0 : Int32) (s1 : Int32) (s2 : Nat) (h : am_H) : Option am_H := (pV h 10 s2 1 (.int (s1 + s0))).bind fun h8 => some h8
set_option maxHeartbeats 1000000 in
set_option maxRecDepth 100000 in
theorem Ways_tally_127_s {s0 : Int32} {s1 : Int32} {s2 : Nat} {h : am_H} {r : am_H} (hb : Ways_tally_127 s0 s1 s2 h = some r) : Sx 0 mX10_tally 127 [.retAddr 0, .retAddr 0, .retAddr 0, .retAddr 0, .retAddr 0] [.int s0, .int s1, .ref s2] h none r := by
  unfold Ways_tally_127 at hb
  refine Sx.o (fun _ _ _ k => ex_iadd dX10_tally_127 k) ?_
  obtain ⟨h8, e_h8, hb9⟩ := ob2 hb
  refine Sx.p (pV_q e_h8) (fun _ _ _ k => op_put pX10_161 dX10_tally_128 e_h8 (fun _ => rfl) (fun _ => rfl) k) ?_
  obtain rfl := Option.some.inj hb9
  exact Sx.r (fun _ _ _ k => ex_vret rfl dX10_tally_131 k)
set_option maxHeartbeats 1000000 in
set_option maxRecDepth 100000 in
theorem Ways_tally_127_q {s0 : Int32} {s1 : Int32} {s2 : Nat} {h : am_H} {r : am_H} (hb : Ways_tally_127 s0 s1 s2 h = some r) : Eqs h r := by
  unfold Ways_tally_127 at hb
  have w0 := Eqs.rf h
  obtain ⟨h8, e_h8, hb9⟩ := ob2 hb
  have w10 := w0.tr (pV_q e_h8)
  obtain rfl := Option.some.inj hb9
  exact w10
set_option maxHeartbeats 1000000 in
set_option maxRecDepth 100000 in
noncomputable def Ways_tally_109 (v0 : Nat) (v3 : Int32) (h : am_H) : Option am_H := (gI h 10 v0 1).bind fun x11 => (gI h 10 v0 0).bind fun x13 => if v3 = x13 then Ways_tally_127 (1 : Int32) x11 v0 h else Ways_tally_127 (0 : Int32) x11 v0 h
set_option maxHeartbeats 1000000 in
set_option maxRecDepth 100000 in
theorem Ways_tally_109_s {v0 : Nat} {v3 : Int32} {h : am_H} {r : am_H} (hb : Ways_tally_109 v0 v3 h = some r) : Sx 0 mX10_tally 109 [.ref v0, .retAddr 0, .retAddr 0, .int v3, .retAddr 0] [] h none r := by
  unfold Ways_tally_109 at hb
  refine Sx.o (fun _ _ _ k => ex_aload_n dX10_tally_109 rfl rfl k) ?_
  refine Sx.o (fun _ _ _ k => ex_dup dX10_tally_110 rfl k) ?_
  obtain ⟨x11, e_x11, hb12⟩ := ob2 hb
  refine Sx.o (fun _ _ _ k => op_getI fX10_161 dX10_tally_111 e_x11 k) ?_
  refine Sx.o (fun _ _ _ k => ex_iload_n dX10_tally_114 rfl k) ?_
  refine Sx.o (fun _ _ _ k => ex_aload_n dX10_tally_115 rfl rfl k) ?_
  obtain ⟨x13, e_x13, hb14⟩ := ob2 hb12
  refine Sx.o (fun _ _ _ k => op_getI fX10_158 dX10_tally_116 e_x13 k) ?_
  refine Sx.bn (fun _ _ _ k1 k2 => ex_icmp_ne 126 dX10_tally_119 (by decide) k1 k2) (fun q => ?_) (fun q => ?_)
  · have hb15 := iq q hb14
    refine Sx.o (fun _ _ _ k => op_iconst (0 : Int32) dX10_tally_126 (by decide) k) ?_
    refine Sx.fg [false, true, true, false, true] ?_
    exact Ways_tally_127_s hb15
  · have hb16 := ip q hb14
    refine Sx.o (fun _ _ _ k => op_iconst (1 : Int32) dX10_tally_122 (by decide) k) ?_
    refine Sx.o (fun _ _ _ k => ex_goto 127 dX10_tally_123 (by decide) k) ?_
    refine Sx.fg [false, true, true, false, true] ?_
    exact Ways_tally_127_s hb16
set_option maxHeartbeats 1000000 in
set_option maxRecDepth 100000 in
theorem Ways_tally_109_q {v0 : Nat} {v3 : Int32} {h : am_H} {r : am_H} (hb : Ways_tally_109 v0 v3 h = some r) : Eqs h r := by
  unfold Ways_tally_109 at hb
  have w0 := Eqs.rf h
  obtain ⟨x11, e_x11, hb12⟩ := ob2 hb
  obtain ⟨x13, e_x13, hb14⟩ := ob2 hb12
  by_cases q : v3 = x13
  · have hb16 := ip q hb14
    exact w0.tr (Ways_tally_127_q hb16)
  · have hb15 := iq q hb14
    exact w0.tr (Ways_tally_127_q hb15)
set_option maxHeartbeats 1000000 in
set_option maxRecDepth 100000 in
noncomputable def Ways_tally_84 (v0 : Nat) (v1 : Int32) (v3 : Int32) (s0 : Int32) (s1 : Int32) (s2 : Int32) (s3 : Nat) (h : am_H) : Option am_H := (sI h s3 s2 (s1 + s0)).bind fun h17 => (gI h17 10 v0 0).bind fun x20 => if v3 ≤ x20 then Ways_tally_109 v0 v3 h17 else (pV h17 10 v0 0 (.int v3)).bind fun h24 => (pV h24 10 v0 1 (.int (0 : Int32))).bind fun h27 => (pV h27 10 v0 2 (.int v1)).bind fun h30 => Ways_tally_109 v0 v3 h30
set_option maxHeartbeats 1000000 in
set_option maxRecDepth 100000 in
theorem Ways_tally_84_s {v0 : Nat} {v1 : Int32} {v3 : Int32} {s0 : Int32} {s1 : Int32} {s2 : Int32} {s3 : Nat} {h : am_H} {r : am_H} (hb : Ways_tally_84 v0 v1 v3 s0 s1 s2 s3 h = some r) : Sx 0 mX10_tally 84 [.ref v0, .int v1, .retAddr 0, .int v3, .retAddr 0] [.int s0, .int s1, .int s2, .ref s3] h none r := by
  unfold Ways_tally_84 at hb
  refine Sx.o (fun _ _ _ k => ex_iadd dX10_tally_84 k) ?_
  obtain ⟨h17, e_h17, hb18⟩ := ob2 hb
  refine Sx.p (sI_q e_h17) (fun _ _ _ k => op_iast dX10_tally_85 e_h17 k) ?_
  refine Sx.o (fun _ _ _ k => ex_iload_n dX10_tally_86 rfl k) ?_
  refine Sx.o (fun _ _ _ k => ex_aload_n dX10_tally_87 rfl rfl k) ?_
  obtain ⟨x20, e_x20, hb21⟩ := ob2 hb18
  refine Sx.o (fun _ _ _ k => op_getI fX10_158 dX10_tally_88 e_x20 k) ?_
  refine Sx.b (fun _ _ _ k1 k2 => ex_icmp_le 109 dX10_tally_91 (by decide) k1 k2) (fun q => ?_) (fun q => ?_)
  · have hb22 := ip q hb21
    refine Sx.fg [true, false, true, true, true] ?_
    exact Ways_tally_109_s hb22
  · have hb23 := iq q hb21
    refine Sx.o (fun _ _ _ k => ex_aload_n dX10_tally_94 rfl rfl k) ?_
    refine Sx.o (fun _ _ _ k => ex_iload_n dX10_tally_95 rfl k) ?_
    obtain ⟨h24, e_h24, hb25⟩ := ob2 hb23
    refine Sx.p (pV_q e_h24) (fun _ _ _ k => op_put pX10_158 dX10_tally_96 e_h24 (fun _ => rfl) (fun _ => rfl) k) ?_
    refine Sx.o (fun _ _ _ k => ex_aload_n dX10_tally_99 rfl rfl k) ?_
    refine Sx.o (fun _ _ _ k => op_iconst (0 : Int32) dX10_tally_100 (by decide) k) ?_
    obtain ⟨h27, e_h27, hb28⟩ := ob2 hb25
    refine Sx.p (pV_q e_h27) (fun _ _ _ k => op_put pX10_161 dX10_tally_101 e_h27 (fun _ => rfl) (fun _ => rfl) k) ?_
    refine Sx.o (fun _ _ _ k => ex_aload_n dX10_tally_104 rfl rfl k) ?_
    refine Sx.o (fun _ _ _ k => ex_iload_n dX10_tally_105 rfl k) ?_
    obtain ⟨h30, e_h30, hb31⟩ := ob2 hb28
    refine Sx.p (pV_q e_h30) (fun _ _ _ k => op_put pX10_164 dX10_tally_106 e_h30 (fun _ => rfl) (fun _ => rfl) k) ?_
    refine Sx.fg [true, false, true, true, true] ?_
    exact Ways_tally_109_s hb31
set_option maxHeartbeats 1000000 in
set_option maxRecDepth 100000 in
theorem Ways_tally_84_q {v0 : Nat} {v1 : Int32} {v3 : Int32} {s0 : Int32} {s1 : Int32} {s2 : Int32} {s3 : Nat} {h : am_H} {r : am_H} (hb : Ways_tally_84 v0 v1 v3 s0 s1 s2 s3 h = some r) : Eqs h r := by
  unfold Ways_tally_84 at hb
  have w0 := Eqs.rf h
  obtain ⟨h17, e_h17, hb18⟩ := ob2 hb
  have w19 := w0.tr (sI_q e_h17)
  obtain ⟨x20, e_x20, hb21⟩ := ob2 hb18
  by_cases q : v3 ≤ x20
  · have hb22 := ip q hb21
    exact w19.tr (Ways_tally_109_q hb22)
  · have hb23 := iq q hb21
    obtain ⟨h24, e_h24, hb25⟩ := ob2 hb23
    have w26 := w19.tr (pV_q e_h24)
    obtain ⟨h27, e_h27, hb28⟩ := ob2 hb25
    have w29 := w26.tr (pV_q e_h27)
    obtain ⟨h30, e_h30, hb31⟩ := ob2 hb28
    have w32 := w29.tr (pV_q e_h30)
    exact w32.tr (Ways_tally_109_q hb31)
set_option maxHeartbeats 1000000 in
set_option maxRecDepth 100000 in
noncomputable def Ways_tally (v0 : Nat) (v1 : Int32) (v2 : Int32) (h : am_H) : Option am_H := if isO h 10 v0 = true then (dvI v2 (4 : Int32)).bind fun x33 => (rmI v2 (4 : Int32)).bind fun x35 => if v2 < (0 : Int32) then Ways_tally_24 v0 h else (gR h 10 v0 6).bind fun x39 => (gI h 7 x39 5).bind fun x41 => if x33 ≤ x41 then if x35 = (3 : Int32) then (gR h 10 v0 3).bind fun x60 => (aI h 0 x60 (1 : Int32)).bind fun x62 => (sI h x60 (1 : Int32) (x62 + (1 : Int32))).bind fun h64 => some h64 else (gR h 10 v0 3).bind fun x47 => (aI h 0 x47 (0 : Int32)).bind fun x49 => (sI h x47 (0 : Int32) (x49 + (1 : Int32))).bind fun h51 => (gR h51 10 v0 3).bind fun x54 => (aI h51 0 x54 (3 : Int32)).bind fun x56 => if x35 = (2 : Int32) then Ways_tally_84 v0 v1 x33 (1 : Int32) x56 (3 : Int32) x54 h51 else Ways_tally_84 v0 v1 x33 (0 : Int32) x56 (3 : Int32) x54 h51 else Ways_tally_24 v0 h else none
set_option maxHeartbeats 1000000 in
set_option maxRecDepth 100000 in
theorem Ways_tally_s {v0 : Nat} {v1 : Int32} {v2 : Int32} {h : am_H} {r : am_H} (hb : Ways_tally v0 v1 v2 h = some r) : Sx 0 mX10_tally 0 (am_en [.ref v0, .int v1, .int v2] 5) [] h none r := by
  unfold Ways_tally at hb
  have hb := (iz hb).2
  show Sx 0 mX10_tally 0 [.ref v0, .int v1, .int v2, .retAddr 0, .retAddr 0] [] h none r
  refine Sx.o (fun _ _ _ k => ex_iload_n dX10_tally_0 rfl k) ?_
  refine Sx.o (fun _ _ _ k => op_iconst (4 : Int32) dX10_tally_1 (by decide) k) ?_
  obtain ⟨x33, e_x33, hb34⟩ := ob2 hb
  refine Sx.o (fun _ _ _ k => op_idiv dX10_tally_2 e_x33 k) ?_
  refine Sx.o (L' := [.ref v0, .int v1, .int v2, .int x33, .retAddr 0]) (fun _ _ _ k => ex_istore_n dX10_tally_3 (by decide) k) ?_
  refine Sx.o (fun _ _ _ k => ex_iload_n dX10_tally_4 rfl k) ?_
  refine Sx.o (fun _ _ _ k => op_iconst (4 : Int32) dX10_tally_5 (by decide) k) ?_
  obtain ⟨x35, e_x35, hb36⟩ := ob2 hb34
  refine Sx.o (fun _ _ _ k => op_irem dX10_tally_6 e_x35 k) ?_
  refine Sx.o (L' := [.ref v0, .int v1, .int v2, .int x33, .int x35]) (fun _ _ _ k => ex_istore dX10_tally_7 (by decide) k) ?_
  refine Sx.o (fun _ _ _ k => ex_iload_n dX10_tally_9 rfl k) ?_
  refine Sx.b (fun _ _ _ k1 k2 => ex_if_lt 24 dX10_tally_10 (by decide) k1 k2) (fun q => ?_) (fun q => ?_)
  · have hb37 := ip q hb36
    refine Sx.fg [true, false, false, false, false] ?_
    exact Ways_tally_24_s hb37
  · have hb38 := iq q hb36
    refine Sx.o (fun _ _ _ k => ex_iload_n dX10_tally_13 rfl k) ?_
    refine Sx.o (fun _ _ _ k => ex_aload_n dX10_tally_14 rfl rfl k) ?_
    obtain ⟨x39, e_x39, hb40⟩ := ob2 hb38
    refine Sx.o (fun _ _ _ k => op_getR fX10_40 dX10_tally_15 e_x39 k) ?_
    obtain ⟨x41, e_x41, hb42⟩ := ob2 hb40
    refine Sx.o (fun _ _ _ k => op_getI fX10_155 dX10_tally_18 e_x41 k) ?_
    refine Sx.b (fun _ _ _ k1 k2 => ex_icmp_le 37 dX10_tally_21 (by decide) k1 k2) (fun q => ?_) (fun q => ?_)
    · have hb43 := ip q hb42
      refine Sx.o (fun _ _ _ k => ex_iload dX10_tally_37 rfl k) ?_
      refine Sx.o (fun _ _ _ k => op_iconst (3 : Int32) dX10_tally_39 (by decide) k) ?_
      refine Sx.bn (fun _ _ _ k1 k2 => ex_icmp_ne 56 dX10_tally_40 (by decide) k1 k2) (fun q => ?_) (fun q => ?_)
      · have hb45 := iq q hb43
        refine Sx.o (fun _ _ _ k => ex_aload_n dX10_tally_56 rfl rfl k) ?_
        obtain ⟨x47, e_x47, hb48⟩ := ob2 hb45
        refine Sx.o (fun _ _ _ k => op_getR fX10_11 dX10_tally_57 e_x47 k) ?_
        refine Sx.o (fun _ _ _ k => op_iconst (0 : Int32) dX10_tally_60 (by decide) k) ?_
        refine Sx.o (fun _ _ _ k => ex_dup2 dX10_tally_61 rfl rfl k) ?_
        obtain ⟨x49, e_x49, hb50⟩ := ob2 hb48
        refine Sx.o (fun _ _ _ k => op_iald dX10_tally_62 e_x49 k) ?_
        refine Sx.o (fun _ _ _ k => op_iconst (1 : Int32) dX10_tally_63 (by decide) k) ?_
        refine Sx.o (fun _ _ _ k => ex_iadd dX10_tally_64 k) ?_
        obtain ⟨h51, e_h51, hb52⟩ := ob2 hb50
        refine Sx.p (sI_q e_h51) (fun _ _ _ k => op_iast dX10_tally_65 e_h51 k) ?_
        refine Sx.o (fun _ _ _ k => ex_aload_n dX10_tally_66 rfl rfl k) ?_
        obtain ⟨x54, e_x54, hb55⟩ := ob2 hb52
        refine Sx.o (fun _ _ _ k => op_getR fX10_11 dX10_tally_67 e_x54 k) ?_
        refine Sx.o (fun _ _ _ k => op_iconst (3 : Int32) dX10_tally_70 (by decide) k) ?_
        refine Sx.o (fun _ _ _ k => ex_dup2 dX10_tally_71 rfl rfl k) ?_
        obtain ⟨x56, e_x56, hb57⟩ := ob2 hb55
        refine Sx.o (fun _ _ _ k => op_iald dX10_tally_72 e_x56 k) ?_
        refine Sx.o (fun _ _ _ k => ex_iload dX10_tally_73 rfl k) ?_
        refine Sx.o (fun _ _ _ k => op_iconst (2 : Int32) dX10_tally_75 (by decide) k) ?_
        refine Sx.bn (fun _ _ _ k1 k2 => ex_icmp_ne 83 dX10_tally_76 (by decide) k1 k2) (fun q => ?_) (fun q => ?_)
        · have hb58 := iq q hb57
          refine Sx.o (fun _ _ _ k => op_iconst (0 : Int32) dX10_tally_83 (by decide) k) ?_
          refine Sx.fg [true, true, false, true, false] ?_
          exact Ways_tally_84_s hb58
        · have hb59 := ip q hb57
          refine Sx.o (fun _ _ _ k => op_iconst (1 : Int32) dX10_tally_79 (by decide) k) ?_
          refine Sx.o (fun _ _ _ k => ex_goto 84 dX10_tally_80 (by decide) k) ?_
          refine Sx.fg [true, true, false, true, false] ?_
          exact Ways_tally_84_s hb59
      · have hb46 := ip q hb43
        refine Sx.o (fun _ _ _ k => ex_aload_n dX10_tally_43 rfl rfl k) ?_
        obtain ⟨x60, e_x60, hb61⟩ := ob2 hb46
        refine Sx.o (fun _ _ _ k => op_getR fX10_11 dX10_tally_44 e_x60 k) ?_
        refine Sx.o (fun _ _ _ k => op_iconst (1 : Int32) dX10_tally_47 (by decide) k) ?_
        refine Sx.o (fun _ _ _ k => ex_dup2 dX10_tally_48 rfl rfl k) ?_
        obtain ⟨x62, e_x62, hb63⟩ := ob2 hb61
        refine Sx.o (fun _ _ _ k => op_iald dX10_tally_49 e_x62 k) ?_
        refine Sx.o (fun _ _ _ k => op_iconst (1 : Int32) dX10_tally_50 (by decide) k) ?_
        refine Sx.o (fun _ _ _ k => ex_iadd dX10_tally_51 k) ?_
        obtain ⟨h64, e_h64, hb65⟩ := ob2 hb63
        refine Sx.p (sI_q e_h64) (fun _ _ _ k => op_iast dX10_tally_52 e_h64 k) ?_
        refine Sx.o (fun _ _ _ k => ex_goto 131 dX10_tally_53 (by decide) k) ?_
        obtain rfl := Option.some.inj hb65
        exact Sx.r (fun _ _ _ k => ex_vret rfl dX10_tally_131 k)
    · have hb44 := iq q hb42
      refine Sx.fg [true, false, false, false, false] ?_
      exact Ways_tally_24_s hb44
set_option maxHeartbeats 1000000 in
set_option maxRecDepth 100000 in
theorem Ways_tally_q {v0 : Nat} {v1 : Int32} {v2 : Int32} {h : am_H} {r : am_H} (hb : Ways_tally v0 v1 v2 h = some r) : Eqs h r := by
  unfold Ways_tally at hb
  have hb := (iz hb).2
  have w0 := Eqs.rf h
  obtain ⟨x33, e_x33, hb34⟩ := ob2 hb
  obtain ⟨x35, e_x35, hb36⟩ := ob2 hb34
  by_cases q : v2 < (0 : Int32)
  · have hb37 := ip q hb36
    exact w0.tr (Ways_tally_24_q hb37)
  · have hb38 := iq q hb36
    obtain ⟨x39, e_x39, hb40⟩ := ob2 hb38
    obtain ⟨x41, e_x41, hb42⟩ := ob2 hb40
    by_cases q : x33 ≤ x41
    · have hb43 := ip q hb42
      by_cases q : x35 = (3 : Int32)
      · have hb46 := ip q hb43
        obtain ⟨x60, e_x60, hb61⟩ := ob2 hb46
        obtain ⟨x62, e_x62, hb63⟩ := ob2 hb61
        obtain ⟨h64, e_h64, hb65⟩ := ob2 hb63
        have w66 := w0.tr (sI_q e_h64)
        obtain rfl := Option.some.inj hb65
        exact w66
      · have hb45 := iq q hb43
        obtain ⟨x47, e_x47, hb48⟩ := ob2 hb45
        obtain ⟨x49, e_x49, hb50⟩ := ob2 hb48
        obtain ⟨h51, e_h51, hb52⟩ := ob2 hb50
        have w53 := w0.tr (sI_q e_h51)
        obtain ⟨x54, e_x54, hb55⟩ := ob2 hb52
        obtain ⟨x56, e_x56, hb57⟩ := ob2 hb55
        by_cases q : x35 = (2 : Int32)
        · have hb59 := ip q hb57
          exact w53.tr (Ways_tally_84_q hb59)
        · have hb58 := iq q hb57
          exact w53.tr (Ways_tally_84_q hb58)
    · have hb44 := iq q hb42
      exact w0.tr (Ways_tally_24_q hb44)
theorem Ways_tally_o {v0 : Nat} {v1 : Int32} {v2 : Int32} {h : am_H} {r : am_H} (hb : Ways_tally v0 v1 v2 h = some r) : isO h 10 v0 = true := by
  unfold Ways_tally at hb
  exact (iz hb).1
set_option maxHeartbeats 1000000 in
set_option maxRecDepth 100000 in
noncomputable def Ways_survey_58_b (g : (Nat × Int32 × Int32 × Nat × am_H) → Option am_H) (v0 : Nat) (v2 : Int32) (v3 : Int32) (h : am_H) : Option am_H := (gR h 10 v0 8).bind fun x1 => (gI h 4 x1 1).bind fun x3 => (Ways_rowsOf x3 h).bind fun x5 => if x5 ≤ v3 then some h else if v2 = (0 : Int32) then some h else (gR h 10 v0 9).bind fun x11 => (Ways_fateOf v0 x11 h).bind fun r13 => (Ways_tally v0 v3 r13.1 r13.2).bind fun h15 => (gR h15 10 v0 9).bind fun x17 => (Row_advance x17 (0 : Int32) h15).bind fun r19 => g (58, r19.1, (v3 + (1 : Int32)), v0, r19.2)
set_option maxHeartbeats 1000000 in
set_option maxRecDepth 100000 in
theorem Ways_survey_58_m {g g2 : (Nat × Int32 × Int32 × Nat × am_H) → Option am_H} (hg : ∀ s, Le (g s) (g2 s)) (v0 : Nat) (v2 : Int32) (v3 : Int32) (h : am_H) : Le (Ways_survey_58_b g v0 v2 v3 h) (Ways_survey_58_b g2 v0 v2 v3 h) := by unfold Ways_survey_58_b; exact le_b (le_r _) fun x1 => le_b (le_r _) fun x3 => le_b (le_r _) fun x5 => le_i (le_r _) (le_i (le_r _) (le_b (le_r _) fun x11 => le_b (le_r _) fun r13 => le_b (le_r _) fun h15 => le_b (le_r _) fun x17 => le_b (le_r _) fun r19 => hg _))
noncomputable def Ways_survey_58_F (g : (Nat × Int32 × Int32 × Nat × am_H) → Option am_H) (s : (Nat × Int32 × Int32 × Nat × am_H)) : Option am_H := if s.1 = 58 then Ways_survey_58_b g s.2.2.2.1 s.2.1 s.2.2.1 s.2.2.2.2 else none
theorem Ways_survey_58_M : Mn Ways_survey_58_F := fun g g2 hg s => by unfold Ways_survey_58_F; exact le_i (Ways_survey_58_m hg s.2.2.2.1 s.2.1 s.2.2.1 s.2.2.2.2) (le_r _)
def Ways_survey_58_P (s : (Nat × Int32 × Int32 × Nat × am_H)) (r : am_H) : Prop := (s.1 = 58 → Sx 5 mX10_survey 58 [.ref s.2.2.2.1, .retAddr 0, .int s.2.1, .int s.2.2.1] [] s.2.2.2.2 none r) ∧ True
set_option maxHeartbeats 1000000 in
set_option maxRecDepth 100000 in
theorem Ways_survey_58_t {g : (Nat × Int32 × Int32 × Nat × am_H) → Option am_H} (hg : ∀ s r, g s = some r → Ways_survey_58_P s r) {v0 : Nat} {v2 : Int32} {v3 : Int32} {h : am_H} {r : am_H} (hb : Ways_survey_58_b g v0 v2 v3 h = some r) : Sx 5 mX10_survey 58 [.ref v0, .retAddr 0, .int v2, .int v3] [] h none r := by
  unfold Ways_survey_58_b at hb
  refine Sx.o (fun _ _ _ k => ex_iload_n dX10_survey_58 rfl k) ?_
  refine Sx.o (fun _ _ _ k => ex_aload_n dX10_survey_59 rfl rfl k) ?_
  obtain ⟨x1, e_x1, hb2⟩ := ob2 hb
  refine Sx.o (fun _ _ _ k => op_getR fX10_18 dX10_survey_60 e_x1 k) ?_
  obtain ⟨x3, e_x3, hb4⟩ := ob2 hb2
  refine Sx.o (fun _ _ _ k => op_getI fX10_52 dX10_survey_63 e_x3 k) ?_
  obtain ⟨x5, e_x5, hb6⟩ := ob2 hb4
  refine sx_callS (dc := 0) (as := [.int x3]) (stq := [.int x5, .int v3]) (by omega) dX10_survey_66 MX10_rowsOf kX10_118 tX10_rowsOf rfl rfl (Nat.le_of_ble_eq_true rfl) (Nat.le_of_ble_eq_true rfl) (Ways_rowsOf_s e_x5) rfl ?_
  refine Sx.b (fun _ _ _ k1 k2 => ex_icmp_ge 104 dX10_survey_69 (by decide) k1 k2) (fun q => ?_) (fun q => ?_)
  · have hb7 := ip q hb6
    obtain rfl := Option.some.inj hb7
    exact Sx.r (fun _ _ _ k => ex_vret rfl dX10_survey_104 k)
  · have hb8 := iq q hb6
    refine Sx.o (fun _ _ _ k => ex_iload_n dX10_survey_72 rfl k) ?_
    refine Sx.b (fun _ _ _ k1 k2 => ex_if_eq 104 dX10_survey_73 (by decide) k1 k2) (fun q => ?_) (fun q => ?_)
    · have hb9 := ip q hb8
      obtain rfl := Option.some.inj hb9
      exact Sx.r (fun _ _ _ k => ex_vret rfl dX10_survey_104 k)
    · have hb10 := iq q hb8
      refine Sx.o (fun _ _ _ k => ex_aload_n dX10_survey_76 rfl rfl k) ?_
      refine Sx.o (fun _ _ _ k => ex_iload_n dX10_survey_77 rfl k) ?_
      refine Sx.o (fun _ _ _ k => ex_aload_n dX10_survey_78 rfl rfl k) ?_
      refine Sx.o (fun _ _ _ k => ex_aload_n dX10_survey_79 rfl rfl k) ?_
      obtain ⟨x11, e_x11, hb12⟩ := ob2 hb10
      refine Sx.o (fun _ _ _ k => op_getR fX10_22 dX10_survey_80 e_x11 k) ?_
      obtain ⟨r13, e_r13, hb14⟩ := ob2 hb12
      refine sx_callV (dc := 4) (as := [.ref x11]) (stq := [.int r13.1, .int v3, .ref v0]) (by omega) dX10_survey_83 MX10_fateOf kX10_173 iX10_fateOf sX10_fateOf rfl rfl (Ways_fateOf_o e_r13) rfl rfl (Nat.le_of_ble_eq_true rfl) (Nat.le_of_ble_eq_true rfl) (Ways_fateOf_s e_r13) rfl ?_
      obtain ⟨h15, e_h15, hb16⟩ := ob2 hb14
      refine sx_callV (dc := 0) (as := [.int v3, .int r13.1]) (stq := []) (by omega) dX10_survey_86 MX10_tally kX10_176 iX10_tally sX10_tally rfl rfl (Ways_tally_o e_h15) rfl rfl (Nat.le_of_ble_eq_true rfl) (Nat.le_of_ble_eq_true rfl) (Ways_tally_s e_h15) rfl ?_
      refine Sx.o (fun _ _ _ k => ex_aload_n dX10_survey_89 rfl rfl k) ?_
      obtain ⟨x17, e_x17, hb18⟩ := ob2 hb16
      refine Sx.o (fun _ _ _ k => op_getR fX10_22 dX10_survey_90 e_x17 k) ?_
      refine Sx.o (fun _ _ _ k => op_iconst (0 : Int32) dX10_survey_93 (by decide) k) ?_
      obtain ⟨r19, e_r19, hb20⟩ := ob2 hb18
      refine sx_callV (dc := 2) (as := [.int (0 : Int32)]) (stq := [.int r19.1]) (by omega) dX10_survey_94 MX4_advance kX10_180 iX4_advance sX4_advance rfl rfl (Row_advance_o e_r19) rfl rfl (Nat.le_of_ble_eq_true rfl) (Nat.le_of_ble_eq_true rfl) (Row_advance_s e_r19) rfl ?_
      refine Sx.o (L' := [.ref v0, .retAddr 0, .int r19.1, .int v3]) (fun _ _ _ k => ex_istore_n dX10_survey_97 (by decide) k) ?_
      refine Sx.o (L' := [.ref v0, .retAddr 0, .int r19.1, .int (v3 + (1 : Int32))]) (fun _ _ _ k => op_iinc (1 : Int32) dX10_survey_98 (by decide) rfl (by decide) k) ?_
      refine Sx.o (fun _ _ _ k => ex_goto 58 dX10_survey_101 (by decide) k) ?_
      exact (hg _ _ hb20).1 rfl
theorem Ways_survey_58_T : ∀ s r, fx Ways_survey_58_F Ways_survey_58_M s = some r → Ways_survey_58_P s r := fx_ind Ways_survey_58_M Ways_survey_58_P (fun g hg s r hb => by
  unfold Ways_survey_58_F at hb
  exact ⟨fun q => Ways_survey_58_t hg (ip q hb), trivial⟩)
noncomputable def Ways_survey_58 (v0 : Nat) (v2 : Int32) (v3 : Int32) (h : am_H) : Option am_H := fx Ways_survey_58_F Ways_survey_58_M (58, v2, v3, v0, h)
set_option maxHeartbeats 1000000 in
set_option maxRecDepth 100000 in
theorem Ways_survey_58_e (v0 : Nat) (v2 : Int32) (v3 : Int32) (h : am_H) : Ways_survey_58 v0 v2 v3 h = ((gR h 10 v0 8).bind fun x1 => (gI h 4 x1 1).bind fun x3 => (Ways_rowsOf x3 h).bind fun x5 => if x5 ≤ v3 then some h else if v2 = (0 : Int32) then some h else (gR h 10 v0 9).bind fun x11 => (Ways_fateOf v0 x11 h).bind fun r13 => (Ways_tally v0 v3 r13.1 r13.2).bind fun h15 => (gR h15 10 v0 9).bind fun x17 => (Row_advance x17 (0 : Int32) h15).bind fun r19 => Ways_survey_58 v0 r19.1 (v3 + (1 : Int32)) r19.2) := (fx_eq Ways_survey_58_M (58, v2, v3, v0, h)).trans (if_pos rfl)
theorem Ways_survey_58_s {v0 : Nat} {v2 : Int32} {v3 : Int32} {h : am_H} {r : am_H} (hb : Ways_survey_58 v0 v2 v3 h = some r) : Sx 5 mX10_survey 58 [.ref v0, .retAddr 0, .int v2, .int v3] [] h none r := (Ways_survey_58_T _ _ hb).1 rfl
set_option maxHeartbeats 1000000 in
set_option maxRecDepth 100000 in
noncomputable def Ways_survey (v0 : Nat) (v1 : Nat) (h : am_H) : Option am_H := if isO h 10 v0 = true then (Ways_start v0 v1 h).bind fun h21 => (gI h21 10 v0 18).bind fun x23 => (gR h21 10 v0 6).bind fun x25 => (gI h21 7 x25 5).bind fun x27 => if x23 = x27 then some h21 else (gR h21 10 v0 6).bind fun x31 => (gI h21 7 x31 5).bind fun x33 => (pV h21 10 v0 18 (.int x33)).bind fun h35 => (pV h35 10 v0 0 (.int (-1 : Int32))).bind fun h38 => (pV h38 10 v0 1 (.int (0 : Int32))).bind fun h41 => (pV h41 10 v0 2 (.int (0 : Int32))).bind fun h44 => (gR h44 10 v0 3).bind fun x47 => (Arr_fill x47 (0 : Int32) h44).bind fun h49 => Ways_survey_58 v0 (1 : Int32) (0 : Int32) h49 else none
set_option maxHeartbeats 1000000 in
set_option maxRecDepth 100000 in
theorem Ways_survey_s {v0 : Nat} {v1 : Nat} {h : am_H} {r : am_H} (hb : Ways_survey v0 v1 h = some r) : Sx 5 mX10_survey 0 (am_en [.ref v0, .ref v1] 4) [] h none r := by
  unfold Ways_survey at hb
  have hb := (iz hb).2
  show Sx 5 mX10_survey 0 [.ref v0, .ref v1, .retAddr 0, .retAddr 0] [] h none r
  refine Sx.o (fun _ _ _ k => ex_aload_n dX10_survey_0 rfl rfl k) ?_
  refine Sx.o (fun _ _ _ k => ex_aload_n dX10_survey_1 rfl rfl k) ?_
  obtain ⟨h21, e_h21, hb22⟩ := ob2 hb
  refine sx_callV (dc := 3) (as := [.ref v1]) (stq := []) (by omega) dX10_survey_2 MX10_start kX10_152 iX10_start sX10_start rfl rfl (Ways_start_o e_h21) rfl rfl (Nat.le_of_ble_eq_true rfl) (Nat.le_of_ble_eq_true rfl) (Ways_start_s e_h21) rfl ?_
  refine Sx.o (fun _ _ _ k => ex_aload_n dX10_survey_5 rfl rfl k) ?_
  obtain ⟨x23, e_x23, hb24⟩ := ob2 hb22
  refine Sx.o (fun _ _ _ k => op_getI fX10_99 dX10_survey_6 e_x23 k) ?_
  refine Sx.o (fun _ _ _ k => ex_aload_n dX10_survey_9 rfl rfl k) ?_
  obtain ⟨x25, e_x25, hb26⟩ := ob2 hb24
  refine Sx.o (fun _ _ _ k => op_getR fX10_40 dX10_survey_10 e_x25 k) ?_
  obtain ⟨x27, e_x27, hb28⟩ := ob2 hb26
  refine Sx.o (fun _ _ _ k => op_getI fX10_155 dX10_survey_13 e_x27 k) ?_
  refine Sx.bn (fun _ _ _ k1 k2 => ex_icmp_ne 20 dX10_survey_16 (by decide) k1 k2) (fun q => ?_) (fun q => ?_)
  · have hb29 := iq q hb28
    refine Sx.o (fun _ _ _ k => ex_aload_n dX10_survey_20 rfl rfl k) ?_
    refine Sx.o (fun _ _ _ k => ex_aload_n dX10_survey_21 rfl rfl k) ?_
    obtain ⟨x31, e_x31, hb32⟩ := ob2 hb29
    refine Sx.o (fun _ _ _ k => op_getR fX10_40 dX10_survey_22 e_x31 k) ?_
    obtain ⟨x33, e_x33, hb34⟩ := ob2 hb32
    refine Sx.o (fun _ _ _ k => op_getI fX10_155 dX10_survey_25 e_x33 k) ?_
    obtain ⟨h35, e_h35, hb36⟩ := ob2 hb34
    refine Sx.p (pV_q e_h35) (fun _ _ _ k => op_put pX10_99 dX10_survey_28 e_h35 (fun _ => rfl) (fun _ => rfl) k) ?_
    refine Sx.o (fun _ _ _ k => ex_aload_n dX10_survey_31 rfl rfl k) ?_
    refine Sx.o (fun _ _ _ k => op_iconst (-1 : Int32) dX10_survey_32 (by decide) k) ?_
    obtain ⟨h38, e_h38, hb39⟩ := ob2 hb36
    refine Sx.p (pV_q e_h38) (fun _ _ _ k => op_put pX10_158 dX10_survey_33 e_h38 (fun _ => rfl) (fun _ => rfl) k) ?_
    refine Sx.o (fun _ _ _ k => ex_aload_n dX10_survey_36 rfl rfl k) ?_
    refine Sx.o (fun _ _ _ k => op_iconst (0 : Int32) dX10_survey_37 (by decide) k) ?_
    obtain ⟨h41, e_h41, hb42⟩ := ob2 hb39
    refine Sx.p (pV_q e_h41) (fun _ _ _ k => op_put pX10_161 dX10_survey_38 e_h41 (fun _ => rfl) (fun _ => rfl) k) ?_
    refine Sx.o (fun _ _ _ k => ex_aload_n dX10_survey_41 rfl rfl k) ?_
    refine Sx.o (fun _ _ _ k => op_iconst (0 : Int32) dX10_survey_42 (by decide) k) ?_
    obtain ⟨h44, e_h44, hb45⟩ := ob2 hb42
    refine Sx.p (pV_q e_h44) (fun _ _ _ k => op_put pX10_164 dX10_survey_43 e_h44 (fun _ => rfl) (fun _ => rfl) k) ?_
    refine Sx.o (fun _ _ _ k => ex_aload_n dX10_survey_46 rfl rfl k) ?_
    obtain ⟨x47, e_x47, hb48⟩ := ob2 hb45
    refine Sx.o (fun _ _ _ k => op_getR fX10_11 dX10_survey_47 e_x47 k) ?_
    refine Sx.o (fun _ _ _ k => op_iconst (0 : Int32) dX10_survey_50 (by decide) k) ?_
    obtain ⟨h49, e_h49, hb50⟩ := ob2 hb48
    refine sx_callS (dc := 0) (as := [.ref x47, .int (0 : Int32)]) (stq := []) (by omega) dX10_survey_51 MJ7_fill_53178 kX10_167 tJ7_fill_53178 rfl rfl (Nat.le_of_ble_eq_true rfl) (Nat.le_of_ble_eq_true rfl) (Arr_fill_s e_h49) rfl ?_
    refine Sx.o (fun _ _ _ k => op_iconst (1 : Int32) dX10_survey_54 (by decide) k) ?_
    refine Sx.o (L' := [.ref v0, .ref v1, .int (1 : Int32), .retAddr 0]) (fun _ _ _ k => ex_istore_n dX10_survey_55 (by decide) k) ?_
    refine Sx.o (fun _ _ _ k => op_iconst (0 : Int32) dX10_survey_56 (by decide) k) ?_
    refine Sx.o (L' := [.ref v0, .ref v1, .int (1 : Int32), .int (0 : Int32)]) (fun _ _ _ k => ex_istore_n dX10_survey_57 (by decide) k) ?_
    refine Sx.fg [true, false, true, true] ?_
    exact Ways_survey_58_s hb50
  · have hb30 := ip q hb28
    obtain rfl := Option.some.inj hb30
    exact Sx.r (fun _ _ _ k => ex_vret rfl dX10_survey_19 k)
theorem Ways_survey_o {v0 : Nat} {v1 : Nat} {h : am_H} {r : am_H} (hb : Ways_survey v0 v1 h = some r) : isO h 10 v0 = true := by
  unfold Ways_survey at hb
  exact (iz hb).1
set_option maxHeartbeats 1000000 in
set_option maxRecDepth 100000 in
noncomputable def Ways_weigh_125 (v0 : Nat) (v4 : Int32) (v5 : Int32) (h : am_H) : Option am_H := (Ways_commonDivisor v4 v5 h).bind fun x1 => (dvI v5 (if x1 < (1 : Int32) then (1 : Int32) else x1)).bind fun x3 => (pV h 10 v0 4 (.int x3)).bind fun h5 => (dvI v4 (if x1 < (1 : Int32) then (1 : Int32) else x1)).bind fun x8 => (pV h5 10 v0 5 (.int x8)).bind fun h10 => some h10
set_option maxHeartbeats 1000000 in
set_option maxRecDepth 100000 in
theorem Ways_weigh_125_s {v0 : Nat} {v4 : Int32} {v5 : Int32} {h : am_H} {r : am_H} (hb : Ways_weigh_125 v0 v4 v5 h = some r) : Sx 5 mX10_weigh 125 [.ref v0, .retAddr 0, .retAddr 0, .retAddr 0, .int v4, .int v5, .retAddr 0, .retAddr 0, .retAddr 0] [] h none r := by
  unfold Ways_weigh_125 at hb
  refine Sx.o (fun _ _ _ k => ex_iload dX10_weigh_125 rfl k) ?_
  refine Sx.o (fun _ _ _ k => ex_iload dX10_weigh_127 rfl k) ?_
  obtain ⟨x1, e_x1, hb2⟩ := ob2 hb
  refine sx_callS (dc := 0) (as := [.int v4, .int v5]) (stq := [.int x1]) (by omega) dX10_weigh_129 MX10_commonDivisor kX10_187 tX10_commonDivisor rfl rfl (Nat.le_of_ble_eq_true rfl) (Nat.le_of_ble_eq_true rfl) (Ways_commonDivisor_s e_x1) rfl ?_
  refine Sx.o (fun _ _ _ k => op_iconst (1 : Int32) dX10_weigh_132 (by decide) k) ?_
  refine Sx.o (fun _ _ _ k => op_mmax (by omega) dX10_weigh_133 kX10_62 (Nat.le_of_ble_eq_true rfl) k) ?_
  refine Sx.o (L' := [.ref v0, .retAddr 0, .retAddr 0, .retAddr 0, .int v4, .int v5, .retAddr 0, .int (if x1 < (1 : Int32) then (1 : Int32) else x1), .retAddr 0]) (fun _ _ _ k => ex_istore dX10_weigh_136 (by decide) k) ?_
  refine Sx.o (fun _ _ _ k => ex_aload_n dX10_weigh_138 rfl rfl k) ?_
  refine Sx.o (fun _ _ _ k => ex_iload dX10_weigh_139 rfl k) ?_
  refine Sx.o (fun _ _ _ k => ex_iload dX10_weigh_141 rfl k) ?_
  obtain ⟨x3, e_x3, hb4⟩ := ob2 hb2
  refine Sx.o (fun _ _ _ k => op_idiv dX10_weigh_143 e_x3 k) ?_
  obtain ⟨h5, e_h5, hb6⟩ := ob2 hb4
  refine Sx.p (pV_q e_h5) (fun _ _ _ k => op_put pX10_190 dX10_weigh_144 e_h5 (fun _ => rfl) (fun _ => rfl) k) ?_
  refine Sx.o (fun _ _ _ k => ex_aload_n dX10_weigh_147 rfl rfl k) ?_
  refine Sx.o (fun _ _ _ k => ex_iload dX10_weigh_148 rfl k) ?_
  refine Sx.o (fun _ _ _ k => ex_iload dX10_weigh_150 rfl k) ?_
  obtain ⟨x8, e_x8, hb9⟩ := ob2 hb6
  refine Sx.o (fun _ _ _ k => op_idiv dX10_weigh_152 e_x8 k) ?_
  obtain ⟨h10, e_h10, hb11⟩ := ob2 hb9
  refine Sx.p (pV_q e_h10) (fun _ _ _ k => op_put pX10_193 dX10_weigh_153 e_h10 (fun _ => rfl) (fun _ => rfl) k) ?_
  obtain rfl := Option.some.inj hb11
  exact Sx.r (fun _ _ _ k => ex_vret rfl dX10_weigh_156 k)
set_option maxHeartbeats 1000000 in
set_option maxRecDepth 100000 in
noncomputable def Ways_weigh_41_b (g : (Nat × Int32 × Int32 × Int32 × Int32 × Int32 × Int32 × Nat × am_H) → Option am_H) (v0 : Nat) (v2 : Int32) (v3 : Int32) (v4 : Int32) (v5 : Int32) (v6 : Int32) (v7 : Int32) (h : am_H) : Option am_H := (gR h 10 v0 8).bind fun x13 => (gI h 4 x13 1).bind fun x15 => (Ways_rowsOf x15 h).bind fun x17 => if x17 ≤ v7 then Ways_weigh_125 v0 v4 v5 h else if v6 = (0 : Int32) then Ways_weigh_125 v0 v4 v5 h else (gR h 10 v0 9).bind fun x23 => (Ways_fateOf v0 x23 h).bind fun r25 => if r25.1 ≤ (0 : Int32) then g (106, v2, v3, v4, v5, v7, 0, v0, r25.2) else (rmI r25.1 (4 : Int32)).bind fun x29 => if x29 = (3 : Int32) then g (106, v2, v3, v4, v5, v7, 0, v0, r25.2) else (dvI r25.1 (4 : Int32)).bind fun x33 => if x33 = v3 then (gR r25.2 10 v0 6).bind fun x37 => (gI r25.2 7 x37 5).bind fun x39 => if x39 < v3 then g (106, v2, v3, v4, v5, v7, 0, v0, r25.2) else g (106, v2, v3, v4, (v5 + (1 : Int32)), v7, 0, v0, r25.2) else g (106, v2, v3, v4, v5, v7, 0, v0, r25.2)
set_option maxHeartbeats 1000000 in
set_option maxRecDepth 100000 in
theorem Ways_weigh_41_m {g g2 : (Nat × Int32 × Int32 × Int32 × Int32 × Int32 × Int32 × Nat × am_H) → Option am_H} (hg : ∀ s, Le (g s) (g2 s)) (v0 : Nat) (v2 : Int32) (v3 : Int32) (v4 : Int32) (v5 : Int32) (v6 : Int32) (v7 : Int32) (h : am_H) : Le (Ways_weigh_41_b g v0 v2 v3 v4 v5 v6 v7 h) (Ways_weigh_41_b g2 v0 v2 v3 v4 v5 v6 v7 h) := by unfold Ways_weigh_41_b; exact le_b (le_r _) fun x13 => le_b (le_r _) fun x15 => le_b (le_r _) fun x17 => le_i (le_r _) (le_i (le_r _) (le_b (le_r _) fun x23 => le_b (le_r _) fun r25 => le_i (hg _) (le_b (le_r _) fun x29 => le_i (hg _) (le_b (le_r _) fun x33 => le_i (le_b (le_r _) fun x37 => le_b (le_r _) fun x39 => le_i (hg _) (hg _)) (hg _)))))
set_option maxHeartbeats 1000000 in
set_option maxRecDepth 100000 in
noncomputable def Ways_weigh_106_b (g : (Nat × Int32 × Int32 × Int32 × Int32 × Int32 × Int32 × Nat × am_H) → Option am_H) (v0 : Nat) (v2 : Int32) (v3 : Int32) (v4 : Int32) (v5 : Int32) (v7 : Int32) (h : am_H) : Option am_H := (gR h 10 v0 9).bind fun x43 => (Row_advance x43 v2 h).bind fun r45 => g (41, v2, v3, (v4 + (1 : Int32)), v5, r45.1, (v7 + (1 : Int32)), v0, r45.2)
set_option maxHeartbeats 1000000 in
set_option maxRecDepth 100000 in
theorem Ways_weigh_106_m {g g2 : (Nat × Int32 × Int32 × Int32 × Int32 × Int32 × Int32 × Nat × am_H) → Option am_H} (hg : ∀ s, Le (g s) (g2 s)) (v0 : Nat) (v2 : Int32) (v3 : Int32) (v4 : Int32) (v5 : Int32) (v7 : Int32) (h : am_H) : Le (Ways_weigh_106_b g v0 v2 v3 v4 v5 v7 h) (Ways_weigh_106_b g2 v0 v2 v3 v4 v5 v7 h) := by unfold Ways_weigh_106_b; exact le_b (le_r _) fun x43 => le_b (le_r _) fun r45 => hg _
noncomputable def Ways_weigh_41_F (g : (Nat × Int32 × Int32 × Int32 × Int32 × Int32 × Int32 × Nat × am_H) → Option am_H) (s : (Nat × Int32 × Int32 × Int32 × Int32 × Int32 × Int32 × Nat × am_H)) : Option am_H := if s.1 = 41 then Ways_weigh_41_b g s.2.2.2.2.2.2.2.1 s.2.1 s.2.2.1 s.2.2.2.1 s.2.2.2.2.1 s.2.2.2.2.2.1 s.2.2.2.2.2.2.1 s.2.2.2.2.2.2.2.2 else if s.1 = 106 then Ways_weigh_106_b g s.2.2.2.2.2.2.2.1 s.2.1 s.2.2.1 s.2.2.2.1 s.2.2.2.2.1 s.2.2.2.2.2.1 s.2.2.2.2.2.2.2.2 else none
theorem Ways_weigh_41_M : Mn Ways_weigh_41_F := fun g g2 hg s => by unfold Ways_weigh_41_F; exact le_i (Ways_weigh_41_m hg s.2.2.2.2.2.2.2.1 s.2.1 s.2.2.1 s.2.2.2.1 s.2.2.2.2.1 s.2.2.2.2.2.1 s.2.2.2.2.2.2.1 s.2.2.2.2.2.2.2.2) (le_i (Ways_weigh_106_m hg s.2.2.2.2.2.2.2.1 s.2.1 s.2.2.1 s.2.2.2.1 s.2.2.2.2.1 s.2.2.2.2.2.1 s.2.2.2.2.2.2.2.2) (le_r _))
def Ways_weigh_41_P (s : (Nat × Int32 × Int32 × Int32 × Int32 × Int32 × Int32 × Nat × am_H)) (r : am_H) : Prop := (s.1 = 41 → Sx 5 mX10_weigh 41 [.ref s.2.2.2.2.2.2.2.1, .retAddr 0, .int s.2.1, .int s.2.2.1, .int s.2.2.2.1, .int s.2.2.2.2.1, .int s.2.2.2.2.2.1, .int s.2.2.2.2.2.2.1, .retAddr 0] [] s.2.2.2.2.2.2.2.2 none r) ∧ (s.1 = 106 → Sx 5 mX10_weigh 106 [.ref s.2.2.2.2.2.2.2.1, .retAddr 0, .int s.2.1, .int s.2.2.1, .int s.2.2.2.1, .int s.2.2.2.2.1, .retAddr 0, .int s.2.2.2.2.2.1, .retAddr 0] [] s.2.2.2.2.2.2.2.2 none r) ∧ True
set_option maxHeartbeats 1000000 in
set_option maxRecDepth 100000 in
theorem Ways_weigh_41_t {g : (Nat × Int32 × Int32 × Int32 × Int32 × Int32 × Int32 × Nat × am_H) → Option am_H} (hg : ∀ s r, g s = some r → Ways_weigh_41_P s r) {v0 : Nat} {v2 : Int32} {v3 : Int32} {v4 : Int32} {v5 : Int32} {v6 : Int32} {v7 : Int32} {h : am_H} {r : am_H} (hb : Ways_weigh_41_b g v0 v2 v3 v4 v5 v6 v7 h = some r) : Sx 5 mX10_weigh 41 [.ref v0, .retAddr 0, .int v2, .int v3, .int v4, .int v5, .int v6, .int v7, .retAddr 0] [] h none r := by
  unfold Ways_weigh_41_b at hb
  refine Sx.o (fun _ _ _ k => ex_iload dX10_weigh_41 rfl k) ?_
  refine Sx.o (fun _ _ _ k => ex_aload_n dX10_weigh_43 rfl rfl k) ?_
  obtain ⟨x13, e_x13, hb14⟩ := ob2 hb
  refine Sx.o (fun _ _ _ k => op_getR fX10_18 dX10_weigh_44 e_x13 k) ?_
  obtain ⟨x15, e_x15, hb16⟩ := ob2 hb14
  refine Sx.o (fun _ _ _ k => op_getI fX10_52 dX10_weigh_47 e_x15 k) ?_
  obtain ⟨x17, e_x17, hb18⟩ := ob2 hb16
  refine sx_callS (dc := 0) (as := [.int x15]) (stq := [.int x17, .int v7]) (by omega) dX10_weigh_50 MX10_rowsOf kX10_118 tX10_rowsOf rfl rfl (Nat.le_of_ble_eq_true rfl) (Nat.le_of_ble_eq_true rfl) (Ways_rowsOf_s e_x17) rfl ?_
  refine Sx.b (fun _ _ _ k1 k2 => ex_icmp_ge 125 dX10_weigh_53 (by decide) k1 k2) (fun q => ?_) (fun q => ?_)
  · have hb19 := ip q hb18
    refine Sx.fg [true, true, false, false, true, true, false, false, true] ?_
    exact Ways_weigh_125_s hb19
  · have hb20 := iq q hb18
    refine Sx.o (fun _ _ _ k => ex_iload dX10_weigh_56 rfl k) ?_
    refine Sx.b (fun _ _ _ k1 k2 => ex_if_eq 125 dX10_weigh_58 (by decide) k1 k2) (fun q => ?_) (fun q => ?_)
    · have hb21 := ip q hb20
      refine Sx.fg [true, true, false, false, true, true, false, false, true] ?_
      exact Ways_weigh_125_s hb21
    · have hb22 := iq q hb20
      refine Sx.o (fun _ _ _ k => ex_aload_n dX10_weigh_61 rfl rfl k) ?_
      refine Sx.o (fun _ _ _ k => ex_aload_n dX10_weigh_62 rfl rfl k) ?_
      obtain ⟨x23, e_x23, hb24⟩ := ob2 hb22
      refine Sx.o (fun _ _ _ k => op_getR fX10_22 dX10_weigh_63 e_x23 k) ?_
      obtain ⟨r25, e_r25, hb26⟩ := ob2 hb24
      refine sx_callV (dc := 4) (as := [.ref x23]) (stq := [.int r25.1]) (by omega) dX10_weigh_66 MX10_fateOf kX10_173 iX10_fateOf sX10_fateOf rfl rfl (Ways_fateOf_o e_r25) rfl rfl (Nat.le_of_ble_eq_true rfl) (Nat.le_of_ble_eq_true rfl) (Ways_fateOf_s e_r25) rfl ?_
      refine Sx.o (L' := [.ref v0, .retAddr 0, .int v2, .int v3, .int v4, .int v5, .int v6, .int v7, .int r25.1]) (fun _ _ _ k => ex_istore dX10_weigh_69 (by decide) k) ?_
      refine Sx.o (fun _ _ _ k => ex_iload dX10_weigh_71 rfl k) ?_
      refine Sx.b (fun _ _ _ k1 k2 => ex_if_le 106 dX10_weigh_73 (by decide) k1 k2) (fun q => ?_) (fun q => ?_)
      · have hb27 := ip q hb26
        refine Sx.fg [true, true, true, true, true, true, false, true, false] ?_
        exact (hg _ _ hb27).2.1 rfl
      · have hb28 := iq q hb26
        refine Sx.o (fun _ _ _ k => ex_iload dX10_weigh_76 rfl k) ?_
        refine Sx.o (fun _ _ _ k => op_iconst (4 : Int32) dX10_weigh_78 (by decide) k) ?_
        obtain ⟨x29, e_x29, hb30⟩ := ob2 hb28
        refine Sx.o (fun _ _ _ k => op_irem dX10_weigh_79 e_x29 k) ?_
        refine Sx.o (fun _ _ _ k => op_iconst (3 : Int32) dX10_weigh_80 (by decide) k) ?_
        refine Sx.b (fun _ _ _ k1 k2 => ex_icmp_eq 106 dX10_weigh_81 (by decide) k1 k2) (fun q => ?_) (fun q => ?_)
        · have hb31 := ip q hb30
          refine Sx.fg [true, true, true, true, true, true, false, true, false] ?_
          exact (hg _ _ hb31).2.1 rfl
        · have hb32 := iq q hb30
          refine Sx.o (fun _ _ _ k => ex_iload dX10_weigh_84 rfl k) ?_
          refine Sx.o (fun _ _ _ k => op_iconst (4 : Int32) dX10_weigh_86 (by decide) k) ?_
          obtain ⟨x33, e_x33, hb34⟩ := ob2 hb32
          refine Sx.o (fun _ _ _ k => op_idiv dX10_weigh_87 e_x33 k) ?_
          refine Sx.o (fun _ _ _ k => ex_iload_n dX10_weigh_88 rfl k) ?_
          refine Sx.bn (fun _ _ _ k1 k2 => ex_icmp_ne 106 dX10_weigh_89 (by decide) k1 k2) (fun q => ?_) (fun q => ?_)
          · have hb35 := iq q hb34
            refine Sx.fg [true, true, true, true, true, true, false, true, false] ?_
            exact (hg _ _ hb35).2.1 rfl
          · have hb36 := ip q hb34
            refine Sx.o (fun _ _ _ k => ex_iload_n dX10_weigh_92 rfl k) ?_
            refine Sx.o (fun _ _ _ k => ex_aload_n dX10_weigh_93 rfl rfl k) ?_
            obtain ⟨x37, e_x37, hb38⟩ := ob2 hb36
            refine Sx.o (fun _ _ _ k => op_getR fX10_40 dX10_weigh_94 e_x37 k) ?_
            obtain ⟨x39, e_x39, hb40⟩ := ob2 hb38
            refine Sx.o (fun _ _ _ k => op_getI fX10_155 dX10_weigh_97 e_x39 k) ?_
            refine Sx.b (fun _ _ _ k1 k2 => ex_icmp_gt 106 dX10_weigh_100 (by decide) k1 k2) (fun q => ?_) (fun q => ?_)
            · have hb41 := ip q hb40
              refine Sx.fg [true, true, true, true, true, true, false, true, false] ?_
              exact (hg _ _ hb41).2.1 rfl
            · have hb42 := iq q hb40
              refine Sx.o (L' := [.ref v0, .retAddr 0, .int v2, .int v3, .int v4, .int (v5 + (1 : Int32)), .int v6, .int v7, .int r25.1]) (fun _ _ _ k => op_iinc (1 : Int32) dX10_weigh_103 (by decide) rfl (by decide) k) ?_
              refine Sx.fg [true, true, true, true, true, true, false, true, false] ?_
              exact (hg _ _ hb42).2.1 rfl
set_option maxHeartbeats 1000000 in
set_option maxRecDepth 100000 in
theorem Ways_weigh_106_t {g : (Nat × Int32 × Int32 × Int32 × Int32 × Int32 × Int32 × Nat × am_H) → Option am_H} (hg : ∀ s r, g s = some r → Ways_weigh_41_P s r) {v0 : Nat} {v2 : Int32} {v3 : Int32} {v4 : Int32} {v5 : Int32} {v7 : Int32} {h : am_H} {r : am_H} (hb : Ways_weigh_106_b g v0 v2 v3 v4 v5 v7 h = some r) : Sx 5 mX10_weigh 106 [.ref v0, .retAddr 0, .int v2, .int v3, .int v4, .int v5, .retAddr 0, .int v7, .retAddr 0] [] h none r := by
  unfold Ways_weigh_106_b at hb
  refine Sx.o (L' := [.ref v0, .retAddr 0, .int v2, .int v3, .int (v4 + (1 : Int32)), .int v5, .retAddr 0, .int v7, .retAddr 0]) (fun _ _ _ k => op_iinc (1 : Int32) dX10_weigh_106 (by decide) rfl (by decide) k) ?_
  refine Sx.o (fun _ _ _ k => ex_aload_n dX10_weigh_109 rfl rfl k) ?_
  obtain ⟨x43, e_x43, hb44⟩ := ob2 hb
  refine Sx.o (fun _ _ _ k => op_getR fX10_22 dX10_weigh_110 e_x43 k) ?_
  refine Sx.o (fun _ _ _ k => ex_iload_n dX10_weigh_113 rfl k) ?_
  obtain ⟨r45, e_r45, hb46⟩ := ob2 hb44
  refine sx_callV (dc := 2) (as := [.int v2]) (stq := [.int r45.1]) (by omega) dX10_weigh_114 MX4_advance kX10_180 iX4_advance sX4_advance rfl rfl (Row_advance_o e_r45) rfl rfl (Nat.le_of_ble_eq_true rfl) (Nat.le_of_ble_eq_true rfl) (Row_advance_s e_r45) rfl ?_
  refine Sx.o (L' := [.ref v0, .retAddr 0, .int v2, .int v3, .int (v4 + (1 : Int32)), .int v5, .int r45.1, .int v7, .retAddr 0]) (fun _ _ _ k => ex_istore dX10_weigh_117 (by decide) k) ?_
  refine Sx.o (L' := [.ref v0, .retAddr 0, .int v2, .int v3, .int (v4 + (1 : Int32)), .int v5, .int r45.1, .int (v7 + (1 : Int32)), .retAddr 0]) (fun _ _ _ k => op_iinc (1 : Int32) dX10_weigh_119 (by decide) rfl (by decide) k) ?_
  refine Sx.o (fun _ _ _ k => ex_goto 41 dX10_weigh_122 (by decide) k) ?_
  exact (hg _ _ hb46).1 rfl
theorem Ways_weigh_41_T : ∀ s r, fx Ways_weigh_41_F Ways_weigh_41_M s = some r → Ways_weigh_41_P s r := fx_ind Ways_weigh_41_M Ways_weigh_41_P (fun g hg s r hb => by
  unfold Ways_weigh_41_F at hb
  exact ⟨fun q => Ways_weigh_41_t hg (ip q hb), fun q => Ways_weigh_106_t hg (ip q (iq (by rw [q]; decide) hb)), trivial⟩)
noncomputable def Ways_weigh_41 (v0 : Nat) (v2 : Int32) (v3 : Int32) (v4 : Int32) (v5 : Int32) (v6 : Int32) (v7 : Int32) (h : am_H) : Option am_H := fx Ways_weigh_41_F Ways_weigh_41_M (41, v2, v3, v4, v5, v6, v7, v0, h)
noncomputable def Ways_weigh_106 (v0 : Nat) (v2 : Int32) (v3 : Int32) (v4 : Int32) (v5 : Int32) (v7 : Int32) (h : am_H) : Option am_H := fx Ways_weigh_41_F Ways_weigh_41_M (106, v2, v3, v4, v5, v7, 0, v0, h)
set_option maxHeartbeats 1000000 in
set_option maxRecDepth 100000 in
theorem Ways_weigh_41_e (v0 : Nat) (v2 : Int32) (v3 : Int32) (v4 : Int32) (v5 : Int32) (v6 : Int32) (v7 : Int32) (h : am_H) : Ways_weigh_41 v0 v2 v3 v4 v5 v6 v7 h = ((gR h 10 v0 8).bind fun x13 => (gI h 4 x13 1).bind fun x15 => (Ways_rowsOf x15 h).bind fun x17 => if x17 ≤ v7 then Ways_weigh_125 v0 v4 v5 h else if v6 = (0 : Int32) then Ways_weigh_125 v0 v4 v5 h else (gR h 10 v0 9).bind fun x23 => (Ways_fateOf v0 x23 h).bind fun r25 => if r25.1 ≤ (0 : Int32) then Ways_weigh_106 v0 v2 v3 v4 v5 v7 r25.2 else (rmI r25.1 (4 : Int32)).bind fun x29 => if x29 = (3 : Int32) then Ways_weigh_106 v0 v2 v3 v4 v5 v7 r25.2 else (dvI r25.1 (4 : Int32)).bind fun x33 => if x33 = v3 then (gR r25.2 10 v0 6).bind fun x37 => (gI r25.2 7 x37 5).bind fun x39 => if x39 < v3 then Ways_weigh_106 v0 v2 v3 v4 v5 v7 r25.2 else Ways_weigh_106 v0 v2 v3 v4 (v5 + (1 : Int32)) v7 r25.2 else Ways_weigh_106 v0 v2 v3 v4 v5 v7 r25.2) := (fx_eq Ways_weigh_41_M (41, v2, v3, v4, v5, v6, v7, v0, h)).trans (if_pos rfl)
theorem Ways_weigh_41_s {v0 : Nat} {v2 : Int32} {v3 : Int32} {v4 : Int32} {v5 : Int32} {v6 : Int32} {v7 : Int32} {h : am_H} {r : am_H} (hb : Ways_weigh_41 v0 v2 v3 v4 v5 v6 v7 h = some r) : Sx 5 mX10_weigh 41 [.ref v0, .retAddr 0, .int v2, .int v3, .int v4, .int v5, .int v6, .int v7, .retAddr 0] [] h none r := (Ways_weigh_41_T _ _ hb).1 rfl
set_option maxHeartbeats 1000000 in
set_option maxRecDepth 100000 in
theorem Ways_weigh_106_e (v0 : Nat) (v2 : Int32) (v3 : Int32) (v4 : Int32) (v5 : Int32) (v7 : Int32) (h : am_H) : Ways_weigh_106 v0 v2 v3 v4 v5 v7 h = ((gR h 10 v0 9).bind fun x43 => (Row_advance x43 v2 h).bind fun r45 => Ways_weigh_41 v0 v2 v3 (v4 + (1 : Int32)) v5 r45.1 (v7 + (1 : Int32)) r45.2) := (fx_eq Ways_weigh_41_M (106, v2, v3, v4, v5, v7, 0, v0, h)).trans ((if_neg (show ¬ (106 : Nat) = 41 by decide)).trans (if_pos rfl))
theorem Ways_weigh_106_s {v0 : Nat} {v2 : Int32} {v3 : Int32} {v4 : Int32} {v5 : Int32} {v7 : Int32} {h : am_H} {r : am_H} (hb : Ways_weigh_106 v0 v2 v3 v4 v5 v7 h = some r) : Sx 5 mX10_weigh 106 [.ref v0, .retAddr 0, .int v2, .int v3, .int v4, .int v5, .retAddr 0, .int v7, .retAddr 0] [] h none r := (Ways_weigh_41_T _ _ hb).2.1 rfl
set_option maxHeartbeats 1000000 in
set_option maxRecDepth 100000 in
noncomputable def Ways_weigh (v0 : Nat) (v1 : Nat) (v2 : Int32) (v3 : Int32) (h : am_H) : Option am_H := if isO h 10 v0 = true then (Ways_start v0 v1 h).bind fun h47 => (gR h47 10 v0 9).bind fun x49 => (Row_copy x49 v1 h47).bind fun h51 => (gR h51 10 v0 9).bind fun x53 => (pV h51 4 x53 3 (.int (0 : Int32))).bind fun h55 => (gR h55 10 v0 9).bind fun x58 => (Row_order x58 v2 h55).bind fun h60 => Ways_weigh_41 v0 v2 v3 (0 : Int32) (0 : Int32) (1 : Int32) (0 : Int32) h60 else none
set_option maxHeartbeats 1000000 in
set_option maxRecDepth 100000 in
theorem Ways_weigh_s {v0 : Nat} {v1 : Nat} {v2 : Int32} {v3 : Int32} {h : am_H} {r : am_H} (hb : Ways_weigh v0 v1 v2 v3 h = some r) : Sx 5 mX10_weigh 0 (am_en [.ref v0, .ref v1, .int v2, .int v3] 9) [] h none r := by
  unfold Ways_weigh at hb
  have hb := (iz hb).2
  show Sx 5 mX10_weigh 0 [.ref v0, .ref v1, .int v2, .int v3, .retAddr 0, .retAddr 0, .retAddr 0, .retAddr 0, .retAddr 0] [] h none r
  refine Sx.o (fun _ _ _ k => ex_aload_n dX10_weigh_0 rfl rfl k) ?_
  refine Sx.o (fun _ _ _ k => ex_aload_n dX10_weigh_1 rfl rfl k) ?_
  obtain ⟨h47, e_h47, hb48⟩ := ob2 hb
  refine sx_callV (dc := 3) (as := [.ref v1]) (stq := []) (by omega) dX10_weigh_2 MX10_start kX10_152 iX10_start sX10_start rfl rfl (Ways_start_o e_h47) rfl rfl (Nat.le_of_ble_eq_true rfl) (Nat.le_of_ble_eq_true rfl) (Ways_start_s e_h47) rfl ?_
  refine Sx.o (fun _ _ _ k => ex_aload_n dX10_weigh_5 rfl rfl k) ?_
  obtain ⟨x49, e_x49, hb50⟩ := ob2 hb48
  refine Sx.o (fun _ _ _ k => op_getR fX10_22 dX10_weigh_6 e_x49 k) ?_
  refine Sx.o (fun _ _ _ k => ex_aload_n dX10_weigh_9 rfl rfl k) ?_
  obtain ⟨h51, e_h51, hb52⟩ := ob2 hb50
  refine sx_callV (dc := 1) (as := [.ref v1]) (stq := []) (by omega) dX10_weigh_10 MX4_copy kX10_48 iX4_copy sX4_copy rfl rfl (Row_copy_o e_h51) rfl rfl (Nat.le_of_ble_eq_true rfl) (Nat.le_of_ble_eq_true rfl) (Row_copy_s e_h51) rfl ?_
  refine Sx.o (fun _ _ _ k => ex_aload_n dX10_weigh_13 rfl rfl k) ?_
  obtain ⟨x53, e_x53, hb54⟩ := ob2 hb52
  refine Sx.o (fun _ _ _ k => op_getR fX10_22 dX10_weigh_14 e_x53 k) ?_
  refine Sx.o (fun _ _ _ k => op_iconst (0 : Int32) dX10_weigh_17 (by decide) k) ?_
  obtain ⟨h55, e_h55, hb56⟩ := ob2 hb54
  refine Sx.p (pV_q e_h55) (fun _ _ _ k => op_put pX10_69 dX10_weigh_18 e_h55 (fun _ => rfl) (fun _ => rfl) k) ?_
  refine Sx.o (fun _ _ _ k => ex_aload_n dX10_weigh_21 rfl rfl k) ?_
  obtain ⟨x58, e_x58, hb59⟩ := ob2 hb56
  refine Sx.o (fun _ _ _ k => op_getR fX10_22 dX10_weigh_22 e_x58 k) ?_
  refine Sx.o (fun _ _ _ k => ex_iload_n dX10_weigh_25 rfl k) ?_
  obtain ⟨h60, e_h60, hb61⟩ := ob2 hb59
  refine sx_callV (dc := 2) (as := [.int v2]) (stq := []) (by omega) dX10_weigh_26 MX4_order kX10_65 iX4_order sX4_order rfl rfl (Row_order_o e_h60) rfl rfl (Nat.le_of_ble_eq_true rfl) (Nat.le_of_ble_eq_true rfl) (Row_order_s e_h60) rfl ?_
  refine Sx.o (fun _ _ _ k => op_iconst (0 : Int32) dX10_weigh_29 (by decide) k) ?_
  refine Sx.o (L' := [.ref v0, .ref v1, .int v2, .int v3, .int (0 : Int32), .retAddr 0, .retAddr 0, .retAddr 0, .retAddr 0]) (fun _ _ _ k => ex_istore dX10_weigh_30 (by decide) k) ?_
  refine Sx.o (fun _ _ _ k => op_iconst (0 : Int32) dX10_weigh_32 (by decide) k) ?_
  refine Sx.o (L' := [.ref v0, .ref v1, .int v2, .int v3, .int (0 : Int32), .int (0 : Int32), .retAddr 0, .retAddr 0, .retAddr 0]) (fun _ _ _ k => ex_istore dX10_weigh_33 (by decide) k) ?_
  refine Sx.o (fun _ _ _ k => op_iconst (1 : Int32) dX10_weigh_35 (by decide) k) ?_
  refine Sx.o (L' := [.ref v0, .ref v1, .int v2, .int v3, .int (0 : Int32), .int (0 : Int32), .int (1 : Int32), .retAddr 0, .retAddr 0]) (fun _ _ _ k => ex_istore dX10_weigh_36 (by decide) k) ?_
  refine Sx.o (fun _ _ _ k => op_iconst (0 : Int32) dX10_weigh_38 (by decide) k) ?_
  refine Sx.o (L' := [.ref v0, .ref v1, .int v2, .int v3, .int (0 : Int32), .int (0 : Int32), .int (1 : Int32), .int (0 : Int32), .retAddr 0]) (fun _ _ _ k => ex_istore dX10_weigh_39 (by decide) k) ?_
  refine Sx.fg [true, false, true, true, true, true, true, true, true] ?_
  exact Ways_weigh_41_s hb61
theorem Ways_weigh_o {v0 : Nat} {v1 : Nat} {v2 : Int32} {v3 : Int32} {h : am_H} {r : am_H} (hb : Ways_weigh v0 v1 v2 v3 h = some r) : isO h 10 v0 = true := by
  unfold Ways_weigh at hb
  exact (iz hb).1
