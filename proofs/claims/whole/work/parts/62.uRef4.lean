/-! the reference: its methods as functions (by wip/whole/dec.py) -/
set_option maxHeartbeats 1000000 in
set_option maxRecDepth 100000 in
noncomputable def Ref_finds_2_b (g : (Nat × Int32 × Nat × am_H) → Option am_H) (v0 : Nat) (v1 : Int32) (h : am_H) : Option am_H := (gI h 12 v0 41).bind fun x1 => if x1 ≤ v1 then some h else (gR h 12 v0 42).bind fun x5 => (gR h 12 v0 40).bind fun x7 => (aI h 0 x7 v1).bind fun x9 => (sI h x5 v1 x9).bind fun h11 => g (2, (v1 + (1 : Int32)), v0, h11)
set_option maxHeartbeats 1000000 in
set_option maxRecDepth 100000 in
theorem Ref_finds_2_m {g g2 : (Nat × Int32 × Nat × am_H) → Option am_H} (hg : ∀ s, Le (g s) (g2 s)) (v0 : Nat) (v1 : Int32) (h : am_H) : Le (Ref_finds_2_b g v0 v1 h) (Ref_finds_2_b g2 v0 v1 h) := by unfold Ref_finds_2_b; exact le_b (le_r _) fun x1 => le_i (le_r _) (le_b (le_r _) fun x5 => le_b (le_r _) fun x7 => le_b (le_r _) fun x9 => le_b (le_r _) fun h11 => hg _)
noncomputable def Ref_finds_2_F (g : (Nat × Int32 × Nat × am_H) → Option am_H) (s : (Nat × Int32 × Nat × am_H)) : Option am_H := if s.1 = 2 then Ref_finds_2_b g s.2.2.1 s.2.1 s.2.2.2 else none
theorem Ref_finds_2_M : Mn Ref_finds_2_F := fun g g2 hg s => by unfold Ref_finds_2_F; exact le_i (Ref_finds_2_m hg s.2.2.1 s.2.1 s.2.2.2) (le_r _)
def Ref_finds_2_P (s : (Nat × Int32 × Nat × am_H)) (r : am_H) : Prop := (s.1 = 2 → Sx 0 mX12_finds 2 [.ref s.2.2.1, .int s.2.1] [] s.2.2.2 none r) ∧ True
set_option maxHeartbeats 1000000 in
set_option maxRecDepth 100000 in
theorem Ref_finds_2_t {g : (Nat × Int32 × Nat × am_H) → Option am_H} (hg : ∀ s r, g s = some r → Ref_finds_2_P s r) {v0 : Nat} {v1 : Int32} {h : am_H} {r : am_H} (hb : Ref_finds_2_b g v0 v1 h = some r) : Sx 0 mX12_finds 2 [.ref v0, .int v1] [] h none r := by
  unfold Ref_finds_2_b at hb
  refine Sx.o (fun _ _ _ k => ex_iload_n dX12_finds_2 rfl k) ?_
  refine Sx.o (fun _ _ _ k => ex_aload_n dX12_finds_3 rfl rfl k) ?_
  obtain ⟨x1, e_x1, hb2⟩ := ob2 hb
  refine Sx.o (fun _ _ _ k => op_getI fX12_378 dX12_finds_4 e_x1 k) ?_
  refine Sx.b (fun _ _ _ k1 k2 => ex_icmp_ge 28 dX12_finds_7 (by decide) k1 k2) (fun q => ?_) (fun q => ?_)
  · have hb3 := ip q hb2
    obtain rfl := Option.some.inj hb3
    exact Sx.r (fun _ _ _ k => ex_vret rfl dX12_finds_28 k)
  · have hb4 := iq q hb2
    refine Sx.o (fun _ _ _ k => ex_aload_n dX12_finds_10 rfl rfl k) ?_
    obtain ⟨x5, e_x5, hb6⟩ := ob2 hb4
    refine Sx.o (fun _ _ _ k => op_getR fX12_83 dX12_finds_11 e_x5 k) ?_
    refine Sx.o (fun _ _ _ k => ex_iload_n dX12_finds_14 rfl k) ?_
    refine Sx.o (fun _ _ _ k => ex_aload_n dX12_finds_15 rfl rfl k) ?_
    obtain ⟨x7, e_x7, hb8⟩ := ob2 hb6
    refine Sx.o (fun _ _ _ k => op_getR fX12_80 dX12_finds_16 e_x7 k) ?_
    refine Sx.o (fun _ _ _ k => ex_iload_n dX12_finds_19 rfl k) ?_
    obtain ⟨x9, e_x9, hb10⟩ := ob2 hb8
    refine Sx.o (fun _ _ _ k => op_iald dX12_finds_20 e_x9 k) ?_
    obtain ⟨h11, e_h11, hb12⟩ := ob2 hb10
    refine Sx.p (sI_q e_h11) (fun _ _ _ k => op_iast dX12_finds_21 e_h11 k) ?_
    refine Sx.o (L' := [.ref v0, .int (v1 + (1 : Int32))]) (fun _ _ _ k => op_iinc (1 : Int32) dX12_finds_22 (by decide) rfl (by decide) k) ?_
    refine Sx.o (fun _ _ _ k => ex_goto 2 dX12_finds_25 (by decide) k) ?_
    exact (hg _ _ hb12).1 rfl
theorem Ref_finds_2_T : ∀ s r, fx Ref_finds_2_F Ref_finds_2_M s = some r → Ref_finds_2_P s r := fx_ind Ref_finds_2_M Ref_finds_2_P (fun g hg s r hb => by
  unfold Ref_finds_2_F at hb
  exact ⟨fun q => Ref_finds_2_t hg (ip q hb), trivial⟩)
set_option maxHeartbeats 1000000 in
set_option maxRecDepth 100000 in
theorem Ref_finds_2_r {g : (Nat × Int32 × Nat × am_H) → Option am_H} (hg : ∀ s r, g s = some r → Eqs s.2.2.2 r) {v0 : Nat} {v1 : Int32} {h : am_H} {r : am_H} (hb : Ref_finds_2_b g v0 v1 h = some r) : Eqs h r := by
  unfold Ref_finds_2_b at hb
  have w0 := Eqs.rf h
  obtain ⟨x1, e_x1, hb2⟩ := ob2 hb
  by_cases q : x1 ≤ v1
  · have hb3 := ip q hb2
    obtain rfl := Option.some.inj hb3
    exact w0
  · have hb4 := iq q hb2
    obtain ⟨x5, e_x5, hb6⟩ := ob2 hb4
    obtain ⟨x7, e_x7, hb8⟩ := ob2 hb6
    obtain ⟨x9, e_x9, hb10⟩ := ob2 hb8
    obtain ⟨h11, e_h11, hb12⟩ := ob2 hb10
    have w13 := w0.tr (sI_q e_h11)
    exact w13.tr (hg _ _ hb12)
theorem Ref_finds_2_Q : ∀ s r, fx Ref_finds_2_F Ref_finds_2_M s = some r → Eqs s.2.2.2 r := fx_ind Ref_finds_2_M (fun s r => Eqs s.2.2.2 r) (fun g hg s r hb => by
  unfold Ref_finds_2_F at hb
  by_cases q0 : s.1 = 2
  · exact Ref_finds_2_r hg (ip q0 hb)
  · have hb0 := iq q0 hb
    exact nomatch hb0)
noncomputable def Ref_finds_2 (v0 : Nat) (v1 : Int32) (h : am_H) : Option am_H := fx Ref_finds_2_F Ref_finds_2_M (2, v1, v0, h)
set_option maxHeartbeats 1000000 in
set_option maxRecDepth 100000 in
theorem Ref_finds_2_e (v0 : Nat) (v1 : Int32) (h : am_H) : Ref_finds_2 v0 v1 h = ((gI h 12 v0 41).bind fun x1 => if x1 ≤ v1 then some h else (gR h 12 v0 42).bind fun x5 => (gR h 12 v0 40).bind fun x7 => (aI h 0 x7 v1).bind fun x9 => (sI h x5 v1 x9).bind fun h11 => Ref_finds_2 v0 (v1 + (1 : Int32)) h11) := (fx_eq Ref_finds_2_M (2, v1, v0, h)).trans (if_pos rfl)
theorem Ref_finds_2_q {v0 : Nat} {v1 : Int32} {h : am_H} {r : am_H} (hb : Ref_finds_2 v0 v1 h = some r) : Eqs h r := Ref_finds_2_Q _ _ hb
theorem Ref_finds_2_s {v0 : Nat} {v1 : Int32} {h : am_H} {r : am_H} (hb : Ref_finds_2 v0 v1 h = some r) : Sx 0 mX12_finds 2 [.ref v0, .int v1] [] h none r := (Ref_finds_2_T _ _ hb).1 rfl
set_option maxHeartbeats 1000000 in
set_option maxRecDepth 100000 in
noncomputable def Ref_finds (v0 : Nat) (h : am_H) : Option am_H := if isO h 12 v0 = true then Ref_finds_2 v0 (0 : Int32) h else none
set_option maxHeartbeats 1000000 in
set_option maxRecDepth 100000 in
theorem Ref_finds_s {v0 : Nat} {h : am_H} {r : am_H} (hb : Ref_finds v0 h = some r) : Sx 0 mX12_finds 0 (am_en [.ref v0] 2) [] h none r := by
  unfold Ref_finds at hb
  have hb := (iz hb).2
  show Sx 0 mX12_finds 0 [.ref v0, .retAddr 0] [] h none r
  refine Sx.o (fun _ _ _ k => op_iconst (0 : Int32) dX12_finds_0 (by decide) k) ?_
  refine Sx.o (L' := [.ref v0, .int (0 : Int32)]) (fun _ _ _ k => ex_istore_n dX12_finds_1 (by decide) k) ?_
  exact Ref_finds_2_s hb
set_option maxHeartbeats 1000000 in
set_option maxRecDepth 100000 in
theorem Ref_finds_q {v0 : Nat} {h : am_H} {r : am_H} (hb : Ref_finds v0 h = some r) : Eqs h r := by
  unfold Ref_finds at hb
  have hb := (iz hb).2
  have w0 := Eqs.rf h
  exact w0.tr (Ref_finds_2_q hb)
theorem Ref_finds_o {v0 : Nat} {h : am_H} {r : am_H} (hb : Ref_finds v0 h = some r) : isO h 12 v0 = true := by
  unfold Ref_finds at hb
  exact (iz hb).1
set_option maxHeartbeats 1000000 in
set_option maxRecDepth 100000 in
noncomputable def Ref_firstRow_11_b (g : (Nat × Int32 × Int32 × Int32 × Int32 × Nat × am_H) → Option am_H) (v0 : Nat) (v1 : Int32) (v2 : Int32) (h : am_H) : Option am_H := (gI h 12 v0 41).bind fun x1 => if x1 ≤ v2 then some h else (Ref_cardOf v0 v1 v2 h).bind fun x5 => g (29, v1, v2, x5, v2, v0, h)
set_option maxHeartbeats 1000000 in
set_option maxRecDepth 100000 in
theorem Ref_firstRow_11_m {g g2 : (Nat × Int32 × Int32 × Int32 × Int32 × Nat × am_H) → Option am_H} (hg : ∀ s, Le (g s) (g2 s)) (v0 : Nat) (v1 : Int32) (v2 : Int32) (h : am_H) : Le (Ref_firstRow_11_b g v0 v1 v2 h) (Ref_firstRow_11_b g2 v0 v1 v2 h) := by unfold Ref_firstRow_11_b; exact le_b (le_r _) fun x1 => le_i (le_r _) (le_b (le_r _) fun x5 => hg _)
set_option maxHeartbeats 1000000 in
set_option maxRecDepth 100000 in
noncomputable def Ref_firstRow_29_b (g : (Nat × Int32 × Int32 × Int32 × Int32 × Nat × am_H) → Option am_H) (v0 : Nat) (v1 : Int32) (v2 : Int32) (v3 : Int32) (v4 : Int32) (h : am_H) : Option am_H := if v4 ≤ (0 : Int32) then g (69, v1, v2, v3, v4, v0, h) else (gR h 12 v0 40).bind fun x9 => (aI h 0 x9 (v4 - (1 : Int32))).bind fun x11 => if x11 ≤ v3 then g (69, v1, v2, v3, v4, v0, h) else (gR h 12 v0 40).bind fun x15 => (gR h 12 v0 40).bind fun x17 => (aI h 0 x17 (v4 - (1 : Int32))).bind fun x19 => (sI h x15 v4 x19).bind fun h21 => g (29, v1, v2, v3, (v4 + (-1 : Int32)), v0, h21)
set_option maxHeartbeats 1000000 in
set_option maxRecDepth 100000 in
theorem Ref_firstRow_29_m {g g2 : (Nat × Int32 × Int32 × Int32 × Int32 × Nat × am_H) → Option am_H} (hg : ∀ s, Le (g s) (g2 s)) (v0 : Nat) (v1 : Int32) (v2 : Int32) (v3 : Int32) (v4 : Int32) (h : am_H) : Le (Ref_firstRow_29_b g v0 v1 v2 v3 v4 h) (Ref_firstRow_29_b g2 v0 v1 v2 v3 v4 h) := by unfold Ref_firstRow_29_b; exact le_i (hg _) (le_b (le_r _) fun x9 => le_b (le_r _) fun x11 => le_i (hg _) (le_b (le_r _) fun x15 => le_b (le_r _) fun x17 => le_b (le_r _) fun x19 => le_b (le_r _) fun h21 => hg _))
set_option maxHeartbeats 1000000 in
set_option maxRecDepth 100000 in
noncomputable def Ref_firstRow_69_b (g : (Nat × Int32 × Int32 × Int32 × Int32 × Nat × am_H) → Option am_H) (v0 : Nat) (v1 : Int32) (v2 : Int32) (v3 : Int32) (v4 : Int32) (h : am_H) : Option am_H := (gR h 12 v0 40).bind fun x24 => (sI h x24 v4 v3).bind fun h26 => g (11, v1, (v2 + (1 : Int32)), 0, 0, v0, h26)
set_option maxHeartbeats 1000000 in
set_option maxRecDepth 100000 in
theorem Ref_firstRow_69_m {g g2 : (Nat × Int32 × Int32 × Int32 × Int32 × Nat × am_H) → Option am_H} (hg : ∀ s, Le (g s) (g2 s)) (v0 : Nat) (v1 : Int32) (v2 : Int32) (v3 : Int32) (v4 : Int32) (h : am_H) : Le (Ref_firstRow_69_b g v0 v1 v2 v3 v4 h) (Ref_firstRow_69_b g2 v0 v1 v2 v3 v4 h) := by unfold Ref_firstRow_69_b; exact le_b (le_r _) fun x24 => le_b (le_r _) fun h26 => hg _
noncomputable def Ref_firstRow_11_F (g : (Nat × Int32 × Int32 × Int32 × Int32 × Nat × am_H) → Option am_H) (s : (Nat × Int32 × Int32 × Int32 × Int32 × Nat × am_H)) : Option am_H := if s.1 = 11 then Ref_firstRow_11_b g s.2.2.2.2.2.1 s.2.1 s.2.2.1 s.2.2.2.2.2.2 else if s.1 = 29 then Ref_firstRow_29_b g s.2.2.2.2.2.1 s.2.1 s.2.2.1 s.2.2.2.1 s.2.2.2.2.1 s.2.2.2.2.2.2 else if s.1 = 69 then Ref_firstRow_69_b g s.2.2.2.2.2.1 s.2.1 s.2.2.1 s.2.2.2.1 s.2.2.2.2.1 s.2.2.2.2.2.2 else none
theorem Ref_firstRow_11_M : Mn Ref_firstRow_11_F := fun g g2 hg s => by unfold Ref_firstRow_11_F; exact le_i (Ref_firstRow_11_m hg s.2.2.2.2.2.1 s.2.1 s.2.2.1 s.2.2.2.2.2.2) (le_i (Ref_firstRow_29_m hg s.2.2.2.2.2.1 s.2.1 s.2.2.1 s.2.2.2.1 s.2.2.2.2.1 s.2.2.2.2.2.2) (le_i (Ref_firstRow_69_m hg s.2.2.2.2.2.1 s.2.1 s.2.2.1 s.2.2.2.1 s.2.2.2.2.1 s.2.2.2.2.2.2) (le_r _)))
def Ref_firstRow_11_P (s : (Nat × Int32 × Int32 × Int32 × Int32 × Nat × am_H)) (r : am_H) : Prop := (s.1 = 11 → Sx 2 mX12_firstRow 11 [.ref s.2.2.2.2.2.1, .int s.2.1, .int s.2.2.1, .retAddr 0, .retAddr 0] [] s.2.2.2.2.2.2 none r) ∧ (s.1 = 29 → Sx 2 mX12_firstRow 29 [.ref s.2.2.2.2.2.1, .int s.2.1, .int s.2.2.1, .int s.2.2.2.1, .int s.2.2.2.2.1] [] s.2.2.2.2.2.2 none r) ∧ (s.1 = 69 → Sx 2 mX12_firstRow 69 [.ref s.2.2.2.2.2.1, .int s.2.1, .int s.2.2.1, .int s.2.2.2.1, .int s.2.2.2.2.1] [] s.2.2.2.2.2.2 none r) ∧ True
set_option maxHeartbeats 1000000 in
set_option maxRecDepth 100000 in
theorem Ref_firstRow_11_t {g : (Nat × Int32 × Int32 × Int32 × Int32 × Nat × am_H) → Option am_H} (hg : ∀ s r, g s = some r → Ref_firstRow_11_P s r) {v0 : Nat} {v1 : Int32} {v2 : Int32} {h : am_H} {r : am_H} (hb : Ref_firstRow_11_b g v0 v1 v2 h = some r) : Sx 2 mX12_firstRow 11 [.ref v0, .int v1, .int v2, .retAddr 0, .retAddr 0] [] h none r := by
  unfold Ref_firstRow_11_b at hb
  refine Sx.o (fun _ _ _ k => ex_iload_n dX12_firstRow_11 rfl k) ?_
  refine Sx.o (fun _ _ _ k => ex_aload_n dX12_firstRow_12 rfl rfl k) ?_
  obtain ⟨x1, e_x1, hb2⟩ := ob2 hb
  refine Sx.o (fun _ _ _ k => op_getI fX12_378 dX12_firstRow_13 e_x1 k) ?_
  refine Sx.b (fun _ _ _ k1 k2 => ex_icmp_ge 83 dX12_firstRow_16 (by decide) k1 k2) (fun q => ?_) (fun q => ?_)
  · have hb3 := ip q hb2
    obtain rfl := Option.some.inj hb3
    exact Sx.r (fun _ _ _ k => ex_vret rfl dX12_firstRow_83 k)
  · have hb4 := iq q hb2
    refine Sx.o (fun _ _ _ k => ex_aload_n dX12_firstRow_19 rfl rfl k) ?_
    refine Sx.o (fun _ _ _ k => ex_iload_n dX12_firstRow_20 rfl k) ?_
    refine Sx.o (fun _ _ _ k => ex_iload_n dX12_firstRow_21 rfl k) ?_
    obtain ⟨x5, e_x5, hb6⟩ := ob2 hb4
    refine sx_callV (dc := 1) (as := [.int v1, .int v2]) (stq := [.int x5]) (by omega) dX12_firstRow_22 MX12_cardOf kX12_280 iX12_cardOf sX12_cardOf rfl rfl (Ref_cardOf_o e_x5) rfl rfl (Nat.le_of_ble_eq_true rfl) (Nat.le_of_ble_eq_true rfl) (Ref_cardOf_s e_x5) rfl ?_
    refine Sx.o (L' := [.ref v0, .int v1, .int v2, .int x5, .retAddr 0]) (fun _ _ _ k => ex_istore_n dX12_firstRow_25 (by decide) k) ?_
    refine Sx.o (fun _ _ _ k => ex_iload_n dX12_firstRow_26 rfl k) ?_
    refine Sx.o (L' := [.ref v0, .int v1, .int v2, .int x5, .int v2]) (fun _ _ _ k => ex_istore dX12_firstRow_27 (by decide) k) ?_
    exact (hg _ _ hb6).2.1 rfl
set_option maxHeartbeats 1000000 in
set_option maxRecDepth 100000 in
theorem Ref_firstRow_29_t {g : (Nat × Int32 × Int32 × Int32 × Int32 × Nat × am_H) → Option am_H} (hg : ∀ s r, g s = some r → Ref_firstRow_11_P s r) {v0 : Nat} {v1 : Int32} {v2 : Int32} {v3 : Int32} {v4 : Int32} {h : am_H} {r : am_H} (hb : Ref_firstRow_29_b g v0 v1 v2 v3 v4 h = some r) : Sx 2 mX12_firstRow 29 [.ref v0, .int v1, .int v2, .int v3, .int v4] [] h none r := by
  unfold Ref_firstRow_29_b at hb
  refine Sx.o (fun _ _ _ k => ex_iload dX12_firstRow_29 rfl k) ?_
  refine Sx.b (fun _ _ _ k1 k2 => ex_if_le 69 dX12_firstRow_31 (by decide) k1 k2) (fun q => ?_) (fun q => ?_)
  · have hb7 := ip q hb
    exact (hg _ _ hb7).2.2.1 rfl
  · have hb8 := iq q hb
    refine Sx.o (fun _ _ _ k => ex_aload_n dX12_firstRow_34 rfl rfl k) ?_
    obtain ⟨x9, e_x9, hb10⟩ := ob2 hb8
    refine Sx.o (fun _ _ _ k => op_getR fX12_80 dX12_firstRow_35 e_x9 k) ?_
    refine Sx.o (fun _ _ _ k => ex_iload dX12_firstRow_38 rfl k) ?_
    refine Sx.o (fun _ _ _ k => op_iconst (1 : Int32) dX12_firstRow_40 (by decide) k) ?_
    refine Sx.o (fun _ _ _ k => ex_isub dX12_firstRow_41 k) ?_
    obtain ⟨x11, e_x11, hb12⟩ := ob2 hb10
    refine Sx.o (fun _ _ _ k => op_iald dX12_firstRow_42 e_x11 k) ?_
    refine Sx.o (fun _ _ _ k => ex_iload_n dX12_firstRow_43 rfl k) ?_
    refine Sx.b (fun _ _ _ k1 k2 => ex_icmp_le 69 dX12_firstRow_44 (by decide) k1 k2) (fun q => ?_) (fun q => ?_)
    · have hb13 := ip q hb12
      exact (hg _ _ hb13).2.2.1 rfl
    · have hb14 := iq q hb12
      refine Sx.o (fun _ _ _ k => ex_aload_n dX12_firstRow_47 rfl rfl k) ?_
      obtain ⟨x15, e_x15, hb16⟩ := ob2 hb14
      refine Sx.o (fun _ _ _ k => op_getR fX12_80 dX12_firstRow_48 e_x15 k) ?_
      refine Sx.o (fun _ _ _ k => ex_iload dX12_firstRow_51 rfl k) ?_
      refine Sx.o (fun _ _ _ k => ex_aload_n dX12_firstRow_53 rfl rfl k) ?_
      obtain ⟨x17, e_x17, hb18⟩ := ob2 hb16
      refine Sx.o (fun _ _ _ k => op_getR fX12_80 dX12_firstRow_54 e_x17 k) ?_
      refine Sx.o (fun _ _ _ k => ex_iload dX12_firstRow_57 rfl k) ?_
      refine Sx.o (fun _ _ _ k => op_iconst (1 : Int32) dX12_firstRow_59 (by decide) k) ?_
      refine Sx.o (fun _ _ _ k => ex_isub dX12_firstRow_60 k) ?_
      obtain ⟨x19, e_x19, hb20⟩ := ob2 hb18
      refine Sx.o (fun _ _ _ k => op_iald dX12_firstRow_61 e_x19 k) ?_
      obtain ⟨h21, e_h21, hb22⟩ := ob2 hb20
      refine Sx.p (sI_q e_h21) (fun _ _ _ k => op_iast dX12_firstRow_62 e_h21 k) ?_
      refine Sx.o (L' := [.ref v0, .int v1, .int v2, .int v3, .int (v4 + (-1 : Int32))]) (fun _ _ _ k => op_iinc (-1 : Int32) dX12_firstRow_63 (by decide) rfl (by decide) k) ?_
      refine Sx.o (fun _ _ _ k => ex_goto 29 dX12_firstRow_66 (by decide) k) ?_
      exact (hg _ _ hb22).2.1 rfl
set_option maxHeartbeats 1000000 in
set_option maxRecDepth 100000 in
theorem Ref_firstRow_69_t {g : (Nat × Int32 × Int32 × Int32 × Int32 × Nat × am_H) → Option am_H} (hg : ∀ s r, g s = some r → Ref_firstRow_11_P s r) {v0 : Nat} {v1 : Int32} {v2 : Int32} {v3 : Int32} {v4 : Int32} {h : am_H} {r : am_H} (hb : Ref_firstRow_69_b g v0 v1 v2 v3 v4 h = some r) : Sx 2 mX12_firstRow 69 [.ref v0, .int v1, .int v2, .int v3, .int v4] [] h none r := by
  unfold Ref_firstRow_69_b at hb
  refine Sx.o (fun _ _ _ k => ex_aload_n dX12_firstRow_69 rfl rfl k) ?_
  obtain ⟨x24, e_x24, hb25⟩ := ob2 hb
  refine Sx.o (fun _ _ _ k => op_getR fX12_80 dX12_firstRow_70 e_x24 k) ?_
  refine Sx.o (fun _ _ _ k => ex_iload dX12_firstRow_73 rfl k) ?_
  refine Sx.o (fun _ _ _ k => ex_iload_n dX12_firstRow_75 rfl k) ?_
  obtain ⟨h26, e_h26, hb27⟩ := ob2 hb25
  refine Sx.p (sI_q e_h26) (fun _ _ _ k => op_iast dX12_firstRow_76 e_h26 k) ?_
  refine Sx.o (L' := [.ref v0, .int v1, .int (v2 + (1 : Int32)), .int v3, .int v4]) (fun _ _ _ k => op_iinc (1 : Int32) dX12_firstRow_77 (by decide) rfl (by decide) k) ?_
  refine Sx.o (fun _ _ _ k => ex_goto 11 dX12_firstRow_80 (by decide) k) ?_
  refine Sx.fg [true, true, true, false, false] ?_
  exact (hg _ _ hb27).1 rfl
theorem Ref_firstRow_11_T : ∀ s r, fx Ref_firstRow_11_F Ref_firstRow_11_M s = some r → Ref_firstRow_11_P s r := fx_ind Ref_firstRow_11_M Ref_firstRow_11_P (fun g hg s r hb => by
  unfold Ref_firstRow_11_F at hb
  exact ⟨fun q => Ref_firstRow_11_t hg (ip q hb), fun q => Ref_firstRow_29_t hg (ip q (iq (by rw [q]; decide) hb)), fun q => Ref_firstRow_69_t hg (ip q (iq (by rw [q]; decide) (iq (by rw [q]; decide) hb))), trivial⟩)
set_option maxHeartbeats 1000000 in
set_option maxRecDepth 100000 in
theorem Ref_firstRow_11_r {g : (Nat × Int32 × Int32 × Int32 × Int32 × Nat × am_H) → Option am_H} (hg : ∀ s r, g s = some r → Eqs s.2.2.2.2.2.2 r) {v0 : Nat} {v1 : Int32} {v2 : Int32} {h : am_H} {r : am_H} (hb : Ref_firstRow_11_b g v0 v1 v2 h = some r) : Eqs h r := by
  unfold Ref_firstRow_11_b at hb
  have w0 := Eqs.rf h
  obtain ⟨x1, e_x1, hb2⟩ := ob2 hb
  by_cases q : x1 ≤ v2
  · have hb3 := ip q hb2
    obtain rfl := Option.some.inj hb3
    exact w0
  · have hb4 := iq q hb2
    obtain ⟨x5, e_x5, hb6⟩ := ob2 hb4
    exact w0.tr (hg _ _ hb6)
set_option maxHeartbeats 1000000 in
set_option maxRecDepth 100000 in
theorem Ref_firstRow_29_r {g : (Nat × Int32 × Int32 × Int32 × Int32 × Nat × am_H) → Option am_H} (hg : ∀ s r, g s = some r → Eqs s.2.2.2.2.2.2 r) {v0 : Nat} {v1 : Int32} {v2 : Int32} {v3 : Int32} {v4 : Int32} {h : am_H} {r : am_H} (hb : Ref_firstRow_29_b g v0 v1 v2 v3 v4 h = some r) : Eqs h r := by
  unfold Ref_firstRow_29_b at hb
  have w0 := Eqs.rf h
  by_cases q : v4 ≤ (0 : Int32)
  · have hb7 := ip q hb
    exact w0.tr (hg _ _ hb7)
  · have hb8 := iq q hb
    obtain ⟨x9, e_x9, hb10⟩ := ob2 hb8
    obtain ⟨x11, e_x11, hb12⟩ := ob2 hb10
    by_cases q : x11 ≤ v3
    · have hb13 := ip q hb12
      exact w0.tr (hg _ _ hb13)
    · have hb14 := iq q hb12
      obtain ⟨x15, e_x15, hb16⟩ := ob2 hb14
      obtain ⟨x17, e_x17, hb18⟩ := ob2 hb16
      obtain ⟨x19, e_x19, hb20⟩ := ob2 hb18
      obtain ⟨h21, e_h21, hb22⟩ := ob2 hb20
      have w23 := w0.tr (sI_q e_h21)
      exact w23.tr (hg _ _ hb22)
set_option maxHeartbeats 1000000 in
set_option maxRecDepth 100000 in
theorem Ref_firstRow_69_r {g : (Nat × Int32 × Int32 × Int32 × Int32 × Nat × am_H) → Option am_H} (hg : ∀ s r, g s = some r → Eqs s.2.2.2.2.2.2 r) {v0 : Nat} {v1 : Int32} {v2 : Int32} {v3 : Int32} {v4 : Int32} {h : am_H} {r : am_H} (hb : Ref_firstRow_69_b g v0 v1 v2 v3 v4 h = some r) : Eqs h r := by
  unfold Ref_firstRow_69_b at hb
  have w0 := Eqs.rf h
  obtain ⟨x24, e_x24, hb25⟩ := ob2 hb
  obtain ⟨h26, e_h26, hb27⟩ := ob2 hb25
  have w28 := w0.tr (sI_q e_h26)
  exact w28.tr (hg _ _ hb27)
theorem Ref_firstRow_11_Q : ∀ s r, fx Ref_firstRow_11_F Ref_firstRow_11_M s = some r → Eqs s.2.2.2.2.2.2 r := fx_ind Ref_firstRow_11_M (fun s r => Eqs s.2.2.2.2.2.2 r) (fun g hg s r hb => by
  unfold Ref_firstRow_11_F at hb
  by_cases q0 : s.1 = 11
  · exact Ref_firstRow_11_r hg (ip q0 hb)
  · have hb0 := iq q0 hb
    by_cases q1 : s.1 = 29
    · exact Ref_firstRow_29_r hg (ip q1 hb0)
    · have hb1 := iq q1 hb0
      by_cases q2 : s.1 = 69
      · exact Ref_firstRow_69_r hg (ip q2 hb1)
      · have hb2 := iq q2 hb1
        exact nomatch hb2)
noncomputable def Ref_firstRow_11 (v0 : Nat) (v1 : Int32) (v2 : Int32) (h : am_H) : Option am_H := fx Ref_firstRow_11_F Ref_firstRow_11_M (11, v1, v2, 0, 0, v0, h)
noncomputable def Ref_firstRow_29 (v0 : Nat) (v1 : Int32) (v2 : Int32) (v3 : Int32) (v4 : Int32) (h : am_H) : Option am_H := fx Ref_firstRow_11_F Ref_firstRow_11_M (29, v1, v2, v3, v4, v0, h)
noncomputable def Ref_firstRow_69 (v0 : Nat) (v1 : Int32) (v2 : Int32) (v3 : Int32) (v4 : Int32) (h : am_H) : Option am_H := fx Ref_firstRow_11_F Ref_firstRow_11_M (69, v1, v2, v3, v4, v0, h)
set_option maxHeartbeats 1000000 in
set_option maxRecDepth 100000 in
theorem Ref_firstRow_11_e (v0 : Nat) (v1 : Int32) (v2 : Int32) (h : am_H) : Ref_firstRow_11 v0 v1 v2 h = ((gI h 12 v0 41).bind fun x1 => if x1 ≤ v2 then some h else (Ref_cardOf v0 v1 v2 h).bind fun x5 => Ref_firstRow_29 v0 v1 v2 x5 v2 h) := (fx_eq Ref_firstRow_11_M (11, v1, v2, 0, 0, v0, h)).trans (if_pos rfl)
theorem Ref_firstRow_11_q {v0 : Nat} {v1 : Int32} {v2 : Int32} {h : am_H} {r : am_H} (hb : Ref_firstRow_11 v0 v1 v2 h = some r) : Eqs h r := Ref_firstRow_11_Q _ _ hb
theorem Ref_firstRow_11_s {v0 : Nat} {v1 : Int32} {v2 : Int32} {h : am_H} {r : am_H} (hb : Ref_firstRow_11 v0 v1 v2 h = some r) : Sx 2 mX12_firstRow 11 [.ref v0, .int v1, .int v2, .retAddr 0, .retAddr 0] [] h none r := (Ref_firstRow_11_T _ _ hb).1 rfl
set_option maxHeartbeats 1000000 in
set_option maxRecDepth 100000 in
theorem Ref_firstRow_29_e (v0 : Nat) (v1 : Int32) (v2 : Int32) (v3 : Int32) (v4 : Int32) (h : am_H) : Ref_firstRow_29 v0 v1 v2 v3 v4 h = (if v4 ≤ (0 : Int32) then Ref_firstRow_69 v0 v1 v2 v3 v4 h else (gR h 12 v0 40).bind fun x9 => (aI h 0 x9 (v4 - (1 : Int32))).bind fun x11 => if x11 ≤ v3 then Ref_firstRow_69 v0 v1 v2 v3 v4 h else (gR h 12 v0 40).bind fun x15 => (gR h 12 v0 40).bind fun x17 => (aI h 0 x17 (v4 - (1 : Int32))).bind fun x19 => (sI h x15 v4 x19).bind fun h21 => Ref_firstRow_29 v0 v1 v2 v3 (v4 + (-1 : Int32)) h21) := (fx_eq Ref_firstRow_11_M (29, v1, v2, v3, v4, v0, h)).trans ((if_neg (show ¬ (29 : Nat) = 11 by decide)).trans (if_pos rfl))
theorem Ref_firstRow_29_q {v0 : Nat} {v1 : Int32} {v2 : Int32} {v3 : Int32} {v4 : Int32} {h : am_H} {r : am_H} (hb : Ref_firstRow_29 v0 v1 v2 v3 v4 h = some r) : Eqs h r := Ref_firstRow_11_Q _ _ hb
theorem Ref_firstRow_29_s {v0 : Nat} {v1 : Int32} {v2 : Int32} {v3 : Int32} {v4 : Int32} {h : am_H} {r : am_H} (hb : Ref_firstRow_29 v0 v1 v2 v3 v4 h = some r) : Sx 2 mX12_firstRow 29 [.ref v0, .int v1, .int v2, .int v3, .int v4] [] h none r := (Ref_firstRow_11_T _ _ hb).2.1 rfl
set_option maxHeartbeats 1000000 in
set_option maxRecDepth 100000 in
theorem Ref_firstRow_69_e (v0 : Nat) (v1 : Int32) (v2 : Int32) (v3 : Int32) (v4 : Int32) (h : am_H) : Ref_firstRow_69 v0 v1 v2 v3 v4 h = ((gR h 12 v0 40).bind fun x24 => (sI h x24 v4 v3).bind fun h26 => Ref_firstRow_11 v0 v1 (v2 + (1 : Int32)) h26) := (fx_eq Ref_firstRow_11_M (69, v1, v2, v3, v4, v0, h)).trans ((if_neg (show ¬ (69 : Nat) = 11 by decide)).trans ((if_neg (show ¬ (69 : Nat) = 29 by decide)).trans (if_pos rfl)))
theorem Ref_firstRow_69_q {v0 : Nat} {v1 : Int32} {v2 : Int32} {v3 : Int32} {v4 : Int32} {h : am_H} {r : am_H} (hb : Ref_firstRow_69 v0 v1 v2 v3 v4 h = some r) : Eqs h r := Ref_firstRow_11_Q _ _ hb
theorem Ref_firstRow_69_s {v0 : Nat} {v1 : Int32} {v2 : Int32} {v3 : Int32} {v4 : Int32} {h : am_H} {r : am_H} (hb : Ref_firstRow_69 v0 v1 v2 v3 v4 h = some r) : Sx 2 mX12_firstRow 69 [.ref v0, .int v1, .int v2, .int v3, .int v4] [] h none r := (Ref_firstRow_11_T _ _ hb).2.2.1 rfl
set_option maxHeartbeats 1000000 in
set_option maxRecDepth 100000 in
noncomputable def Ref_firstRow (v0 : Nat) (v1 : Int32) (h : am_H) : Option am_H := if isO h 12 v0 = true then (Ref_manyIn v0 v1 h).bind fun x29 => (pV h 12 v0 41 (.int x29)).bind fun h31 => Ref_firstRow_11 v0 v1 (0 : Int32) h31 else none
set_option maxHeartbeats 1000000 in
set_option maxRecDepth 100000 in
theorem Ref_firstRow_s {v0 : Nat} {v1 : Int32} {h : am_H} {r : am_H} (hb : Ref_firstRow v0 v1 h = some r) : Sx 2 mX12_firstRow 0 (am_en [.ref v0, .int v1] 5) [] h none r := by
  unfold Ref_firstRow at hb
  have hb := (iz hb).2
  show Sx 2 mX12_firstRow 0 [.ref v0, .int v1, .retAddr 0, .retAddr 0, .retAddr 0] [] h none r
  refine Sx.o (fun _ _ _ k => ex_aload_n dX12_firstRow_0 rfl rfl k) ?_
  refine Sx.o (fun _ _ _ k => ex_aload_n dX12_firstRow_1 rfl rfl k) ?_
  refine Sx.o (fun _ _ _ k => ex_iload_n dX12_firstRow_2 rfl k) ?_
  obtain ⟨x29, e_x29, hb30⟩ := ob2 hb
  refine sx_callV (dc := 1) (as := [.int v1]) (stq := [.int x29, .ref v0]) (by omega) dX12_firstRow_3 MX12_manyIn kX12_316 iX12_manyIn sX12_manyIn rfl rfl (Ref_manyIn_o e_x29) rfl rfl (Nat.le_of_ble_eq_true rfl) (Nat.le_of_ble_eq_true rfl) (Ref_manyIn_s e_x29) rfl ?_
  obtain ⟨h31, e_h31, hb32⟩ := ob2 hb30
  refine Sx.p (pV_q e_h31) (fun _ _ _ k => op_put pX12_378 dX12_firstRow_6 e_h31 (fun _ => rfl) (fun _ => rfl) k) ?_
  refine Sx.o (fun _ _ _ k => op_iconst (0 : Int32) dX12_firstRow_9 (by decide) k) ?_
  refine Sx.o (L' := [.ref v0, .int v1, .int (0 : Int32), .retAddr 0, .retAddr 0]) (fun _ _ _ k => ex_istore_n dX12_firstRow_10 (by decide) k) ?_
  exact Ref_firstRow_11_s hb32
set_option maxHeartbeats 1000000 in
set_option maxRecDepth 100000 in
theorem Ref_firstRow_q {v0 : Nat} {v1 : Int32} {h : am_H} {r : am_H} (hb : Ref_firstRow v0 v1 h = some r) : Eqs h r := by
  unfold Ref_firstRow at hb
  have hb := (iz hb).2
  have w0 := Eqs.rf h
  obtain ⟨x29, e_x29, hb30⟩ := ob2 hb
  obtain ⟨h31, e_h31, hb32⟩ := ob2 hb30
  have w33 := w0.tr (pV_q e_h31)
  exact w33.tr (Ref_firstRow_11_q hb32)
theorem Ref_firstRow_o {v0 : Nat} {v1 : Int32} {h : am_H} {r : am_H} (hb : Ref_firstRow v0 v1 h = some r) : isO h 12 v0 = true := by
  unfold Ref_firstRow at hb
  exact (iz hb).1
set_option maxHeartbeats 1000000 in
set_option maxRecDepth 100000 in
noncomputable def Ref_takesRow_20_b (g : (Nat × Int32 × Nat × am_H) → Option am_H) (v0 : Nat) (v2 : Int32) (h : am_H) : Option am_H := (gI h 12 v0 41).bind fun x1 => if x1 ≤ v2 then some h else (gR h 12 v0 29).bind fun x5 => (gR h 12 v0 40).bind fun x7 => (aI h 0 x7 v2).bind fun x9 => (sI h x5 v2 x9).bind fun h11 => g (20, (v2 + (1 : Int32)), v0, h11)
set_option maxHeartbeats 1000000 in
set_option maxRecDepth 100000 in
theorem Ref_takesRow_20_m {g g2 : (Nat × Int32 × Nat × am_H) → Option am_H} (hg : ∀ s, Le (g s) (g2 s)) (v0 : Nat) (v2 : Int32) (h : am_H) : Le (Ref_takesRow_20_b g v0 v2 h) (Ref_takesRow_20_b g2 v0 v2 h) := by unfold Ref_takesRow_20_b; exact le_b (le_r _) fun x1 => le_i (le_r _) (le_b (le_r _) fun x5 => le_b (le_r _) fun x7 => le_b (le_r _) fun x9 => le_b (le_r _) fun h11 => hg _)
noncomputable def Ref_takesRow_20_F (g : (Nat × Int32 × Nat × am_H) → Option am_H) (s : (Nat × Int32 × Nat × am_H)) : Option am_H := if s.1 = 20 then Ref_takesRow_20_b g s.2.2.1 s.2.1 s.2.2.2 else none
theorem Ref_takesRow_20_M : Mn Ref_takesRow_20_F := fun g g2 hg s => by unfold Ref_takesRow_20_F; exact le_i (Ref_takesRow_20_m hg s.2.2.1 s.2.1 s.2.2.2) (le_r _)
def Ref_takesRow_20_P (s : (Nat × Int32 × Nat × am_H)) (r : am_H) : Prop := (s.1 = 20 → Sx 0 mX12_takesRow 20 [.ref s.2.2.1, .retAddr 0, .int s.2.1] [] s.2.2.2 none r) ∧ True
set_option maxHeartbeats 1000000 in
set_option maxRecDepth 100000 in
theorem Ref_takesRow_20_t {g : (Nat × Int32 × Nat × am_H) → Option am_H} (hg : ∀ s r, g s = some r → Ref_takesRow_20_P s r) {v0 : Nat} {v2 : Int32} {h : am_H} {r : am_H} (hb : Ref_takesRow_20_b g v0 v2 h = some r) : Sx 0 mX12_takesRow 20 [.ref v0, .retAddr 0, .int v2] [] h none r := by
  unfold Ref_takesRow_20_b at hb
  refine Sx.o (fun _ _ _ k => ex_iload_n dX12_takesRow_20 rfl k) ?_
  refine Sx.o (fun _ _ _ k => ex_aload_n dX12_takesRow_21 rfl rfl k) ?_
  obtain ⟨x1, e_x1, hb2⟩ := ob2 hb
  refine Sx.o (fun _ _ _ k => op_getI fX12_378 dX12_takesRow_22 e_x1 k) ?_
  refine Sx.b (fun _ _ _ k1 k2 => ex_icmp_ge 46 dX12_takesRow_25 (by decide) k1 k2) (fun q => ?_) (fun q => ?_)
  · have hb3 := ip q hb2
    obtain rfl := Option.some.inj hb3
    exact Sx.r (fun _ _ _ k => ex_vret rfl dX12_takesRow_46 k)
  · have hb4 := iq q hb2
    refine Sx.o (fun _ _ _ k => ex_aload_n dX12_takesRow_28 rfl rfl k) ?_
    obtain ⟨x5, e_x5, hb6⟩ := ob2 hb4
    refine Sx.o (fun _ _ _ k => op_getR fX12_65 dX12_takesRow_29 e_x5 k) ?_
    refine Sx.o (fun _ _ _ k => ex_iload_n dX12_takesRow_32 rfl k) ?_
    refine Sx.o (fun _ _ _ k => ex_aload_n dX12_takesRow_33 rfl rfl k) ?_
    obtain ⟨x7, e_x7, hb8⟩ := ob2 hb6
    refine Sx.o (fun _ _ _ k => op_getR fX12_80 dX12_takesRow_34 e_x7 k) ?_
    refine Sx.o (fun _ _ _ k => ex_iload_n dX12_takesRow_37 rfl k) ?_
    obtain ⟨x9, e_x9, hb10⟩ := ob2 hb8
    refine Sx.o (fun _ _ _ k => op_iald dX12_takesRow_38 e_x9 k) ?_
    obtain ⟨h11, e_h11, hb12⟩ := ob2 hb10
    refine Sx.p (sI_q e_h11) (fun _ _ _ k => op_iast dX12_takesRow_39 e_h11 k) ?_
    refine Sx.o (L' := [.ref v0, .retAddr 0, .int (v2 + (1 : Int32))]) (fun _ _ _ k => op_iinc (1 : Int32) dX12_takesRow_40 (by decide) rfl (by decide) k) ?_
    refine Sx.o (fun _ _ _ k => ex_goto 20 dX12_takesRow_43 (by decide) k) ?_
    exact (hg _ _ hb12).1 rfl
theorem Ref_takesRow_20_T : ∀ s r, fx Ref_takesRow_20_F Ref_takesRow_20_M s = some r → Ref_takesRow_20_P s r := fx_ind Ref_takesRow_20_M Ref_takesRow_20_P (fun g hg s r hb => by
  unfold Ref_takesRow_20_F at hb
  exact ⟨fun q => Ref_takesRow_20_t hg (ip q hb), trivial⟩)
set_option maxHeartbeats 1000000 in
set_option maxRecDepth 100000 in
theorem Ref_takesRow_20_r {g : (Nat × Int32 × Nat × am_H) → Option am_H} (hg : ∀ s r, g s = some r → Eqs s.2.2.2 r) {v0 : Nat} {v2 : Int32} {h : am_H} {r : am_H} (hb : Ref_takesRow_20_b g v0 v2 h = some r) : Eqs h r := by
  unfold Ref_takesRow_20_b at hb
  have w0 := Eqs.rf h
  obtain ⟨x1, e_x1, hb2⟩ := ob2 hb
  by_cases q : x1 ≤ v2
  · have hb3 := ip q hb2
    obtain rfl := Option.some.inj hb3
    exact w0
  · have hb4 := iq q hb2
    obtain ⟨x5, e_x5, hb6⟩ := ob2 hb4
    obtain ⟨x7, e_x7, hb8⟩ := ob2 hb6
    obtain ⟨x9, e_x9, hb10⟩ := ob2 hb8
    obtain ⟨h11, e_h11, hb12⟩ := ob2 hb10
    have w13 := w0.tr (sI_q e_h11)
    exact w13.tr (hg _ _ hb12)
theorem Ref_takesRow_20_Q : ∀ s r, fx Ref_takesRow_20_F Ref_takesRow_20_M s = some r → Eqs s.2.2.2 r := fx_ind Ref_takesRow_20_M (fun s r => Eqs s.2.2.2 r) (fun g hg s r hb => by
  unfold Ref_takesRow_20_F at hb
  by_cases q0 : s.1 = 20
  · exact Ref_takesRow_20_r hg (ip q0 hb)
  · have hb0 := iq q0 hb
    exact nomatch hb0)
noncomputable def Ref_takesRow_20 (v0 : Nat) (v2 : Int32) (h : am_H) : Option am_H := fx Ref_takesRow_20_F Ref_takesRow_20_M (20, v2, v0, h)
set_option maxHeartbeats 1000000 in
set_option maxRecDepth 100000 in
theorem Ref_takesRow_20_e (v0 : Nat) (v2 : Int32) (h : am_H) : Ref_takesRow_20 v0 v2 h = ((gI h 12 v0 41).bind fun x1 => if x1 ≤ v2 then some h else (gR h 12 v0 29).bind fun x5 => (gR h 12 v0 40).bind fun x7 => (aI h 0 x7 v2).bind fun x9 => (sI h x5 v2 x9).bind fun h11 => Ref_takesRow_20 v0 (v2 + (1 : Int32)) h11) := (fx_eq Ref_takesRow_20_M (20, v2, v0, h)).trans (if_pos rfl)
theorem Ref_takesRow_20_q {v0 : Nat} {v2 : Int32} {h : am_H} {r : am_H} (hb : Ref_takesRow_20 v0 v2 h = some r) : Eqs h r := Ref_takesRow_20_Q _ _ hb
theorem Ref_takesRow_20_s {v0 : Nat} {v2 : Int32} {h : am_H} {r : am_H} (hb : Ref_takesRow_20 v0 v2 h = some r) : Sx 0 mX12_takesRow 20 [.ref v0, .retAddr 0, .int v2] [] h none r := (Ref_takesRow_20_T _ _ hb).1 rfl
set_option maxHeartbeats 1000000 in
set_option maxRecDepth 100000 in
noncomputable def Ref_takesRow (v0 : Nat) (v1 : Int32) (h : am_H) : Option am_H := if isO h 12 v0 = true then (gI h 12 v0 41).bind fun x14 => (pV h 12 v0 31 (.int x14)).bind fun h16 => (pV h16 12 v0 32 (.int (0 : Int32))).bind fun h19 => (pV h19 12 v0 33 (.int v1)).bind fun h22 => Ref_takesRow_20 v0 (0 : Int32) h22 else none
set_option maxHeartbeats 1000000 in
set_option maxRecDepth 100000 in
theorem Ref_takesRow_s {v0 : Nat} {v1 : Int32} {h : am_H} {r : am_H} (hb : Ref_takesRow v0 v1 h = some r) : Sx 0 mX12_takesRow 0 (am_en [.ref v0, .int v1] 3) [] h none r := by
  unfold Ref_takesRow at hb
  have hb := (iz hb).2
  show Sx 0 mX12_takesRow 0 [.ref v0, .int v1, .retAddr 0] [] h none r
  refine Sx.o (fun _ _ _ k => ex_aload_n dX12_takesRow_0 rfl rfl k) ?_
  refine Sx.o (fun _ _ _ k => ex_aload_n dX12_takesRow_1 rfl rfl k) ?_
  obtain ⟨x14, e_x14, hb15⟩ := ob2 hb
  refine Sx.o (fun _ _ _ k => op_getI fX12_378 dX12_takesRow_2 e_x14 k) ?_
  obtain ⟨h16, e_h16, hb17⟩ := ob2 hb15
  refine Sx.p (pV_q e_h16) (fun _ _ _ k => op_put pX12_130 dX12_takesRow_5 e_h16 (fun _ => rfl) (fun _ => rfl) k) ?_
  refine Sx.o (fun _ _ _ k => ex_aload_n dX12_takesRow_8 rfl rfl k) ?_
  refine Sx.o (fun _ _ _ k => op_iconst (0 : Int32) dX12_takesRow_9 (by decide) k) ?_
  obtain ⟨h19, e_h19, hb20⟩ := ob2 hb17
  refine Sx.p (pV_q e_h19) (fun _ _ _ k => op_put pX12_133 dX12_takesRow_10 e_h19 (fun _ => rfl) (fun _ => rfl) k) ?_
  refine Sx.o (fun _ _ _ k => ex_aload_n dX12_takesRow_13 rfl rfl k) ?_
  refine Sx.o (fun _ _ _ k => ex_iload_n dX12_takesRow_14 rfl k) ?_
  obtain ⟨h22, e_h22, hb23⟩ := ob2 hb20
  refine Sx.p (pV_q e_h22) (fun _ _ _ k => op_put pX12_313 dX12_takesRow_15 e_h22 (fun _ => rfl) (fun _ => rfl) k) ?_
  refine Sx.o (fun _ _ _ k => op_iconst (0 : Int32) dX12_takesRow_18 (by decide) k) ?_
  refine Sx.o (L' := [.ref v0, .int v1, .int (0 : Int32)]) (fun _ _ _ k => ex_istore_n dX12_takesRow_19 (by decide) k) ?_
  refine Sx.fg [true, false, true] ?_
  exact Ref_takesRow_20_s hb23
set_option maxHeartbeats 1000000 in
set_option maxRecDepth 100000 in
theorem Ref_takesRow_q {v0 : Nat} {v1 : Int32} {h : am_H} {r : am_H} (hb : Ref_takesRow v0 v1 h = some r) : Eqs h r := by
  unfold Ref_takesRow at hb
  have hb := (iz hb).2
  have w0 := Eqs.rf h
  obtain ⟨x14, e_x14, hb15⟩ := ob2 hb
  obtain ⟨h16, e_h16, hb17⟩ := ob2 hb15
  have w18 := w0.tr (pV_q e_h16)
  obtain ⟨h19, e_h19, hb20⟩ := ob2 hb17
  have w21 := w18.tr (pV_q e_h19)
  obtain ⟨h22, e_h22, hb23⟩ := ob2 hb20
  have w24 := w21.tr (pV_q e_h22)
  exact w24.tr (Ref_takesRow_20_q hb23)
theorem Ref_takesRow_o {v0 : Nat} {v1 : Int32} {h : am_H} {r : am_H} (hb : Ref_takesRow v0 v1 h = some r) : isO h 12 v0 = true := by
  unfold Ref_takesRow at hb
  exact (iz hb).1
set_option maxHeartbeats 1000000 in
set_option maxRecDepth 100000 in
noncomputable def Ref_fitsAll_66_b (g : (Nat × Int32 × Int32 × Int32 × Int32 × Nat × am_H) → Option (Int32 × am_H)) (v0 : Nat) (v2 : Int32) (v3 : Int32) (v4 : Int32) (h : am_H) : Option (Int32 × am_H) := if v3 < v4 then (nrZ v2).bind fun u3 => some (v2, h) else if v2 = (0 : Int32) then (nrZ v2).bind fun u7 => some (v2, h) else g (79, v2, v3, v4, (0 : Int32), v0, h)
set_option maxHeartbeats 1000000 in
set_option maxRecDepth 100000 in
theorem Ref_fitsAll_66_m {g g2 : (Nat × Int32 × Int32 × Int32 × Int32 × Nat × am_H) → Option (Int32 × am_H)} (hg : ∀ s, Le (g s) (g2 s)) (v0 : Nat) (v2 : Int32) (v3 : Int32) (v4 : Int32) (h : am_H) : Le (Ref_fitsAll_66_b g v0 v2 v3 v4 h) (Ref_fitsAll_66_b g2 v0 v2 v3 v4 h) := by unfold Ref_fitsAll_66_b; exact le_i (le_r _) (le_i (le_r _) (hg _))
set_option maxHeartbeats 1000000 in
set_option maxRecDepth 100000 in
noncomputable def Ref_fitsAll_79_b (g : (Nat × Int32 × Int32 × Int32 × Int32 × Nat × am_H) → Option (Int32 × am_H)) (v0 : Nat) (v2 : Int32) (v3 : Int32) (v4 : Int32) (v5 : Int32) (h : am_H) : Option (Int32 × am_H) := (gR h 12 v0 2).bind fun x9 => (aI h 0 x9 (115 : Int32)).bind fun x11 => if x11 ≤ v5 then if v2 = (0 : Int32) then g (168, v3, v4, 0, 0, v0, h) else if v4 = v3 then g (164, v3, v4, 0, 0, v0, h) else (Ref_canStep v0 h).bind fun r19 => if r19.1 = (0 : Int32) then g (168, v3, v4, 0, 0, v0, r19.2) else g (164, v3, v4, 0, 0, v0, r19.2) else if v2 = (0 : Int32) then g (139, v3, v4, v5, 0, v0, h) else (gR h 12 v0 2).bind fun x26 => (aI h 0 x26 ((97 : Int32) + ((2 : Int32) * v5))).bind fun x28 => if x28 = v4 then (gR h 12 v0 2).bind fun x32 => (aI h 0 x32 (((97 : Int32) + ((2 : Int32) * v5)) + (1 : Int32))).bind fun x34 => (gR h 12 v0 29).bind fun x36 => (aI h 0 x36 (0 : Int32)).bind fun x38 => if x34 = x38 then g (135, v3, v4, v5, 0, v0, h) else g (139, v3, v4, v5, 0, v0, h) else g (135, v3, v4, v5, 0, v0, h)
set_option maxHeartbeats 1000000 in
set_option maxRecDepth 100000 in
theorem Ref_fitsAll_79_m {g g2 : (Nat × Int32 × Int32 × Int32 × Int32 × Nat × am_H) → Option (Int32 × am_H)} (hg : ∀ s, Le (g s) (g2 s)) (v0 : Nat) (v2 : Int32) (v3 : Int32) (v4 : Int32) (v5 : Int32) (h : am_H) : Le (Ref_fitsAll_79_b g v0 v2 v3 v4 v5 h) (Ref_fitsAll_79_b g2 v0 v2 v3 v4 v5 h) := by unfold Ref_fitsAll_79_b; exact le_b (le_r _) fun x9 => le_b (le_r _) fun x11 => le_i (le_i (hg _) (le_i (hg _) (le_b (le_r _) fun r19 => le_i (hg _) (hg _)))) (le_i (hg _) (le_b (le_r _) fun x26 => le_b (le_r _) fun x28 => le_i (le_b (le_r _) fun x32 => le_b (le_r _) fun x34 => le_b (le_r _) fun x36 => le_b (le_r _) fun x38 => le_i (hg _) (hg _)) (hg _)))
set_option maxHeartbeats 1000000 in
set_option maxRecDepth 100000 in
noncomputable def Ref_fitsAll_135_b (g : (Nat × Int32 × Int32 × Int32 × Int32 × Nat × am_H) → Option (Int32 × am_H)) (v0 : Nat) (v3 : Int32) (v4 : Int32) (v5 : Int32) (h : am_H) : Option (Int32 × am_H) := g (140, v3, v4, v5, (1 : Int32), v0, h)
set_option maxHeartbeats 1000000 in
set_option maxRecDepth 100000 in
theorem Ref_fitsAll_135_m {g g2 : (Nat × Int32 × Int32 × Int32 × Int32 × Nat × am_H) → Option (Int32 × am_H)} (hg : ∀ s, Le (g s) (g2 s)) (v0 : Nat) (v3 : Int32) (v4 : Int32) (v5 : Int32) (h : am_H) : Le (Ref_fitsAll_135_b g v0 v3 v4 v5 h) (Ref_fitsAll_135_b g2 v0 v3 v4 v5 h) := by unfold Ref_fitsAll_135_b; exact hg _
set_option maxHeartbeats 1000000 in
set_option maxRecDepth 100000 in
noncomputable def Ref_fitsAll_139_b (g : (Nat × Int32 × Int32 × Int32 × Int32 × Nat × am_H) → Option (Int32 × am_H)) (v0 : Nat) (v3 : Int32) (v4 : Int32) (v5 : Int32) (h : am_H) : Option (Int32 × am_H) := g (140, v3, v4, v5, (0 : Int32), v0, h)
set_option maxHeartbeats 1000000 in
set_option maxRecDepth 100000 in
theorem Ref_fitsAll_139_m {g g2 : (Nat × Int32 × Int32 × Int32 × Int32 × Nat × am_H) → Option (Int32 × am_H)} (hg : ∀ s, Le (g s) (g2 s)) (v0 : Nat) (v3 : Int32) (v4 : Int32) (v5 : Int32) (h : am_H) : Le (Ref_fitsAll_139_b g v0 v3 v4 v5 h) (Ref_fitsAll_139_b g2 v0 v3 v4 v5 h) := by unfold Ref_fitsAll_139_b; exact hg _
set_option maxHeartbeats 1000000 in
set_option maxRecDepth 100000 in
noncomputable def Ref_fitsAll_140_b (g : (Nat × Int32 × Int32 × Int32 × Int32 × Nat × am_H) → Option (Int32 × am_H)) (v0 : Nat) (v3 : Int32) (v4 : Int32) (v5 : Int32) (s0 : Int32) (h : am_H) : Option (Int32 × am_H) := g (79, s0, v3, v4, (v5 + (1 : Int32)), v0, h)
set_option maxHeartbeats 1000000 in
set_option maxRecDepth 100000 in
theorem Ref_fitsAll_140_m {g g2 : (Nat × Int32 × Int32 × Int32 × Int32 × Nat × am_H) → Option (Int32 × am_H)} (hg : ∀ s, Le (g s) (g2 s)) (v0 : Nat) (v3 : Int32) (v4 : Int32) (v5 : Int32) (s0 : Int32) (h : am_H) : Le (Ref_fitsAll_140_b g v0 v3 v4 v5 s0 h) (Ref_fitsAll_140_b g2 v0 v3 v4 v5 s0 h) := by unfold Ref_fitsAll_140_b; exact hg _
set_option maxHeartbeats 1000000 in
set_option maxRecDepth 100000 in
noncomputable def Ref_fitsAll_164_b (g : (Nat × Int32 × Int32 × Int32 × Int32 × Nat × am_H) → Option (Int32 × am_H)) (v0 : Nat) (v3 : Int32) (v4 : Int32) (h : am_H) : Option (Int32 × am_H) := g (169, v3, v4, (1 : Int32), 0, v0, h)
set_option maxHeartbeats 1000000 in
set_option maxRecDepth 100000 in
theorem Ref_fitsAll_164_m {g g2 : (Nat × Int32 × Int32 × Int32 × Int32 × Nat × am_H) → Option (Int32 × am_H)} (hg : ∀ s, Le (g s) (g2 s)) (v0 : Nat) (v3 : Int32) (v4 : Int32) (h : am_H) : Le (Ref_fitsAll_164_b g v0 v3 v4 h) (Ref_fitsAll_164_b g2 v0 v3 v4 h) := by unfold Ref_fitsAll_164_b; exact hg _
set_option maxHeartbeats 1000000 in
set_option maxRecDepth 100000 in
noncomputable def Ref_fitsAll_168_b (g : (Nat × Int32 × Int32 × Int32 × Int32 × Nat × am_H) → Option (Int32 × am_H)) (v0 : Nat) (v3 : Int32) (v4 : Int32) (h : am_H) : Option (Int32 × am_H) := g (169, v3, v4, (0 : Int32), 0, v0, h)
set_option maxHeartbeats 1000000 in
set_option maxRecDepth 100000 in
theorem Ref_fitsAll_168_m {g g2 : (Nat × Int32 × Int32 × Int32 × Int32 × Nat × am_H) → Option (Int32 × am_H)} (hg : ∀ s, Le (g s) (g2 s)) (v0 : Nat) (v3 : Int32) (v4 : Int32) (h : am_H) : Le (Ref_fitsAll_168_b g v0 v3 v4 h) (Ref_fitsAll_168_b g2 v0 v3 v4 h) := by unfold Ref_fitsAll_168_b; exact hg _
set_option maxHeartbeats 1000000 in
set_option maxRecDepth 100000 in
noncomputable def Ref_fitsAll_169_b (g : (Nat × Int32 × Int32 × Int32 × Int32 × Nat × am_H) → Option (Int32 × am_H)) (v0 : Nat) (v3 : Int32) (v4 : Int32) (s0 : Int32) (h : am_H) : Option (Int32 × am_H) := if s0 = (0 : Int32) then g (184, s0, v3, v4, 0, v0, h) else if v3 ≤ v4 then g (184, s0, v3, v4, 0, v0, h) else (Ref_steps v0 h).bind fun h46 => g (184, s0, v3, v4, 0, v0, h46)
set_option maxHeartbeats 1000000 in
set_option maxRecDepth 100000 in
theorem Ref_fitsAll_169_m {g g2 : (Nat × Int32 × Int32 × Int32 × Int32 × Nat × am_H) → Option (Int32 × am_H)} (hg : ∀ s, Le (g s) (g2 s)) (v0 : Nat) (v3 : Int32) (v4 : Int32) (s0 : Int32) (h : am_H) : Le (Ref_fitsAll_169_b g v0 v3 v4 s0 h) (Ref_fitsAll_169_b g2 v0 v3 v4 s0 h) := by unfold Ref_fitsAll_169_b; exact le_i (hg _) (le_i (hg _) (le_b (le_r _) fun h46 => hg _))
set_option maxHeartbeats 1000000 in
set_option maxRecDepth 100000 in
noncomputable def Ref_fitsAll_184_b (g : (Nat × Int32 × Int32 × Int32 × Int32 × Nat × am_H) → Option (Int32 × am_H)) (v0 : Nat) (v2 : Int32) (v3 : Int32) (v4 : Int32) (h : am_H) : Option (Int32 × am_H) := g (66, v2, v3, (v4 + (1 : Int32)), 0, v0, h)
set_option maxHeartbeats 1000000 in
set_option maxRecDepth 100000 in
theorem Ref_fitsAll_184_m {g g2 : (Nat × Int32 × Int32 × Int32 × Int32 × Nat × am_H) → Option (Int32 × am_H)} (hg : ∀ s, Le (g s) (g2 s)) (v0 : Nat) (v2 : Int32) (v3 : Int32) (v4 : Int32) (h : am_H) : Le (Ref_fitsAll_184_b g v0 v2 v3 v4 h) (Ref_fitsAll_184_b g2 v0 v2 v3 v4 h) := by unfold Ref_fitsAll_184_b; exact hg _
noncomputable def Ref_fitsAll_66_F (g : (Nat × Int32 × Int32 × Int32 × Int32 × Nat × am_H) → Option (Int32 × am_H)) (s : (Nat × Int32 × Int32 × Int32 × Int32 × Nat × am_H)) : Option (Int32 × am_H) := if s.1 = 66 then Ref_fitsAll_66_b g s.2.2.2.2.2.1 s.2.1 s.2.2.1 s.2.2.2.1 s.2.2.2.2.2.2 else if s.1 = 79 then Ref_fitsAll_79_b g s.2.2.2.2.2.1 s.2.1 s.2.2.1 s.2.2.2.1 s.2.2.2.2.1 s.2.2.2.2.2.2 else if s.1 = 135 then Ref_fitsAll_135_b g s.2.2.2.2.2.1 s.2.1 s.2.2.1 s.2.2.2.1 s.2.2.2.2.2.2 else if s.1 = 139 then Ref_fitsAll_139_b g s.2.2.2.2.2.1 s.2.1 s.2.2.1 s.2.2.2.1 s.2.2.2.2.2.2 else if s.1 = 140 then Ref_fitsAll_140_b g s.2.2.2.2.2.1 s.2.1 s.2.2.1 s.2.2.2.1 s.2.2.2.2.1 s.2.2.2.2.2.2 else if s.1 = 164 then Ref_fitsAll_164_b g s.2.2.2.2.2.1 s.2.1 s.2.2.1 s.2.2.2.2.2.2 else if s.1 = 168 then Ref_fitsAll_168_b g s.2.2.2.2.2.1 s.2.1 s.2.2.1 s.2.2.2.2.2.2 else if s.1 = 169 then Ref_fitsAll_169_b g s.2.2.2.2.2.1 s.2.1 s.2.2.1 s.2.2.2.1 s.2.2.2.2.2.2 else if s.1 = 184 then Ref_fitsAll_184_b g s.2.2.2.2.2.1 s.2.1 s.2.2.1 s.2.2.2.1 s.2.2.2.2.2.2 else none
theorem Ref_fitsAll_66_M : Mn Ref_fitsAll_66_F := fun g g2 hg s => by unfold Ref_fitsAll_66_F; exact le_i (Ref_fitsAll_66_m hg s.2.2.2.2.2.1 s.2.1 s.2.2.1 s.2.2.2.1 s.2.2.2.2.2.2) (le_i (Ref_fitsAll_79_m hg s.2.2.2.2.2.1 s.2.1 s.2.2.1 s.2.2.2.1 s.2.2.2.2.1 s.2.2.2.2.2.2) (le_i (Ref_fitsAll_135_m hg s.2.2.2.2.2.1 s.2.1 s.2.2.1 s.2.2.2.1 s.2.2.2.2.2.2) (le_i (Ref_fitsAll_139_m hg s.2.2.2.2.2.1 s.2.1 s.2.2.1 s.2.2.2.1 s.2.2.2.2.2.2) (le_i (Ref_fitsAll_140_m hg s.2.2.2.2.2.1 s.2.1 s.2.2.1 s.2.2.2.1 s.2.2.2.2.1 s.2.2.2.2.2.2) (le_i (Ref_fitsAll_164_m hg s.2.2.2.2.2.1 s.2.1 s.2.2.1 s.2.2.2.2.2.2) (le_i (Ref_fitsAll_168_m hg s.2.2.2.2.2.1 s.2.1 s.2.2.1 s.2.2.2.2.2.2) (le_i (Ref_fitsAll_169_m hg s.2.2.2.2.2.1 s.2.1 s.2.2.1 s.2.2.2.1 s.2.2.2.2.2.2) (le_i (Ref_fitsAll_184_m hg s.2.2.2.2.2.1 s.2.1 s.2.2.1 s.2.2.2.1 s.2.2.2.2.2.2) (le_r _)))))))))
def Ref_fitsAll_66_P (s : (Nat × Int32 × Int32 × Int32 × Int32 × Nat × am_H)) (r : (Int32 × am_H)) : Prop := (s.1 = 66 → Sx 89 mX12_fitsAll 66 [.ref s.2.2.2.2.2.1, .retAddr 0, .int s.2.1, .int s.2.2.1, .int s.2.2.2.1, .retAddr 0] [] s.2.2.2.2.2.2 (some (.int r.1)) r.2) ∧ (s.1 = 79 → Sx 89 mX12_fitsAll 79 [.ref s.2.2.2.2.2.1, .retAddr 0, .int s.2.1, .int s.2.2.1, .int s.2.2.2.1, .int s.2.2.2.2.1] [] s.2.2.2.2.2.2 (some (.int r.1)) r.2) ∧ (s.1 = 135 → Sx 89 mX12_fitsAll 135 [.ref s.2.2.2.2.2.1, .retAddr 0, .retAddr 0, .int s.2.1, .int s.2.2.1, .int s.2.2.2.1] [] s.2.2.2.2.2.2 (some (.int r.1)) r.2) ∧ (s.1 = 139 → Sx 89 mX12_fitsAll 139 [.ref s.2.2.2.2.2.1, .retAddr 0, .retAddr 0, .int s.2.1, .int s.2.2.1, .int s.2.2.2.1] [] s.2.2.2.2.2.2 (some (.int r.1)) r.2) ∧ (s.1 = 140 → Sx 89 mX12_fitsAll 140 [.ref s.2.2.2.2.2.1, .retAddr 0, .retAddr 0, .int s.2.1, .int s.2.2.1, .int s.2.2.2.1] [.int s.2.2.2.2.1] s.2.2.2.2.2.2 (some (.int r.1)) r.2) ∧ (s.1 = 164 → Sx 89 mX12_fitsAll 164 [.ref s.2.2.2.2.2.1, .retAddr 0, .retAddr 0, .int s.2.1, .int s.2.2.1, .retAddr 0] [] s.2.2.2.2.2.2 (some (.int r.1)) r.2) ∧ (s.1 = 168 → Sx 89 mX12_fitsAll 168 [.ref s.2.2.2.2.2.1, .retAddr 0, .retAddr 0, .int s.2.1, .int s.2.2.1, .retAddr 0] [] s.2.2.2.2.2.2 (some (.int r.1)) r.2) ∧ (s.1 = 169 → Sx 89 mX12_fitsAll 169 [.ref s.2.2.2.2.2.1, .retAddr 0, .retAddr 0, .int s.2.1, .int s.2.2.1, .retAddr 0] [.int s.2.2.2.1] s.2.2.2.2.2.2 (some (.int r.1)) r.2) ∧ (s.1 = 184 → Sx 89 mX12_fitsAll 184 [.ref s.2.2.2.2.2.1, .retAddr 0, .int s.2.1, .int s.2.2.1, .int s.2.2.2.1, .retAddr 0] [] s.2.2.2.2.2.2 (some (.int r.1)) r.2) ∧ True
set_option maxHeartbeats 1000000 in
set_option maxRecDepth 100000 in
theorem Ref_fitsAll_66_t {g : (Nat × Int32 × Int32 × Int32 × Int32 × Nat × am_H) → Option (Int32 × am_H)} (hg : ∀ s r, g s = some r → Ref_fitsAll_66_P s r) {v0 : Nat} {v2 : Int32} {v3 : Int32} {v4 : Int32} {h : am_H} {r : (Int32 × am_H)} (hb : Ref_fitsAll_66_b g v0 v2 v3 v4 h = some r) : Sx 89 mX12_fitsAll 66 [.ref v0, .retAddr 0, .int v2, .int v3, .int v4, .retAddr 0] [] h (some (.int r.1)) r.2 := by
  unfold Ref_fitsAll_66_b at hb
  refine Sx.o (fun _ _ _ k => ex_iload dX12_fitsAll_66 rfl k) ?_
  refine Sx.o (fun _ _ _ k => ex_iload_n dX12_fitsAll_68 rfl k) ?_
  refine Sx.b (fun _ _ _ k1 k2 => ex_icmp_gt 190 dX12_fitsAll_69 (by decide) k1 k2) (fun q => ?_) (fun q => ?_)
  · have hb1 := ip q hb
    refine Sx.o (fun _ _ _ k => ex_iload_n dX12_fitsAll_190 rfl k) ?_
    obtain ⟨u3, e_u3, hb4⟩ := ob2 hb1
    obtain rfl := Option.some.inj hb4
    exact Sx.r (fun _ _ _ k => ex_zret rfl (nrZ_n e_u3) dX12_fitsAll_191 k)
  · have hb2 := iq q hb
    refine Sx.o (fun _ _ _ k => ex_iload_n dX12_fitsAll_72 rfl k) ?_
    refine Sx.b (fun _ _ _ k1 k2 => ex_if_eq 190 dX12_fitsAll_73 (by decide) k1 k2) (fun q => ?_) (fun q => ?_)
    · have hb5 := ip q hb2
      refine Sx.o (fun _ _ _ k => ex_iload_n dX12_fitsAll_190 rfl k) ?_
      obtain ⟨u7, e_u7, hb8⟩ := ob2 hb5
      obtain rfl := Option.some.inj hb8
      exact Sx.r (fun _ _ _ k => ex_zret rfl (nrZ_n e_u7) dX12_fitsAll_191 k)
    · have hb6 := iq q hb2
      refine Sx.o (fun _ _ _ k => op_iconst (0 : Int32) dX12_fitsAll_76 (by decide) k) ?_
      refine Sx.o (L' := [.ref v0, .retAddr 0, .int v2, .int v3, .int v4, .int (0 : Int32)]) (fun _ _ _ k => ex_istore dX12_fitsAll_77 (by decide) k) ?_
      exact (hg _ _ hb6).2.1 rfl
set_option maxHeartbeats 1000000 in
set_option maxRecDepth 100000 in
theorem Ref_fitsAll_79_t {g : (Nat × Int32 × Int32 × Int32 × Int32 × Nat × am_H) → Option (Int32 × am_H)} (hg : ∀ s r, g s = some r → Ref_fitsAll_66_P s r) {v0 : Nat} {v2 : Int32} {v3 : Int32} {v4 : Int32} {v5 : Int32} {h : am_H} {r : (Int32 × am_H)} (hb : Ref_fitsAll_79_b g v0 v2 v3 v4 v5 h = some r) : Sx 89 mX12_fitsAll 79 [.ref v0, .retAddr 0, .int v2, .int v3, .int v4, .int v5] [] h (some (.int r.1)) r.2 := by
  unfold Ref_fitsAll_79_b at hb
  refine Sx.o (fun _ _ _ k => ex_iload dX12_fitsAll_79 rfl k) ?_
  refine Sx.o (fun _ _ _ k => ex_aload_n dX12_fitsAll_81 rfl rfl k) ?_
  obtain ⟨x9, e_x9, hb10⟩ := ob2 hb
  refine Sx.o (fun _ _ _ k => op_getR fX12_24 dX12_fitsAll_82 e_x9 k) ?_
  refine Sx.o (fun _ _ _ k => op_bipush (115 : Int32) dX12_fitsAll_85 (by decide) k) ?_
  obtain ⟨x11, e_x11, hb12⟩ := ob2 hb10
  refine Sx.o (fun _ _ _ k => op_iald dX12_fitsAll_87 e_x11 k) ?_
  refine Sx.b (fun _ _ _ k1 k2 => ex_icmp_ge 147 dX12_fitsAll_88 (by decide) k1 k2) (fun q => ?_) (fun q => ?_)
  · have hb13 := ip q hb12
    refine Sx.o (fun _ _ _ k => ex_iload_n dX12_fitsAll_147 rfl k) ?_
    refine Sx.b (fun _ _ _ k1 k2 => ex_if_eq 168 dX12_fitsAll_148 (by decide) k1 k2) (fun q => ?_) (fun q => ?_)
    · have hb15 := ip q hb13
      refine Sx.fg [true, true, false, true, true, false] ?_
      exact (hg _ _ hb15).2.2.2.2.2.2.1 rfl
    · have hb16 := iq q hb13
      refine Sx.o (fun _ _ _ k => ex_iload dX12_fitsAll_151 rfl k) ?_
      refine Sx.o (fun _ _ _ k => ex_iload_n dX12_fitsAll_153 rfl k) ?_
      refine Sx.b (fun _ _ _ k1 k2 => ex_icmp_eq 164 dX12_fitsAll_154 (by decide) k1 k2) (fun q => ?_) (fun q => ?_)
      · have hb17 := ip q hb16
        refine Sx.fg [true, true, false, true, true, false] ?_
        exact (hg _ _ hb17).2.2.2.2.2.1 rfl
      · have hb18 := iq q hb16
        refine Sx.o (fun _ _ _ k => ex_aload_n dX12_fitsAll_157 rfl rfl k) ?_
        obtain ⟨r19, e_r19, hb20⟩ := ob2 hb18
        refine sx_callV (dc := 88) (as := []) (stq := [.int r19.1]) (by omega) dX12_fitsAll_158 MX12_canStep kX12_350 iX12_canStep sX12_canStep rfl rfl (Ref_canStep_o e_r19) rfl rfl (Nat.le_of_ble_eq_true rfl) (Nat.le_of_ble_eq_true rfl) (Ref_canStep_s e_r19) rfl ?_
        refine Sx.b (fun _ _ _ k1 k2 => ex_if_eq 168 dX12_fitsAll_161 (by decide) k1 k2) (fun q => ?_) (fun q => ?_)
        · have hb22 := ip q hb20
          refine Sx.fg [true, true, false, true, true, false] ?_
          exact (hg _ _ hb22).2.2.2.2.2.2.1 rfl
        · have hb23 := iq q hb20
          refine Sx.fg [true, true, false, true, true, false] ?_
          exact (hg _ _ hb23).2.2.2.2.2.1 rfl
  · have hb14 := iq q hb12
    refine Sx.o (fun _ _ _ k => ex_iload_n dX12_fitsAll_91 rfl k) ?_
    refine Sx.b (fun _ _ _ k1 k2 => ex_if_eq 139 dX12_fitsAll_92 (by decide) k1 k2) (fun q => ?_) (fun q => ?_)
    · have hb24 := ip q hb14
      refine Sx.fg [true, true, false, true, true, true] ?_
      exact (hg _ _ hb24).2.2.2.1 rfl
    · have hb25 := iq q hb14
      refine Sx.o (fun _ _ _ k => ex_aload_n dX12_fitsAll_95 rfl rfl k) ?_
      obtain ⟨x26, e_x26, hb27⟩ := ob2 hb25
      refine Sx.o (fun _ _ _ k => op_getR fX12_24 dX12_fitsAll_96 e_x26 k) ?_
      refine Sx.o (fun _ _ _ k => op_bipush (97 : Int32) dX12_fitsAll_99 (by decide) k) ?_
      refine Sx.o (fun _ _ _ k => op_iconst (2 : Int32) dX12_fitsAll_101 (by decide) k) ?_
      refine Sx.o (fun _ _ _ k => ex_iload dX12_fitsAll_102 rfl k) ?_
      refine Sx.o (fun _ _ _ k => ex_imul dX12_fitsAll_104 k) ?_
      refine Sx.o (fun _ _ _ k => ex_iadd dX12_fitsAll_105 k) ?_
      obtain ⟨x28, e_x28, hb29⟩ := ob2 hb27
      refine Sx.o (fun _ _ _ k => op_iald dX12_fitsAll_106 e_x28 k) ?_
      refine Sx.o (fun _ _ _ k => ex_iload dX12_fitsAll_107 rfl k) ?_
      refine Sx.bn (fun _ _ _ k1 k2 => ex_icmp_ne 135 dX12_fitsAll_109 (by decide) k1 k2) (fun q => ?_) (fun q => ?_)
      · have hb30 := iq q hb29
        refine Sx.fg [true, true, false, true, true, true] ?_
        exact (hg _ _ hb30).2.2.1 rfl
      · have hb31 := ip q hb29
        refine Sx.o (fun _ _ _ k => ex_aload_n dX12_fitsAll_112 rfl rfl k) ?_
        obtain ⟨x32, e_x32, hb33⟩ := ob2 hb31
        refine Sx.o (fun _ _ _ k => op_getR fX12_24 dX12_fitsAll_113 e_x32 k) ?_
        refine Sx.o (fun _ _ _ k => op_bipush (97 : Int32) dX12_fitsAll_116 (by decide) k) ?_
        refine Sx.o (fun _ _ _ k => op_iconst (2 : Int32) dX12_fitsAll_118 (by decide) k) ?_
        refine Sx.o (fun _ _ _ k => ex_iload dX12_fitsAll_119 rfl k) ?_
        refine Sx.o (fun _ _ _ k => ex_imul dX12_fitsAll_121 k) ?_
        refine Sx.o (fun _ _ _ k => ex_iadd dX12_fitsAll_122 k) ?_
        refine Sx.o (fun _ _ _ k => op_iconst (1 : Int32) dX12_fitsAll_123 (by decide) k) ?_
        refine Sx.o (fun _ _ _ k => ex_iadd dX12_fitsAll_124 k) ?_
        obtain ⟨x34, e_x34, hb35⟩ := ob2 hb33
        refine Sx.o (fun _ _ _ k => op_iald dX12_fitsAll_125 e_x34 k) ?_
        refine Sx.o (fun _ _ _ k => ex_aload_n dX12_fitsAll_126 rfl rfl k) ?_
        obtain ⟨x36, e_x36, hb37⟩ := ob2 hb35
        refine Sx.o (fun _ _ _ k => op_getR fX12_65 dX12_fitsAll_127 e_x36 k) ?_
        refine Sx.o (fun _ _ _ k => op_iconst (0 : Int32) dX12_fitsAll_130 (by decide) k) ?_
        obtain ⟨x38, e_x38, hb39⟩ := ob2 hb37
        refine Sx.o (fun _ _ _ k => op_iald dX12_fitsAll_131 e_x38 k) ?_
        refine Sx.bn (fun _ _ _ k1 k2 => ex_icmp_ne 139 dX12_fitsAll_132 (by decide) k1 k2) (fun q => ?_) (fun q => ?_)
        · have hb40 := iq q hb39
          refine Sx.fg [true, true, false, true, true, true] ?_
          exact (hg _ _ hb40).2.2.2.1 rfl
        · have hb41 := ip q hb39
          refine Sx.fg [true, true, false, true, true, true] ?_
          exact (hg _ _ hb41).2.2.1 rfl
set_option maxHeartbeats 1000000 in
set_option maxRecDepth 100000 in
theorem Ref_fitsAll_135_t {g : (Nat × Int32 × Int32 × Int32 × Int32 × Nat × am_H) → Option (Int32 × am_H)} (hg : ∀ s r, g s = some r → Ref_fitsAll_66_P s r) {v0 : Nat} {v3 : Int32} {v4 : Int32} {v5 : Int32} {h : am_H} {r : (Int32 × am_H)} (hb : Ref_fitsAll_135_b g v0 v3 v4 v5 h = some r) : Sx 89 mX12_fitsAll 135 [.ref v0, .retAddr 0, .retAddr 0, .int v3, .int v4, .int v5] [] h (some (.int r.1)) r.2 := by
  unfold Ref_fitsAll_135_b at hb
  refine Sx.o (fun _ _ _ k => op_iconst (1 : Int32) dX12_fitsAll_135 (by decide) k) ?_
  refine Sx.o (fun _ _ _ k => ex_goto 140 dX12_fitsAll_136 (by decide) k) ?_
  exact (hg _ _ hb).2.2.2.2.1 rfl
set_option maxHeartbeats 1000000 in
set_option maxRecDepth 100000 in
theorem Ref_fitsAll_139_t {g : (Nat × Int32 × Int32 × Int32 × Int32 × Nat × am_H) → Option (Int32 × am_H)} (hg : ∀ s r, g s = some r → Ref_fitsAll_66_P s r) {v0 : Nat} {v3 : Int32} {v4 : Int32} {v5 : Int32} {h : am_H} {r : (Int32 × am_H)} (hb : Ref_fitsAll_139_b g v0 v3 v4 v5 h = some r) : Sx 89 mX12_fitsAll 139 [.ref v0, .retAddr 0, .retAddr 0, .int v3, .int v4, .int v5] [] h (some (.int r.1)) r.2 := by
  unfold Ref_fitsAll_139_b at hb
  refine Sx.o (fun _ _ _ k => op_iconst (0 : Int32) dX12_fitsAll_139 (by decide) k) ?_
  exact (hg _ _ hb).2.2.2.2.1 rfl
set_option maxHeartbeats 1000000 in
set_option maxRecDepth 100000 in
theorem Ref_fitsAll_140_t {g : (Nat × Int32 × Int32 × Int32 × Int32 × Nat × am_H) → Option (Int32 × am_H)} (hg : ∀ s r, g s = some r → Ref_fitsAll_66_P s r) {v0 : Nat} {v3 : Int32} {v4 : Int32} {v5 : Int32} {s0 : Int32} {h : am_H} {r : (Int32 × am_H)} (hb : Ref_fitsAll_140_b g v0 v3 v4 v5 s0 h = some r) : Sx 89 mX12_fitsAll 140 [.ref v0, .retAddr 0, .retAddr 0, .int v3, .int v4, .int v5] [.int s0] h (some (.int r.1)) r.2 := by
  unfold Ref_fitsAll_140_b at hb
  refine Sx.o (L' := [.ref v0, .retAddr 0, .int s0, .int v3, .int v4, .int v5]) (fun _ _ _ k => ex_istore_n dX12_fitsAll_140 (by decide) k) ?_
  refine Sx.o (L' := [.ref v0, .retAddr 0, .int s0, .int v3, .int v4, .int (v5 + (1 : Int32))]) (fun _ _ _ k => op_iinc (1 : Int32) dX12_fitsAll_141 (by decide) rfl (by decide) k) ?_
  refine Sx.o (fun _ _ _ k => ex_goto 79 dX12_fitsAll_144 (by decide) k) ?_
  exact (hg _ _ hb).2.1 rfl
set_option maxHeartbeats 1000000 in
set_option maxRecDepth 100000 in
theorem Ref_fitsAll_164_t {g : (Nat × Int32 × Int32 × Int32 × Int32 × Nat × am_H) → Option (Int32 × am_H)} (hg : ∀ s r, g s = some r → Ref_fitsAll_66_P s r) {v0 : Nat} {v3 : Int32} {v4 : Int32} {h : am_H} {r : (Int32 × am_H)} (hb : Ref_fitsAll_164_b g v0 v3 v4 h = some r) : Sx 89 mX12_fitsAll 164 [.ref v0, .retAddr 0, .retAddr 0, .int v3, .int v4, .retAddr 0] [] h (some (.int r.1)) r.2 := by
  unfold Ref_fitsAll_164_b at hb
  refine Sx.o (fun _ _ _ k => op_iconst (1 : Int32) dX12_fitsAll_164 (by decide) k) ?_
  refine Sx.o (fun _ _ _ k => ex_goto 169 dX12_fitsAll_165 (by decide) k) ?_
  exact (hg _ _ hb).2.2.2.2.2.2.2.1 rfl
set_option maxHeartbeats 1000000 in
set_option maxRecDepth 100000 in
theorem Ref_fitsAll_168_t {g : (Nat × Int32 × Int32 × Int32 × Int32 × Nat × am_H) → Option (Int32 × am_H)} (hg : ∀ s r, g s = some r → Ref_fitsAll_66_P s r) {v0 : Nat} {v3 : Int32} {v4 : Int32} {h : am_H} {r : (Int32 × am_H)} (hb : Ref_fitsAll_168_b g v0 v3 v4 h = some r) : Sx 89 mX12_fitsAll 168 [.ref v0, .retAddr 0, .retAddr 0, .int v3, .int v4, .retAddr 0] [] h (some (.int r.1)) r.2 := by
  unfold Ref_fitsAll_168_b at hb
  refine Sx.o (fun _ _ _ k => op_iconst (0 : Int32) dX12_fitsAll_168 (by decide) k) ?_
  exact (hg _ _ hb).2.2.2.2.2.2.2.1 rfl
set_option maxHeartbeats 1000000 in
set_option maxRecDepth 100000 in
theorem Ref_fitsAll_169_t {g : (Nat × Int32 × Int32 × Int32 × Int32 × Nat × am_H) → Option (Int32 × am_H)} (hg : ∀ s r, g s = some r → Ref_fitsAll_66_P s r) {v0 : Nat} {v3 : Int32} {v4 : Int32} {s0 : Int32} {h : am_H} {r : (Int32 × am_H)} (hb : Ref_fitsAll_169_b g v0 v3 v4 s0 h = some r) : Sx 89 mX12_fitsAll 169 [.ref v0, .retAddr 0, .retAddr 0, .int v3, .int v4, .retAddr 0] [.int s0] h (some (.int r.1)) r.2 := by
  unfold Ref_fitsAll_169_b at hb
  refine Sx.o (L' := [.ref v0, .retAddr 0, .int s0, .int v3, .int v4, .retAddr 0]) (fun _ _ _ k => ex_istore_n dX12_fitsAll_169 (by decide) k) ?_
  refine Sx.o (fun _ _ _ k => ex_iload_n dX12_fitsAll_170 rfl k) ?_
  refine Sx.b (fun _ _ _ k1 k2 => ex_if_eq 184 dX12_fitsAll_171 (by decide) k1 k2) (fun q => ?_) (fun q => ?_)
  · have hb42 := ip q hb
    exact (hg _ _ hb42).2.2.2.2.2.2.2.2.1 rfl
  · have hb43 := iq q hb
    refine Sx.o (fun _ _ _ k => ex_iload dX12_fitsAll_174 rfl k) ?_
    refine Sx.o (fun _ _ _ k => ex_iload_n dX12_fitsAll_176 rfl k) ?_
    refine Sx.b (fun _ _ _ k1 k2 => ex_icmp_ge 184 dX12_fitsAll_177 (by decide) k1 k2) (fun q => ?_) (fun q => ?_)
    · have hb44 := ip q hb43
      exact (hg _ _ hb44).2.2.2.2.2.2.2.2.1 rfl
    · have hb45 := iq q hb43
      refine Sx.o (fun _ _ _ k => ex_aload_n dX12_fitsAll_180 rfl rfl k) ?_
      obtain ⟨h46, e_h46, hb47⟩ := ob2 hb45
      refine sx_callV (dc := 87) (as := []) (stq := []) (by omega) dX12_fitsAll_181 MX12_steps kX12_343 iX12_steps sX12_steps rfl rfl (Ref_steps_o e_h46) rfl rfl (Nat.le_of_ble_eq_true rfl) (Nat.le_of_ble_eq_true rfl) (Ref_steps_s e_h46) rfl ?_
      exact (hg _ _ hb47).2.2.2.2.2.2.2.2.1 rfl
set_option maxHeartbeats 1000000 in
set_option maxRecDepth 100000 in
theorem Ref_fitsAll_184_t {g : (Nat × Int32 × Int32 × Int32 × Int32 × Nat × am_H) → Option (Int32 × am_H)} (hg : ∀ s r, g s = some r → Ref_fitsAll_66_P s r) {v0 : Nat} {v2 : Int32} {v3 : Int32} {v4 : Int32} {h : am_H} {r : (Int32 × am_H)} (hb : Ref_fitsAll_184_b g v0 v2 v3 v4 h = some r) : Sx 89 mX12_fitsAll 184 [.ref v0, .retAddr 0, .int v2, .int v3, .int v4, .retAddr 0] [] h (some (.int r.1)) r.2 := by
  unfold Ref_fitsAll_184_b at hb
  refine Sx.o (L' := [.ref v0, .retAddr 0, .int v2, .int v3, .int (v4 + (1 : Int32)), .retAddr 0]) (fun _ _ _ k => op_iinc (1 : Int32) dX12_fitsAll_184 (by decide) rfl (by decide) k) ?_
  refine Sx.o (fun _ _ _ k => ex_goto 66 dX12_fitsAll_187 (by decide) k) ?_
  exact (hg _ _ hb).1 rfl
theorem Ref_fitsAll_66_T : ∀ s r, fx Ref_fitsAll_66_F Ref_fitsAll_66_M s = some r → Ref_fitsAll_66_P s r := fx_ind Ref_fitsAll_66_M Ref_fitsAll_66_P (fun g hg s r hb => by
  unfold Ref_fitsAll_66_F at hb
  exact ⟨fun q => Ref_fitsAll_66_t hg (ip q hb), fun q => Ref_fitsAll_79_t hg (ip q (iq (by rw [q]; decide) hb)), fun q => Ref_fitsAll_135_t hg (ip q (iq (by rw [q]; decide) (iq (by rw [q]; decide) hb))), fun q => Ref_fitsAll_139_t hg (ip q (iq (by rw [q]; decide) (iq (by rw [q]; decide) (iq (by rw [q]; decide) hb)))), fun q => Ref_fitsAll_140_t hg (ip q (iq (by rw [q]; decide) (iq (by rw [q]; decide) (iq (by rw [q]; decide) (iq (by rw [q]; decide) hb))))), fun q => Ref_fitsAll_164_t hg (ip q (iq (by rw [q]; decide) (iq (by rw [q]; decide) (iq (by rw [q]; decide) (iq (by rw [q]; decide) (iq (by rw [q]; decide) hb)))))), fun q => Ref_fitsAll_168_t hg (ip q (iq (by rw [q]; decide) (iq (by rw [q]; decide) (iq (by rw [q]; decide) (iq (by rw [q]; decide) (iq (by rw [q]; decide) (iq (by rw [q]; decide) hb))))))), fun q => Ref_fitsAll_169_t hg (ip q (iq (by rw [q]; decide) (iq (by rw [q]; decide) (iq (by rw [q]; decide) (iq (by rw [q]; decide) (iq (by rw [q]; decide) (iq (by rw [q]; decide) (iq (by rw [q]; decide) hb)))))))), fun q => Ref_fitsAll_184_t hg (ip q (iq (by rw [q]; decide) (iq (by rw [q]; decide) (iq (by rw [q]; decide) (iq (by rw [q]; decide) (iq (by rw [q]; decide) (iq (by rw [q]; decide) (iq (by rw [q]; decide) (iq (by rw [q]; decide) hb))))))))), trivial⟩)
set_option maxHeartbeats 1000000 in
set_option maxRecDepth 100000 in
theorem Ref_fitsAll_66_r {g : (Nat × Int32 × Int32 × Int32 × Int32 × Nat × am_H) → Option (Int32 × am_H)} (hg : ∀ s r, g s = some r → Eqs s.2.2.2.2.2.2 r.2) {v0 : Nat} {v2 : Int32} {v3 : Int32} {v4 : Int32} {h : am_H} {r : (Int32 × am_H)} (hb : Ref_fitsAll_66_b g v0 v2 v3 v4 h = some r) : Eqs h r.2 := by
  unfold Ref_fitsAll_66_b at hb
  have w0 := Eqs.rf h
  by_cases q : v3 < v4
  · have hb1 := ip q hb
    obtain ⟨u3, e_u3, hb4⟩ := ob2 hb1
    obtain rfl := Option.some.inj hb4
    exact w0
  · have hb2 := iq q hb
    by_cases q : v2 = (0 : Int32)
    · have hb5 := ip q hb2
      obtain ⟨u7, e_u7, hb8⟩ := ob2 hb5
      obtain rfl := Option.some.inj hb8
      exact w0
    · have hb6 := iq q hb2
      exact w0.tr (hg _ _ hb6)
set_option maxHeartbeats 1000000 in
set_option maxRecDepth 100000 in
theorem Ref_fitsAll_79_r {g : (Nat × Int32 × Int32 × Int32 × Int32 × Nat × am_H) → Option (Int32 × am_H)} (hg : ∀ s r, g s = some r → Eqs s.2.2.2.2.2.2 r.2) {v0 : Nat} {v2 : Int32} {v3 : Int32} {v4 : Int32} {v5 : Int32} {h : am_H} {r : (Int32 × am_H)} (hb : Ref_fitsAll_79_b g v0 v2 v3 v4 v5 h = some r) : Eqs h r.2 := by
  unfold Ref_fitsAll_79_b at hb
  have w0 := Eqs.rf h
  obtain ⟨x9, e_x9, hb10⟩ := ob2 hb
  obtain ⟨x11, e_x11, hb12⟩ := ob2 hb10
  by_cases q : x11 ≤ v5
  · have hb13 := ip q hb12
    by_cases q : v2 = (0 : Int32)
    · have hb15 := ip q hb13
      exact w0.tr (hg _ _ hb15)
    · have hb16 := iq q hb13
      by_cases q : v4 = v3
      · have hb17 := ip q hb16
        exact w0.tr (hg _ _ hb17)
      · have hb18 := iq q hb16
        obtain ⟨r19, e_r19, hb20⟩ := ob2 hb18
        have w21 := w0.tr (Ref_canStep_q e_r19)
        by_cases q : r19.1 = (0 : Int32)
        · have hb22 := ip q hb20
          exact w21.tr (hg _ _ hb22)
        · have hb23 := iq q hb20
          exact w21.tr (hg _ _ hb23)
  · have hb14 := iq q hb12
    by_cases q : v2 = (0 : Int32)
    · have hb24 := ip q hb14
      exact w0.tr (hg _ _ hb24)
    · have hb25 := iq q hb14
      obtain ⟨x26, e_x26, hb27⟩ := ob2 hb25
      obtain ⟨x28, e_x28, hb29⟩ := ob2 hb27
      by_cases q : x28 = v4
      · have hb31 := ip q hb29
        obtain ⟨x32, e_x32, hb33⟩ := ob2 hb31
        obtain ⟨x34, e_x34, hb35⟩ := ob2 hb33
        obtain ⟨x36, e_x36, hb37⟩ := ob2 hb35
        obtain ⟨x38, e_x38, hb39⟩ := ob2 hb37
        by_cases q : x34 = x38
        · have hb41 := ip q hb39
          exact w0.tr (hg _ _ hb41)
        · have hb40 := iq q hb39
          exact w0.tr (hg _ _ hb40)
      · have hb30 := iq q hb29
        exact w0.tr (hg _ _ hb30)
set_option maxHeartbeats 1000000 in
set_option maxRecDepth 100000 in
theorem Ref_fitsAll_135_r {g : (Nat × Int32 × Int32 × Int32 × Int32 × Nat × am_H) → Option (Int32 × am_H)} (hg : ∀ s r, g s = some r → Eqs s.2.2.2.2.2.2 r.2) {v0 : Nat} {v3 : Int32} {v4 : Int32} {v5 : Int32} {h : am_H} {r : (Int32 × am_H)} (hb : Ref_fitsAll_135_b g v0 v3 v4 v5 h = some r) : Eqs h r.2 := by
  unfold Ref_fitsAll_135_b at hb
  have w0 := Eqs.rf h
  exact w0.tr (hg _ _ hb)
set_option maxHeartbeats 1000000 in
set_option maxRecDepth 100000 in
theorem Ref_fitsAll_139_r {g : (Nat × Int32 × Int32 × Int32 × Int32 × Nat × am_H) → Option (Int32 × am_H)} (hg : ∀ s r, g s = some r → Eqs s.2.2.2.2.2.2 r.2) {v0 : Nat} {v3 : Int32} {v4 : Int32} {v5 : Int32} {h : am_H} {r : (Int32 × am_H)} (hb : Ref_fitsAll_139_b g v0 v3 v4 v5 h = some r) : Eqs h r.2 := by
  unfold Ref_fitsAll_139_b at hb
  have w0 := Eqs.rf h
  exact w0.tr (hg _ _ hb)
set_option maxHeartbeats 1000000 in
set_option maxRecDepth 100000 in
theorem Ref_fitsAll_140_r {g : (Nat × Int32 × Int32 × Int32 × Int32 × Nat × am_H) → Option (Int32 × am_H)} (hg : ∀ s r, g s = some r → Eqs s.2.2.2.2.2.2 r.2) {v0 : Nat} {v3 : Int32} {v4 : Int32} {v5 : Int32} {s0 : Int32} {h : am_H} {r : (Int32 × am_H)} (hb : Ref_fitsAll_140_b g v0 v3 v4 v5 s0 h = some r) : Eqs h r.2 := by
  unfold Ref_fitsAll_140_b at hb
  have w0 := Eqs.rf h
  exact w0.tr (hg _ _ hb)
set_option maxHeartbeats 1000000 in
set_option maxRecDepth 100000 in
theorem Ref_fitsAll_164_r {g : (Nat × Int32 × Int32 × Int32 × Int32 × Nat × am_H) → Option (Int32 × am_H)} (hg : ∀ s r, g s = some r → Eqs s.2.2.2.2.2.2 r.2) {v0 : Nat} {v3 : Int32} {v4 : Int32} {h : am_H} {r : (Int32 × am_H)} (hb : Ref_fitsAll_164_b g v0 v3 v4 h = some r) : Eqs h r.2 := by
  unfold Ref_fitsAll_164_b at hb
  have w0 := Eqs.rf h
  exact w0.tr (hg _ _ hb)
set_option maxHeartbeats 1000000 in
set_option maxRecDepth 100000 in
theorem Ref_fitsAll_168_r {g : (Nat × Int32 × Int32 × Int32 × Int32 × Nat × am_H) → Option (Int32 × am_H)} (hg : ∀ s r, g s = some r → Eqs s.2.2.2.2.2.2 r.2) {v0 : Nat} {v3 : Int32} {v4 : Int32} {h : am_H} {r : (Int32 × am_H)} (hb : Ref_fitsAll_168_b g v0 v3 v4 h = some r) : Eqs h r.2 := by
  unfold Ref_fitsAll_168_b at hb
  have w0 := Eqs.rf h
  exact w0.tr (hg _ _ hb)
set_option maxHeartbeats 1000000 in
set_option maxRecDepth 100000 in
theorem Ref_fitsAll_169_r {g : (Nat × Int32 × Int32 × Int32 × Int32 × Nat × am_H) → Option (Int32 × am_H)} (hg : ∀ s r, g s = some r → Eqs s.2.2.2.2.2.2 r.2) {v0 : Nat} {v3 : Int32} {v4 : Int32} {s0 : Int32} {h : am_H} {r : (Int32 × am_H)} (hb : Ref_fitsAll_169_b g v0 v3 v4 s0 h = some r) : Eqs h r.2 := by
  unfold Ref_fitsAll_169_b at hb
  have w0 := Eqs.rf h
  by_cases q : s0 = (0 : Int32)
  · have hb42 := ip q hb
    exact w0.tr (hg _ _ hb42)
  · have hb43 := iq q hb
    by_cases q : v3 ≤ v4
    · have hb44 := ip q hb43
      exact w0.tr (hg _ _ hb44)
    · have hb45 := iq q hb43
      obtain ⟨h46, e_h46, hb47⟩ := ob2 hb45
      have w48 := w0.tr (Ref_steps_q e_h46)
      exact w48.tr (hg _ _ hb47)
set_option maxHeartbeats 1000000 in
set_option maxRecDepth 100000 in
theorem Ref_fitsAll_184_r {g : (Nat × Int32 × Int32 × Int32 × Int32 × Nat × am_H) → Option (Int32 × am_H)} (hg : ∀ s r, g s = some r → Eqs s.2.2.2.2.2.2 r.2) {v0 : Nat} {v2 : Int32} {v3 : Int32} {v4 : Int32} {h : am_H} {r : (Int32 × am_H)} (hb : Ref_fitsAll_184_b g v0 v2 v3 v4 h = some r) : Eqs h r.2 := by
  unfold Ref_fitsAll_184_b at hb
  have w0 := Eqs.rf h
  exact w0.tr (hg _ _ hb)
theorem Ref_fitsAll_66_Q : ∀ s r, fx Ref_fitsAll_66_F Ref_fitsAll_66_M s = some r → Eqs s.2.2.2.2.2.2 r.2 := fx_ind Ref_fitsAll_66_M (fun s r => Eqs s.2.2.2.2.2.2 r.2) (fun g hg s r hb => by
  unfold Ref_fitsAll_66_F at hb
  by_cases q0 : s.1 = 66
  · exact Ref_fitsAll_66_r hg (ip q0 hb)
  · have hb0 := iq q0 hb
    by_cases q1 : s.1 = 79
    · exact Ref_fitsAll_79_r hg (ip q1 hb0)
    · have hb1 := iq q1 hb0
      by_cases q2 : s.1 = 135
      · exact Ref_fitsAll_135_r hg (ip q2 hb1)
      · have hb2 := iq q2 hb1
        by_cases q3 : s.1 = 139
        · exact Ref_fitsAll_139_r hg (ip q3 hb2)
        · have hb3 := iq q3 hb2
          by_cases q4 : s.1 = 140
          · exact Ref_fitsAll_140_r hg (ip q4 hb3)
          · have hb4 := iq q4 hb3
            by_cases q5 : s.1 = 164
            · exact Ref_fitsAll_164_r hg (ip q5 hb4)
            · have hb5 := iq q5 hb4
              by_cases q6 : s.1 = 168
              · exact Ref_fitsAll_168_r hg (ip q6 hb5)
              · have hb6 := iq q6 hb5
                by_cases q7 : s.1 = 169
                · exact Ref_fitsAll_169_r hg (ip q7 hb6)
                · have hb7 := iq q7 hb6
                  by_cases q8 : s.1 = 184
                  · exact Ref_fitsAll_184_r hg (ip q8 hb7)
                  · have hb8 := iq q8 hb7
                    exact nomatch hb8)
noncomputable def Ref_fitsAll_66 (v0 : Nat) (v2 : Int32) (v3 : Int32) (v4 : Int32) (h : am_H) : Option (Int32 × am_H) := fx Ref_fitsAll_66_F Ref_fitsAll_66_M (66, v2, v3, v4, 0, v0, h)
noncomputable def Ref_fitsAll_79 (v0 : Nat) (v2 : Int32) (v3 : Int32) (v4 : Int32) (v5 : Int32) (h : am_H) : Option (Int32 × am_H) := fx Ref_fitsAll_66_F Ref_fitsAll_66_M (79, v2, v3, v4, v5, v0, h)
noncomputable def Ref_fitsAll_135 (v0 : Nat) (v3 : Int32) (v4 : Int32) (v5 : Int32) (h : am_H) : Option (Int32 × am_H) := fx Ref_fitsAll_66_F Ref_fitsAll_66_M (135, v3, v4, v5, 0, v0, h)
noncomputable def Ref_fitsAll_139 (v0 : Nat) (v3 : Int32) (v4 : Int32) (v5 : Int32) (h : am_H) : Option (Int32 × am_H) := fx Ref_fitsAll_66_F Ref_fitsAll_66_M (139, v3, v4, v5, 0, v0, h)
noncomputable def Ref_fitsAll_140 (v0 : Nat) (v3 : Int32) (v4 : Int32) (v5 : Int32) (s0 : Int32) (h : am_H) : Option (Int32 × am_H) := fx Ref_fitsAll_66_F Ref_fitsAll_66_M (140, v3, v4, v5, s0, v0, h)
noncomputable def Ref_fitsAll_164 (v0 : Nat) (v3 : Int32) (v4 : Int32) (h : am_H) : Option (Int32 × am_H) := fx Ref_fitsAll_66_F Ref_fitsAll_66_M (164, v3, v4, 0, 0, v0, h)
noncomputable def Ref_fitsAll_168 (v0 : Nat) (v3 : Int32) (v4 : Int32) (h : am_H) : Option (Int32 × am_H) := fx Ref_fitsAll_66_F Ref_fitsAll_66_M (168, v3, v4, 0, 0, v0, h)
noncomputable def Ref_fitsAll_169 (v0 : Nat) (v3 : Int32) (v4 : Int32) (s0 : Int32) (h : am_H) : Option (Int32 × am_H) := fx Ref_fitsAll_66_F Ref_fitsAll_66_M (169, v3, v4, s0, 0, v0, h)
noncomputable def Ref_fitsAll_184 (v0 : Nat) (v2 : Int32) (v3 : Int32) (v4 : Int32) (h : am_H) : Option (Int32 × am_H) := fx Ref_fitsAll_66_F Ref_fitsAll_66_M (184, v2, v3, v4, 0, v0, h)
set_option maxHeartbeats 1000000 in
set_option maxRecDepth 100000 in
theorem Ref_fitsAll_66_e (v0 : Nat) (v2 : Int32) (v3 : Int32) (v4 : Int32) (h : am_H) : Ref_fitsAll_66 v0 v2 v3 v4 h = (if v3 < v4 then (nrZ v2).bind fun u3 => some (v2, h) else if v2 = (0 : Int32) then (nrZ v2).bind fun u7 => some (v2, h) else Ref_fitsAll_79 v0 v2 v3 v4 (0 : Int32) h) := (fx_eq Ref_fitsAll_66_M (66, v2, v3, v4, 0, v0, h)).trans (if_pos rfl)
theorem Ref_fitsAll_66_q {v0 : Nat} {v2 : Int32} {v3 : Int32} {v4 : Int32} {h : am_H} {r : (Int32 × am_H)} (hb : Ref_fitsAll_66 v0 v2 v3 v4 h = some r) : Eqs h r.2 := Ref_fitsAll_66_Q _ _ hb
theorem Ref_fitsAll_66_s {v0 : Nat} {v2 : Int32} {v3 : Int32} {v4 : Int32} {h : am_H} {r : (Int32 × am_H)} (hb : Ref_fitsAll_66 v0 v2 v3 v4 h = some r) : Sx 89 mX12_fitsAll 66 [.ref v0, .retAddr 0, .int v2, .int v3, .int v4, .retAddr 0] [] h (some (.int r.1)) r.2 := (Ref_fitsAll_66_T _ _ hb).1 rfl
set_option maxHeartbeats 1000000 in
set_option maxRecDepth 100000 in
theorem Ref_fitsAll_79_e (v0 : Nat) (v2 : Int32) (v3 : Int32) (v4 : Int32) (v5 : Int32) (h : am_H) : Ref_fitsAll_79 v0 v2 v3 v4 v5 h = ((gR h 12 v0 2).bind fun x9 => (aI h 0 x9 (115 : Int32)).bind fun x11 => if x11 ≤ v5 then if v2 = (0 : Int32) then Ref_fitsAll_168 v0 v3 v4 h else if v4 = v3 then Ref_fitsAll_164 v0 v3 v4 h else (Ref_canStep v0 h).bind fun r19 => if r19.1 = (0 : Int32) then Ref_fitsAll_168 v0 v3 v4 r19.2 else Ref_fitsAll_164 v0 v3 v4 r19.2 else if v2 = (0 : Int32) then Ref_fitsAll_139 v0 v3 v4 v5 h else (gR h 12 v0 2).bind fun x26 => (aI h 0 x26 ((97 : Int32) + ((2 : Int32) * v5))).bind fun x28 => if x28 = v4 then (gR h 12 v0 2).bind fun x32 => (aI h 0 x32 (((97 : Int32) + ((2 : Int32) * v5)) + (1 : Int32))).bind fun x34 => (gR h 12 v0 29).bind fun x36 => (aI h 0 x36 (0 : Int32)).bind fun x38 => if x34 = x38 then Ref_fitsAll_135 v0 v3 v4 v5 h else Ref_fitsAll_139 v0 v3 v4 v5 h else Ref_fitsAll_135 v0 v3 v4 v5 h) := (fx_eq Ref_fitsAll_66_M (79, v2, v3, v4, v5, v0, h)).trans ((if_neg (show ¬ (79 : Nat) = 66 by decide)).trans (if_pos rfl))
theorem Ref_fitsAll_79_q {v0 : Nat} {v2 : Int32} {v3 : Int32} {v4 : Int32} {v5 : Int32} {h : am_H} {r : (Int32 × am_H)} (hb : Ref_fitsAll_79 v0 v2 v3 v4 v5 h = some r) : Eqs h r.2 := Ref_fitsAll_66_Q _ _ hb
theorem Ref_fitsAll_79_s {v0 : Nat} {v2 : Int32} {v3 : Int32} {v4 : Int32} {v5 : Int32} {h : am_H} {r : (Int32 × am_H)} (hb : Ref_fitsAll_79 v0 v2 v3 v4 v5 h = some r) : Sx 89 mX12_fitsAll 79 [.ref v0, .retAddr 0, .int v2, .int v3, .int v4, .int v5] [] h (some (.int r.1)) r.2 := (Ref_fitsAll_66_T _ _ hb).2.1 rfl
set_option maxHeartbeats 1000000 in
set_option maxRecDepth 100000 in
theorem Ref_fitsAll_135_e (v0 : Nat) (v3 : Int32) (v4 : Int32) (v5 : Int32) (h : am_H) : Ref_fitsAll_135 v0 v3 v4 v5 h = (Ref_fitsAll_140 v0 v3 v4 v5 (1 : Int32) h) := (fx_eq Ref_fitsAll_66_M (135, v3, v4, v5, 0, v0, h)).trans ((if_neg (show ¬ (135 : Nat) = 66 by decide)).trans ((if_neg (show ¬ (135 : Nat) = 79 by decide)).trans (if_pos rfl)))
theorem Ref_fitsAll_135_q {v0 : Nat} {v3 : Int32} {v4 : Int32} {v5 : Int32} {h : am_H} {r : (Int32 × am_H)} (hb : Ref_fitsAll_135 v0 v3 v4 v5 h = some r) : Eqs h r.2 := Ref_fitsAll_66_Q _ _ hb
theorem Ref_fitsAll_135_s {v0 : Nat} {v3 : Int32} {v4 : Int32} {v5 : Int32} {h : am_H} {r : (Int32 × am_H)} (hb : Ref_fitsAll_135 v0 v3 v4 v5 h = some r) : Sx 89 mX12_fitsAll 135 [.ref v0, .retAddr 0, .retAddr 0, .int v3, .int v4, .int v5] [] h (some (.int r.1)) r.2 := (Ref_fitsAll_66_T _ _ hb).2.2.1 rfl
set_option maxHeartbeats 1000000 in
set_option maxRecDepth 100000 in
theorem Ref_fitsAll_139_e (v0 : Nat) (v3 : Int32) (v4 : Int32) (v5 : Int32) (h : am_H) : Ref_fitsAll_139 v0 v3 v4 v5 h = (Ref_fitsAll_140 v0 v3 v4 v5 (0 : Int32) h) := (fx_eq Ref_fitsAll_66_M (139, v3, v4, v5, 0, v0, h)).trans ((if_neg (show ¬ (139 : Nat) = 66 by decide)).trans ((if_neg (show ¬ (139 : Nat) = 79 by decide)).trans ((if_neg (show ¬ (139 : Nat) = 135 by decide)).trans (if_pos rfl))))
theorem Ref_fitsAll_139_q {v0 : Nat} {v3 : Int32} {v4 : Int32} {v5 : Int32} {h : am_H} {r : (Int32 × am_H)} (hb : Ref_fitsAll_139 v0 v3 v4 v5 h = some r) : Eqs h r.2 := Ref_fitsAll_66_Q _ _ hb
theorem Ref_fitsAll_139_s {v0 : Nat} {v3 : Int32} {v4 : Int32} {v5 : Int32} {h : am_H} {r : (Int32 × am_H)} (hb : Ref_fitsAll_139 v0 v3 v4 v5 h = some r) : Sx 89 mX12_fitsAll 139 [.ref v0, .retAddr 0, .retAddr 0, .int v3, .int v4, .int v5] [] h (some (.int r.1)) r.2 := (Ref_fitsAll_66_T _ _ hb).2.2.2.1 rfl
set_option maxHeartbeats 1000000 in
set_option maxRecDepth 100000 in
theorem Ref_fitsAll_140_e (v0 : Nat) (v3 : Int32) (v4 : Int32) (v5 : Int32) (s0 : Int32) (h : am_H) : Ref_fitsAll_140 v0 v3 v4 v5 s0 h = (Ref_fitsAll_79 v0 s0 v3 v4 (v5 + (1 : Int32)) h) := (fx_eq Ref_fitsAll_66_M (140, v3, v4, v5, s0, v0, h)).trans ((if_neg (show ¬ (140 : Nat) = 66 by decide)).trans ((if_neg (show ¬ (140 : Nat) = 79 by decide)).trans ((if_neg (show ¬ (140 : Nat) = 135 by decide)).trans ((if_neg (show ¬ (140 : Nat) = 139 by decide)).trans (if_pos rfl)))))
theorem Ref_fitsAll_140_q {v0 : Nat} {v3 : Int32} {v4 : Int32} {v5 : Int32} {s0 : Int32} {h : am_H} {r : (Int32 × am_H)} (hb : Ref_fitsAll_140 v0 v3 v4 v5 s0 h = some r) : Eqs h r.2 := Ref_fitsAll_66_Q _ _ hb
theorem Ref_fitsAll_140_s {v0 : Nat} {v3 : Int32} {v4 : Int32} {v5 : Int32} {s0 : Int32} {h : am_H} {r : (Int32 × am_H)} (hb : Ref_fitsAll_140 v0 v3 v4 v5 s0 h = some r) : Sx 89 mX12_fitsAll 140 [.ref v0, .retAddr 0, .retAddr 0, .int v3, .int v4, .int v5] [.int s0] h (some (.int r.1)) r.2 := (Ref_fitsAll_66_T _ _ hb).2.2.2.2.1 rfl
set_option maxHeartbeats 1000000 in
set_option maxRecDepth 100000 in
theorem Ref_fitsAll_164_e (v0 : Nat) (v3 : Int32) (v4 : Int32) (h : am_H) : Ref_fitsAll_164 v0 v3 v4 h = (Ref_fitsAll_169 v0 v3 v4 (1 : Int32) h) := (fx_eq Ref_fitsAll_66_M (164, v3, v4, 0, 0, v0, h)).trans ((if_neg (show ¬ (164 : Nat) = 66 by decide)).trans ((if_neg (show ¬ (164 : Nat) = 79 by decide)).trans ((if_neg (show ¬ (164 : Nat) = 135 by decide)).trans ((if_neg (show ¬ (164 : Nat) = 139 by decide)).trans ((if_neg (show ¬ (164 : Nat) = 140 by decide)).trans (if_pos rfl))))))
theorem Ref_fitsAll_164_q {v0 : Nat} {v3 : Int32} {v4 : Int32} {h : am_H} {r : (Int32 × am_H)} (hb : Ref_fitsAll_164 v0 v3 v4 h = some r) : Eqs h r.2 := Ref_fitsAll_66_Q _ _ hb
theorem Ref_fitsAll_164_s {v0 : Nat} {v3 : Int32} {v4 : Int32} {h : am_H} {r : (Int32 × am_H)} (hb : Ref_fitsAll_164 v0 v3 v4 h = some r) : Sx 89 mX12_fitsAll 164 [.ref v0, .retAddr 0, .retAddr 0, .int v3, .int v4, .retAddr 0] [] h (some (.int r.1)) r.2 := (Ref_fitsAll_66_T _ _ hb).2.2.2.2.2.1 rfl
set_option maxHeartbeats 1000000 in
set_option maxRecDepth 100000 in
theorem Ref_fitsAll_168_e (v0 : Nat) (v3 : Int32) (v4 : Int32) (h : am_H) : Ref_fitsAll_168 v0 v3 v4 h = (Ref_fitsAll_169 v0 v3 v4 (0 : Int32) h) := (fx_eq Ref_fitsAll_66_M (168, v3, v4, 0, 0, v0, h)).trans ((if_neg (show ¬ (168 : Nat) = 66 by decide)).trans ((if_neg (show ¬ (168 : Nat) = 79 by decide)).trans ((if_neg (show ¬ (168 : Nat) = 135 by decide)).trans ((if_neg (show ¬ (168 : Nat) = 139 by decide)).trans ((if_neg (show ¬ (168 : Nat) = 140 by decide)).trans ((if_neg (show ¬ (168 : Nat) = 164 by decide)).trans (if_pos rfl)))))))
theorem Ref_fitsAll_168_q {v0 : Nat} {v3 : Int32} {v4 : Int32} {h : am_H} {r : (Int32 × am_H)} (hb : Ref_fitsAll_168 v0 v3 v4 h = some r) : Eqs h r.2 := Ref_fitsAll_66_Q _ _ hb
theorem Ref_fitsAll_168_s {v0 : Nat} {v3 : Int32} {v4 : Int32} {h : am_H} {r : (Int32 × am_H)} (hb : Ref_fitsAll_168 v0 v3 v4 h = some r) : Sx 89 mX12_fitsAll 168 [.ref v0, .retAddr 0, .retAddr 0, .int v3, .int v4, .retAddr 0] [] h (some (.int r.1)) r.2 := (Ref_fitsAll_66_T _ _ hb).2.2.2.2.2.2.1 rfl
set_option maxHeartbeats 1000000 in
set_option maxRecDepth 100000 in
theorem Ref_fitsAll_169_e (v0 : Nat) (v3 : Int32) (v4 : Int32) (s0 : Int32) (h : am_H) : Ref_fitsAll_169 v0 v3 v4 s0 h = (if s0 = (0 : Int32) then Ref_fitsAll_184 v0 s0 v3 v4 h else if v3 ≤ v4 then Ref_fitsAll_184 v0 s0 v3 v4 h else (Ref_steps v0 h).bind fun h46 => Ref_fitsAll_184 v0 s0 v3 v4 h46) := (fx_eq Ref_fitsAll_66_M (169, v3, v4, s0, 0, v0, h)).trans ((if_neg (show ¬ (169 : Nat) = 66 by decide)).trans ((if_neg (show ¬ (169 : Nat) = 79 by decide)).trans ((if_neg (show ¬ (169 : Nat) = 135 by decide)).trans ((if_neg (show ¬ (169 : Nat) = 139 by decide)).trans ((if_neg (show ¬ (169 : Nat) = 140 by decide)).trans ((if_neg (show ¬ (169 : Nat) = 164 by decide)).trans ((if_neg (show ¬ (169 : Nat) = 168 by decide)).trans (if_pos rfl))))))))
theorem Ref_fitsAll_169_q {v0 : Nat} {v3 : Int32} {v4 : Int32} {s0 : Int32} {h : am_H} {r : (Int32 × am_H)} (hb : Ref_fitsAll_169 v0 v3 v4 s0 h = some r) : Eqs h r.2 := Ref_fitsAll_66_Q _ _ hb
theorem Ref_fitsAll_169_s {v0 : Nat} {v3 : Int32} {v4 : Int32} {s0 : Int32} {h : am_H} {r : (Int32 × am_H)} (hb : Ref_fitsAll_169 v0 v3 v4 s0 h = some r) : Sx 89 mX12_fitsAll 169 [.ref v0, .retAddr 0, .retAddr 0, .int v3, .int v4, .retAddr 0] [.int s0] h (some (.int r.1)) r.2 := (Ref_fitsAll_66_T _ _ hb).2.2.2.2.2.2.2.1 rfl
set_option maxHeartbeats 1000000 in
set_option maxRecDepth 100000 in
theorem Ref_fitsAll_184_e (v0 : Nat) (v2 : Int32) (v3 : Int32) (v4 : Int32) (h : am_H) : Ref_fitsAll_184 v0 v2 v3 v4 h = (Ref_fitsAll_66 v0 v2 v3 (v4 + (1 : Int32)) h) := (fx_eq Ref_fitsAll_66_M (184, v2, v3, v4, 0, v0, h)).trans ((if_neg (show ¬ (184 : Nat) = 66 by decide)).trans ((if_neg (show ¬ (184 : Nat) = 79 by decide)).trans ((if_neg (show ¬ (184 : Nat) = 135 by decide)).trans ((if_neg (show ¬ (184 : Nat) = 139 by decide)).trans ((if_neg (show ¬ (184 : Nat) = 140 by decide)).trans ((if_neg (show ¬ (184 : Nat) = 164 by decide)).trans ((if_neg (show ¬ (184 : Nat) = 168 by decide)).trans ((if_neg (show ¬ (184 : Nat) = 169 by decide)).trans (if_pos rfl)))))))))
theorem Ref_fitsAll_184_q {v0 : Nat} {v2 : Int32} {v3 : Int32} {v4 : Int32} {h : am_H} {r : (Int32 × am_H)} (hb : Ref_fitsAll_184 v0 v2 v3 v4 h = some r) : Eqs h r.2 := Ref_fitsAll_66_Q _ _ hb
theorem Ref_fitsAll_184_s {v0 : Nat} {v2 : Int32} {v3 : Int32} {v4 : Int32} {h : am_H} {r : (Int32 × am_H)} (hb : Ref_fitsAll_184 v0 v2 v3 v4 h = some r) : Sx 89 mX12_fitsAll 184 [.ref v0, .retAddr 0, .int v2, .int v3, .int v4, .retAddr 0] [] h (some (.int r.1)) r.2 := (Ref_fitsAll_66_T _ _ hb).2.2.2.2.2.2.2.2.1 rfl
set_option maxHeartbeats 1000000 in
set_option maxRecDepth 100000 in
noncomputable def Ref_fitsAll_12_b (g : (Nat × Int32 × Int32 × Int32 × Nat × am_H) → Option (Int32 × am_H)) (v0 : Nat) (v2 : Int32) (v3 : Int32) (v4 : Int32) (h : am_H) : Option (Int32 × am_H) := (gR h 12 v0 2).bind fun x49 => (aI h 0 x49 (115 : Int32)).bind fun x51 => if x51 ≤ v4 then Ref_fitsAll_66 v0 v2 v3 (0 : Int32) h else (gR h 12 v0 2).bind fun x55 => (aI h 0 x55 ((97 : Int32) + ((2 : Int32) * v4))).bind fun x57 => if x57 ≤ v3 then g (56, v2, v4, v3, v0, h) else (gR h 12 v0 2).bind fun x61 => (aI h 0 x61 ((97 : Int32) + ((2 : Int32) * v4))).bind fun x63 => g (56, v2, v4, x63, v0, h)
set_option maxHeartbeats 1000000 in
set_option maxRecDepth 100000 in
theorem Ref_fitsAll_12_m {g g2 : (Nat × Int32 × Int32 × Int32 × Nat × am_H) → Option (Int32 × am_H)} (hg : ∀ s, Le (g s) (g2 s)) (v0 : Nat) (v2 : Int32) (v3 : Int32) (v4 : Int32) (h : am_H) : Le (Ref_fitsAll_12_b g v0 v2 v3 v4 h) (Ref_fitsAll_12_b g2 v0 v2 v3 v4 h) := by unfold Ref_fitsAll_12_b; exact le_b (le_r _) fun x49 => le_b (le_r _) fun x51 => le_i (le_r _) (le_b (le_r _) fun x55 => le_b (le_r _) fun x57 => le_i (hg _) (le_b (le_r _) fun x61 => le_b (le_r _) fun x63 => hg _))
set_option maxHeartbeats 1000000 in
set_option maxRecDepth 100000 in
noncomputable def Ref_fitsAll_56_b (g : (Nat × Int32 × Int32 × Int32 × Nat × am_H) → Option (Int32 × am_H)) (v0 : Nat) (v2 : Int32) (v4 : Int32) (s0 : Int32) (h : am_H) : Option (Int32 × am_H) := g (12, v2, s0, (v4 + (1 : Int32)), v0, h)
set_option maxHeartbeats 1000000 in
set_option maxRecDepth 100000 in
theorem Ref_fitsAll_56_m {g g2 : (Nat × Int32 × Int32 × Int32 × Nat × am_H) → Option (Int32 × am_H)} (hg : ∀ s, Le (g s) (g2 s)) (v0 : Nat) (v2 : Int32) (v4 : Int32) (s0 : Int32) (h : am_H) : Le (Ref_fitsAll_56_b g v0 v2 v4 s0 h) (Ref_fitsAll_56_b g2 v0 v2 v4 s0 h) := by unfold Ref_fitsAll_56_b; exact hg _
noncomputable def Ref_fitsAll_12_F (g : (Nat × Int32 × Int32 × Int32 × Nat × am_H) → Option (Int32 × am_H)) (s : (Nat × Int32 × Int32 × Int32 × Nat × am_H)) : Option (Int32 × am_H) := if s.1 = 12 then Ref_fitsAll_12_b g s.2.2.2.2.1 s.2.1 s.2.2.1 s.2.2.2.1 s.2.2.2.2.2 else if s.1 = 56 then Ref_fitsAll_56_b g s.2.2.2.2.1 s.2.1 s.2.2.1 s.2.2.2.1 s.2.2.2.2.2 else none
theorem Ref_fitsAll_12_M : Mn Ref_fitsAll_12_F := fun g g2 hg s => by unfold Ref_fitsAll_12_F; exact le_i (Ref_fitsAll_12_m hg s.2.2.2.2.1 s.2.1 s.2.2.1 s.2.2.2.1 s.2.2.2.2.2) (le_i (Ref_fitsAll_56_m hg s.2.2.2.2.1 s.2.1 s.2.2.1 s.2.2.2.1 s.2.2.2.2.2) (le_r _))
def Ref_fitsAll_12_P (s : (Nat × Int32 × Int32 × Int32 × Nat × am_H)) (r : (Int32 × am_H)) : Prop := (s.1 = 12 → Sx 89 mX12_fitsAll 12 [.ref s.2.2.2.2.1, .retAddr 0, .int s.2.1, .int s.2.2.1, .int s.2.2.2.1, .retAddr 0] [] s.2.2.2.2.2 (some (.int r.1)) r.2) ∧ (s.1 = 56 → Sx 89 mX12_fitsAll 56 [.ref s.2.2.2.2.1, .retAddr 0, .int s.2.1, .retAddr 0, .int s.2.2.1, .retAddr 0] [.int s.2.2.2.1] s.2.2.2.2.2 (some (.int r.1)) r.2) ∧ True
set_option maxHeartbeats 1000000 in
set_option maxRecDepth 100000 in
theorem Ref_fitsAll_12_t {g : (Nat × Int32 × Int32 × Int32 × Nat × am_H) → Option (Int32 × am_H)} (hg : ∀ s r, g s = some r → Ref_fitsAll_12_P s r) {v0 : Nat} {v2 : Int32} {v3 : Int32} {v4 : Int32} {h : am_H} {r : (Int32 × am_H)} (hb : Ref_fitsAll_12_b g v0 v2 v3 v4 h = some r) : Sx 89 mX12_fitsAll 12 [.ref v0, .retAddr 0, .int v2, .int v3, .int v4, .retAddr 0] [] h (some (.int r.1)) r.2 := by
  unfold Ref_fitsAll_12_b at hb
  refine Sx.o (fun _ _ _ k => ex_iload dX12_fitsAll_12 rfl k) ?_
  refine Sx.o (fun _ _ _ k => ex_aload_n dX12_fitsAll_14 rfl rfl k) ?_
  obtain ⟨x49, e_x49, hb50⟩ := ob2 hb
  refine Sx.o (fun _ _ _ k => op_getR fX12_24 dX12_fitsAll_15 e_x49 k) ?_
  refine Sx.o (fun _ _ _ k => op_bipush (115 : Int32) dX12_fitsAll_18 (by decide) k) ?_
  obtain ⟨x51, e_x51, hb52⟩ := ob2 hb50
  refine Sx.o (fun _ _ _ k => op_iald dX12_fitsAll_20 e_x51 k) ?_
  refine Sx.b (fun _ _ _ k1 k2 => ex_icmp_ge 63 dX12_fitsAll_21 (by decide) k1 k2) (fun q => ?_) (fun q => ?_)
  · have hb53 := ip q hb52
    refine Sx.o (fun _ _ _ k => op_iconst (0 : Int32) dX12_fitsAll_63 (by decide) k) ?_
    refine Sx.o (L' := [.ref v0, .retAddr 0, .int v2, .int v3, .int (0 : Int32), .retAddr 0]) (fun _ _ _ k => ex_istore dX12_fitsAll_64 (by decide) k) ?_
    exact Ref_fitsAll_66_s hb53
  · have hb54 := iq q hb52
    refine Sx.o (fun _ _ _ k => ex_iload_n dX12_fitsAll_24 rfl k) ?_
    refine Sx.o (fun _ _ _ k => ex_aload_n dX12_fitsAll_25 rfl rfl k) ?_
    obtain ⟨x55, e_x55, hb56⟩ := ob2 hb54
    refine Sx.o (fun _ _ _ k => op_getR fX12_24 dX12_fitsAll_26 e_x55 k) ?_
    refine Sx.o (fun _ _ _ k => op_bipush (97 : Int32) dX12_fitsAll_29 (by decide) k) ?_
    refine Sx.o (fun _ _ _ k => op_iconst (2 : Int32) dX12_fitsAll_31 (by decide) k) ?_
    refine Sx.o (fun _ _ _ k => ex_iload dX12_fitsAll_32 rfl k) ?_
    refine Sx.o (fun _ _ _ k => ex_imul dX12_fitsAll_34 k) ?_
    refine Sx.o (fun _ _ _ k => ex_iadd dX12_fitsAll_35 k) ?_
    obtain ⟨x57, e_x57, hb58⟩ := ob2 hb56
    refine Sx.o (fun _ _ _ k => op_iald dX12_fitsAll_36 e_x57 k) ?_
    refine Sx.b (fun _ _ _ k1 k2 => ex_icmp_ge 55 dX12_fitsAll_37 (by decide) k1 k2) (fun q => ?_) (fun q => ?_)
    · have hb59 := ip q hb58
      refine Sx.o (fun _ _ _ k => ex_iload_n dX12_fitsAll_55 rfl k) ?_
      refine Sx.fg [true, true, true, false, true, true] ?_
      exact (hg _ _ hb59).2.1 rfl
    · have hb60 := iq q hb58
      refine Sx.o (fun _ _ _ k => ex_aload_n dX12_fitsAll_40 rfl rfl k) ?_
      obtain ⟨x61, e_x61, hb62⟩ := ob2 hb60
      refine Sx.o (fun _ _ _ k => op_getR fX12_24 dX12_fitsAll_41 e_x61 k) ?_
      refine Sx.o (fun _ _ _ k => op_bipush (97 : Int32) dX12_fitsAll_44 (by decide) k) ?_
      refine Sx.o (fun _ _ _ k => op_iconst (2 : Int32) dX12_fitsAll_46 (by decide) k) ?_
      refine Sx.o (fun _ _ _ k => ex_iload dX12_fitsAll_47 rfl k) ?_
      refine Sx.o (fun _ _ _ k => ex_imul dX12_fitsAll_49 k) ?_
      refine Sx.o (fun _ _ _ k => ex_iadd dX12_fitsAll_50 k) ?_
      obtain ⟨x63, e_x63, hb64⟩ := ob2 hb62
      refine Sx.o (fun _ _ _ k => op_iald dX12_fitsAll_51 e_x63 k) ?_
      refine Sx.o (fun _ _ _ k => ex_goto 56 dX12_fitsAll_52 (by decide) k) ?_
      refine Sx.fg [true, true, true, false, true, true] ?_
      exact (hg _ _ hb64).2.1 rfl
set_option maxHeartbeats 1000000 in
set_option maxRecDepth 100000 in
theorem Ref_fitsAll_56_t {g : (Nat × Int32 × Int32 × Int32 × Nat × am_H) → Option (Int32 × am_H)} (hg : ∀ s r, g s = some r → Ref_fitsAll_12_P s r) {v0 : Nat} {v2 : Int32} {v4 : Int32} {s0 : Int32} {h : am_H} {r : (Int32 × am_H)} (hb : Ref_fitsAll_56_b g v0 v2 v4 s0 h = some r) : Sx 89 mX12_fitsAll 56 [.ref v0, .retAddr 0, .int v2, .retAddr 0, .int v4, .retAddr 0] [.int s0] h (some (.int r.1)) r.2 := by
  unfold Ref_fitsAll_56_b at hb
  refine Sx.o (L' := [.ref v0, .retAddr 0, .int v2, .int s0, .int v4, .retAddr 0]) (fun _ _ _ k => ex_istore_n dX12_fitsAll_56 (by decide) k) ?_
  refine Sx.o (L' := [.ref v0, .retAddr 0, .int v2, .int s0, .int (v4 + (1 : Int32)), .retAddr 0]) (fun _ _ _ k => op_iinc (1 : Int32) dX12_fitsAll_57 (by decide) rfl (by decide) k) ?_
  refine Sx.o (fun _ _ _ k => ex_goto 12 dX12_fitsAll_60 (by decide) k) ?_
  exact (hg _ _ hb).1 rfl
theorem Ref_fitsAll_12_T : ∀ s r, fx Ref_fitsAll_12_F Ref_fitsAll_12_M s = some r → Ref_fitsAll_12_P s r := fx_ind Ref_fitsAll_12_M Ref_fitsAll_12_P (fun g hg s r hb => by
  unfold Ref_fitsAll_12_F at hb
  exact ⟨fun q => Ref_fitsAll_12_t hg (ip q hb), fun q => Ref_fitsAll_56_t hg (ip q (iq (by rw [q]; decide) hb)), trivial⟩)
set_option maxHeartbeats 1000000 in
set_option maxRecDepth 100000 in
theorem Ref_fitsAll_12_r {g : (Nat × Int32 × Int32 × Int32 × Nat × am_H) → Option (Int32 × am_H)} (hg : ∀ s r, g s = some r → Eqs s.2.2.2.2.2 r.2) {v0 : Nat} {v2 : Int32} {v3 : Int32} {v4 : Int32} {h : am_H} {r : (Int32 × am_H)} (hb : Ref_fitsAll_12_b g v0 v2 v3 v4 h = some r) : Eqs h r.2 := by
  unfold Ref_fitsAll_12_b at hb
  have w0 := Eqs.rf h
  obtain ⟨x49, e_x49, hb50⟩ := ob2 hb
  obtain ⟨x51, e_x51, hb52⟩ := ob2 hb50
  by_cases q : x51 ≤ v4
  · have hb53 := ip q hb52
    exact w0.tr (Ref_fitsAll_66_q hb53)
  · have hb54 := iq q hb52
    obtain ⟨x55, e_x55, hb56⟩ := ob2 hb54
    obtain ⟨x57, e_x57, hb58⟩ := ob2 hb56
    by_cases q : x57 ≤ v3
    · have hb59 := ip q hb58
      exact w0.tr (hg _ _ hb59)
    · have hb60 := iq q hb58
      obtain ⟨x61, e_x61, hb62⟩ := ob2 hb60
      obtain ⟨x63, e_x63, hb64⟩ := ob2 hb62
      exact w0.tr (hg _ _ hb64)
set_option maxHeartbeats 1000000 in
set_option maxRecDepth 100000 in
theorem Ref_fitsAll_56_r {g : (Nat × Int32 × Int32 × Int32 × Nat × am_H) → Option (Int32 × am_H)} (hg : ∀ s r, g s = some r → Eqs s.2.2.2.2.2 r.2) {v0 : Nat} {v2 : Int32} {v4 : Int32} {s0 : Int32} {h : am_H} {r : (Int32 × am_H)} (hb : Ref_fitsAll_56_b g v0 v2 v4 s0 h = some r) : Eqs h r.2 := by
  unfold Ref_fitsAll_56_b at hb
  have w0 := Eqs.rf h
  exact w0.tr (hg _ _ hb)
theorem Ref_fitsAll_12_Q : ∀ s r, fx Ref_fitsAll_12_F Ref_fitsAll_12_M s = some r → Eqs s.2.2.2.2.2 r.2 := fx_ind Ref_fitsAll_12_M (fun s r => Eqs s.2.2.2.2.2 r.2) (fun g hg s r hb => by
  unfold Ref_fitsAll_12_F at hb
  by_cases q0 : s.1 = 12
  · exact Ref_fitsAll_12_r hg (ip q0 hb)
  · have hb0 := iq q0 hb
    by_cases q1 : s.1 = 56
    · exact Ref_fitsAll_56_r hg (ip q1 hb0)
    · have hb1 := iq q1 hb0
      exact nomatch hb1)
noncomputable def Ref_fitsAll_12 (v0 : Nat) (v2 : Int32) (v3 : Int32) (v4 : Int32) (h : am_H) : Option (Int32 × am_H) := fx Ref_fitsAll_12_F Ref_fitsAll_12_M (12, v2, v3, v4, v0, h)
noncomputable def Ref_fitsAll_56 (v0 : Nat) (v2 : Int32) (v4 : Int32) (s0 : Int32) (h : am_H) : Option (Int32 × am_H) := fx Ref_fitsAll_12_F Ref_fitsAll_12_M (56, v2, v4, s0, v0, h)
set_option maxHeartbeats 1000000 in
set_option maxRecDepth 100000 in
theorem Ref_fitsAll_12_e (v0 : Nat) (v2 : Int32) (v3 : Int32) (v4 : Int32) (h : am_H) : Ref_fitsAll_12 v0 v2 v3 v4 h = ((gR h 12 v0 2).bind fun x49 => (aI h 0 x49 (115 : Int32)).bind fun x51 => if x51 ≤ v4 then Ref_fitsAll_66 v0 v2 v3 (0 : Int32) h else (gR h 12 v0 2).bind fun x55 => (aI h 0 x55 ((97 : Int32) + ((2 : Int32) * v4))).bind fun x57 => if x57 ≤ v3 then Ref_fitsAll_56 v0 v2 v4 v3 h else (gR h 12 v0 2).bind fun x61 => (aI h 0 x61 ((97 : Int32) + ((2 : Int32) * v4))).bind fun x63 => Ref_fitsAll_56 v0 v2 v4 x63 h) := (fx_eq Ref_fitsAll_12_M (12, v2, v3, v4, v0, h)).trans (if_pos rfl)
theorem Ref_fitsAll_12_q {v0 : Nat} {v2 : Int32} {v3 : Int32} {v4 : Int32} {h : am_H} {r : (Int32 × am_H)} (hb : Ref_fitsAll_12 v0 v2 v3 v4 h = some r) : Eqs h r.2 := Ref_fitsAll_12_Q _ _ hb
theorem Ref_fitsAll_12_s {v0 : Nat} {v2 : Int32} {v3 : Int32} {v4 : Int32} {h : am_H} {r : (Int32 × am_H)} (hb : Ref_fitsAll_12 v0 v2 v3 v4 h = some r) : Sx 89 mX12_fitsAll 12 [.ref v0, .retAddr 0, .int v2, .int v3, .int v4, .retAddr 0] [] h (some (.int r.1)) r.2 := (Ref_fitsAll_12_T _ _ hb).1 rfl
set_option maxHeartbeats 1000000 in
set_option maxRecDepth 100000 in
theorem Ref_fitsAll_56_e (v0 : Nat) (v2 : Int32) (v4 : Int32) (s0 : Int32) (h : am_H) : Ref_fitsAll_56 v0 v2 v4 s0 h = (Ref_fitsAll_12 v0 v2 s0 (v4 + (1 : Int32)) h) := (fx_eq Ref_fitsAll_12_M (56, v2, v4, s0, v0, h)).trans ((if_neg (show ¬ (56 : Nat) = 12 by decide)).trans (if_pos rfl))
theorem Ref_fitsAll_56_q {v0 : Nat} {v2 : Int32} {v4 : Int32} {s0 : Int32} {h : am_H} {r : (Int32 × am_H)} (hb : Ref_fitsAll_56 v0 v2 v4 s0 h = some r) : Eqs h r.2 := Ref_fitsAll_12_Q _ _ hb
theorem Ref_fitsAll_56_s {v0 : Nat} {v2 : Int32} {v4 : Int32} {s0 : Int32} {h : am_H} {r : (Int32 × am_H)} (hb : Ref_fitsAll_56 v0 v2 v4 s0 h = some r) : Sx 89 mX12_fitsAll 56 [.ref v0, .retAddr 0, .int v2, .retAddr 0, .int v4, .retAddr 0] [.int s0] h (some (.int r.1)) r.2 := (Ref_fitsAll_12_T _ _ hb).2.1 rfl
set_option maxHeartbeats 1000000 in
set_option maxRecDepth 100000 in
noncomputable def Ref_fitsAll (v0 : Nat) (v1 : Int32) (h : am_H) : Option (Int32 × am_H) := if isO h 12 v0 = true then (Ref_takesRow v0 v1 h).bind fun h65 => Ref_fitsAll_12 v0 (1 : Int32) (0 : Int32) (0 : Int32) h65 else none
set_option maxHeartbeats 1000000 in
set_option maxRecDepth 100000 in
theorem Ref_fitsAll_s {v0 : Nat} {v1 : Int32} {h : am_H} {r : (Int32 × am_H)} (hb : Ref_fitsAll v0 v1 h = some r) : Sx 89 mX12_fitsAll 0 (am_en [.ref v0, .int v1] 6) [] h (some (.int r.1)) r.2 := by
  unfold Ref_fitsAll at hb
  have hb := (iz hb).2
  show Sx 89 mX12_fitsAll 0 [.ref v0, .int v1, .retAddr 0, .retAddr 0, .retAddr 0, .retAddr 0] [] h (some (.int r.1)) r.2
  refine Sx.o (fun _ _ _ k => op_iconst (1 : Int32) dX12_fitsAll_0 (by decide) k) ?_
  refine Sx.o (L' := [.ref v0, .int v1, .int (1 : Int32), .retAddr 0, .retAddr 0, .retAddr 0]) (fun _ _ _ k => ex_istore_n dX12_fitsAll_1 (by decide) k) ?_
  refine Sx.o (fun _ _ _ k => ex_aload_n dX12_fitsAll_2 rfl rfl k) ?_
  refine Sx.o (fun _ _ _ k => ex_iload_n dX12_fitsAll_3 rfl k) ?_
  obtain ⟨h65, e_h65, hb66⟩ := ob2 hb
  refine sx_callV (dc := 0) (as := [.int v1]) (stq := []) (by omega) dX12_fitsAll_4 MX12_takesRow kX12_384 iX12_takesRow sX12_takesRow rfl rfl (Ref_takesRow_o e_h65) rfl rfl (Nat.le_of_ble_eq_true rfl) (Nat.le_of_ble_eq_true rfl) (Ref_takesRow_s e_h65) rfl ?_
  refine Sx.o (fun _ _ _ k => op_iconst (0 : Int32) dX12_fitsAll_7 (by decide) k) ?_
  refine Sx.o (L' := [.ref v0, .int v1, .int (1 : Int32), .int (0 : Int32), .retAddr 0, .retAddr 0]) (fun _ _ _ k => ex_istore_n dX12_fitsAll_8 (by decide) k) ?_
  refine Sx.o (fun _ _ _ k => op_iconst (0 : Int32) dX12_fitsAll_9 (by decide) k) ?_
  refine Sx.o (L' := [.ref v0, .int v1, .int (1 : Int32), .int (0 : Int32), .int (0 : Int32), .retAddr 0]) (fun _ _ _ k => ex_istore dX12_fitsAll_10 (by decide) k) ?_
  refine Sx.fg [true, false, true, true, true, true] ?_
  exact Ref_fitsAll_12_s hb66
set_option maxHeartbeats 1000000 in
set_option maxRecDepth 100000 in
theorem Ref_fitsAll_q {v0 : Nat} {v1 : Int32} {h : am_H} {r : (Int32 × am_H)} (hb : Ref_fitsAll v0 v1 h = some r) : Eqs h r.2 := by
  unfold Ref_fitsAll at hb
  have hb := (iz hb).2
  have w0 := Eqs.rf h
  obtain ⟨h65, e_h65, hb66⟩ := ob2 hb
  have w67 := w0.tr (Ref_takesRow_q e_h65)
  exact w67.tr (Ref_fitsAll_12_q hb66)
theorem Ref_fitsAll_o {v0 : Nat} {v1 : Int32} {h : am_H} {r : (Int32 × am_H)} (hb : Ref_fitsAll v0 v1 h = some r) : isO h 12 v0 = true := by
  unfold Ref_fitsAll at hb
  exact (iz hb).1
set_option maxHeartbeats 1000000 in
set_option maxRecDepth 100000 in
noncomputable def Ref_leadsTo_22_b (g : (Nat × Int32 × Int32 × Int32 × Nat × am_H) → Option (Int32 × am_H)) (v0 : Nat) (v1 : Int32) (v2 : Int32) (v3 : Int32) (h : am_H) : Option (Int32 × am_H) := (gI h 12 v0 31).bind fun x1 => if x1 ≤ v3 then (nrZ v2).bind fun u5 => some (v2, h) else if v2 = (0 : Int32) then g (53, v1, v3, 0, v0, h) else (gR h 12 v0 29).bind fun x9 => (aI h 0 x9 v3).bind fun x11 => (Ref_cardOf v0 v1 v3 h).bind fun x13 => if x11 = x13 then g (54, v1, v3, (1 : Int32), v0, h) else g (53, v1, v3, 0, v0, h)
set_option maxHeartbeats 1000000 in
set_option maxRecDepth 100000 in
theorem Ref_leadsTo_22_m {g g2 : (Nat × Int32 × Int32 × Int32 × Nat × am_H) → Option (Int32 × am_H)} (hg : ∀ s, Le (g s) (g2 s)) (v0 : Nat) (v1 : Int32) (v2 : Int32) (v3 : Int32) (h : am_H) : Le (Ref_leadsTo_22_b g v0 v1 v2 v3 h) (Ref_leadsTo_22_b g2 v0 v1 v2 v3 h) := by unfold Ref_leadsTo_22_b; exact le_b (le_r _) fun x1 => le_i (le_r _) (le_i (hg _) (le_b (le_r _) fun x9 => le_b (le_r _) fun x11 => le_b (le_r _) fun x13 => le_i (hg _) (hg _)))
set_option maxHeartbeats 1000000 in
set_option maxRecDepth 100000 in
noncomputable def Ref_leadsTo_53_b (g : (Nat × Int32 × Int32 × Int32 × Nat × am_H) → Option (Int32 × am_H)) (v0 : Nat) (v1 : Int32) (v3 : Int32) (h : am_H) : Option (Int32 × am_H) := g (54, v1, v3, (0 : Int32), v0, h)
set_option maxHeartbeats 1000000 in
set_option maxRecDepth 100000 in
theorem Ref_leadsTo_53_m {g g2 : (Nat × Int32 × Int32 × Int32 × Nat × am_H) → Option (Int32 × am_H)} (hg : ∀ s, Le (g s) (g2 s)) (v0 : Nat) (v1 : Int32) (v3 : Int32) (h : am_H) : Le (Ref_leadsTo_53_b g v0 v1 v3 h) (Ref_leadsTo_53_b g2 v0 v1 v3 h) := by unfold Ref_leadsTo_53_b; exact hg _
set_option maxHeartbeats 1000000 in
set_option maxRecDepth 100000 in
noncomputable def Ref_leadsTo_54_b (g : (Nat × Int32 × Int32 × Int32 × Nat × am_H) → Option (Int32 × am_H)) (v0 : Nat) (v1 : Int32) (v3 : Int32) (s0 : Int32) (h : am_H) : Option (Int32 × am_H) := g (22, v1, s0, (v3 + (1 : Int32)), v0, h)
set_option maxHeartbeats 1000000 in
set_option maxRecDepth 100000 in
theorem Ref_leadsTo_54_m {g g2 : (Nat × Int32 × Int32 × Int32 × Nat × am_H) → Option (Int32 × am_H)} (hg : ∀ s, Le (g s) (g2 s)) (v0 : Nat) (v1 : Int32) (v3 : Int32) (s0 : Int32) (h : am_H) : Le (Ref_leadsTo_54_b g v0 v1 v3 s0 h) (Ref_leadsTo_54_b g2 v0 v1 v3 s0 h) := by unfold Ref_leadsTo_54_b; exact hg _
noncomputable def Ref_leadsTo_22_F (g : (Nat × Int32 × Int32 × Int32 × Nat × am_H) → Option (Int32 × am_H)) (s : (Nat × Int32 × Int32 × Int32 × Nat × am_H)) : Option (Int32 × am_H) := if s.1 = 22 then Ref_leadsTo_22_b g s.2.2.2.2.1 s.2.1 s.2.2.1 s.2.2.2.1 s.2.2.2.2.2 else if s.1 = 53 then Ref_leadsTo_53_b g s.2.2.2.2.1 s.2.1 s.2.2.1 s.2.2.2.2.2 else if s.1 = 54 then Ref_leadsTo_54_b g s.2.2.2.2.1 s.2.1 s.2.2.1 s.2.2.2.1 s.2.2.2.2.2 else none
theorem Ref_leadsTo_22_M : Mn Ref_leadsTo_22_F := fun g g2 hg s => by unfold Ref_leadsTo_22_F; exact le_i (Ref_leadsTo_22_m hg s.2.2.2.2.1 s.2.1 s.2.2.1 s.2.2.2.1 s.2.2.2.2.2) (le_i (Ref_leadsTo_53_m hg s.2.2.2.2.1 s.2.1 s.2.2.1 s.2.2.2.2.2) (le_i (Ref_leadsTo_54_m hg s.2.2.2.2.1 s.2.1 s.2.2.1 s.2.2.2.1 s.2.2.2.2.2) (le_r _)))
def Ref_leadsTo_22_P (s : (Nat × Int32 × Int32 × Int32 × Nat × am_H)) (r : (Int32 × am_H)) : Prop := (s.1 = 22 → Sx 89 mX12_leadsTo 22 [.ref s.2.2.2.2.1, .int s.2.1, .int s.2.2.1, .int s.2.2.2.1] [] s.2.2.2.2.2 (some (.int r.1)) r.2) ∧ (s.1 = 53 → Sx 89 mX12_leadsTo 53 [.ref s.2.2.2.2.1, .int s.2.1, .retAddr 0, .int s.2.2.1] [] s.2.2.2.2.2 (some (.int r.1)) r.2) ∧ (s.1 = 54 → Sx 89 mX12_leadsTo 54 [.ref s.2.2.2.2.1, .int s.2.1, .retAddr 0, .int s.2.2.1] [.int s.2.2.2.1] s.2.2.2.2.2 (some (.int r.1)) r.2) ∧ True
set_option maxHeartbeats 1000000 in
set_option maxRecDepth 100000 in
theorem Ref_leadsTo_22_t {g : (Nat × Int32 × Int32 × Int32 × Nat × am_H) → Option (Int32 × am_H)} (hg : ∀ s r, g s = some r → Ref_leadsTo_22_P s r) {v0 : Nat} {v1 : Int32} {v2 : Int32} {v3 : Int32} {h : am_H} {r : (Int32 × am_H)} (hb : Ref_leadsTo_22_b g v0 v1 v2 v3 h = some r) : Sx 89 mX12_leadsTo 22 [.ref v0, .int v1, .int v2, .int v3] [] h (some (.int r.1)) r.2 := by
  unfold Ref_leadsTo_22_b at hb
  refine Sx.o (fun _ _ _ k => ex_iload_n dX12_leadsTo_22 rfl k) ?_
  refine Sx.o (fun _ _ _ k => ex_aload_n dX12_leadsTo_23 rfl rfl k) ?_
  obtain ⟨x1, e_x1, hb2⟩ := ob2 hb
  refine Sx.o (fun _ _ _ k => op_getI fX12_130 dX12_leadsTo_24 e_x1 k) ?_
  refine Sx.b (fun _ _ _ k1 k2 => ex_icmp_ge 61 dX12_leadsTo_27 (by decide) k1 k2) (fun q => ?_) (fun q => ?_)
  · have hb3 := ip q hb2
    refine Sx.o (fun _ _ _ k => ex_iload_n dX12_leadsTo_61 rfl k) ?_
    obtain ⟨u5, e_u5, hb6⟩ := ob2 hb3
    obtain rfl := Option.some.inj hb6
    exact Sx.r (fun _ _ _ k => ex_zret rfl (nrZ_n e_u5) dX12_leadsTo_62 k)
  · have hb4 := iq q hb2
    refine Sx.o (fun _ _ _ k => ex_iload_n dX12_leadsTo_30 rfl k) ?_
    refine Sx.b (fun _ _ _ k1 k2 => ex_if_eq 53 dX12_leadsTo_31 (by decide) k1 k2) (fun q => ?_) (fun q => ?_)
    · have hb7 := ip q hb4
      refine Sx.fg [true, true, false, true] ?_
      exact (hg _ _ hb7).2.1 rfl
    · have hb8 := iq q hb4
      refine Sx.o (fun _ _ _ k => ex_aload_n dX12_leadsTo_34 rfl rfl k) ?_
      obtain ⟨x9, e_x9, hb10⟩ := ob2 hb8
      refine Sx.o (fun _ _ _ k => op_getR fX12_65 dX12_leadsTo_35 e_x9 k) ?_
      refine Sx.o (fun _ _ _ k => ex_iload_n dX12_leadsTo_38 rfl k) ?_
      obtain ⟨x11, e_x11, hb12⟩ := ob2 hb10
      refine Sx.o (fun _ _ _ k => op_iald dX12_leadsTo_39 e_x11 k) ?_
      refine Sx.o (fun _ _ _ k => ex_aload_n dX12_leadsTo_40 rfl rfl k) ?_
      refine Sx.o (fun _ _ _ k => ex_iload_n dX12_leadsTo_41 rfl k) ?_
      refine Sx.o (fun _ _ _ k => ex_iload_n dX12_leadsTo_42 rfl k) ?_
      obtain ⟨x13, e_x13, hb14⟩ := ob2 hb12
      refine sx_callV (dc := 1) (as := [.int v1, .int v3]) (stq := [.int x13, .int x11]) (by omega) dX12_leadsTo_43 MX12_cardOf kX12_280 iX12_cardOf sX12_cardOf rfl rfl (Ref_cardOf_o e_x13) rfl rfl (Nat.le_of_ble_eq_true rfl) (Nat.le_of_ble_eq_true rfl) (Ref_cardOf_s e_x13) rfl ?_
      refine Sx.bn (fun _ _ _ k1 k2 => ex_icmp_ne 53 dX12_leadsTo_46 (by decide) k1 k2) (fun q => ?_) (fun q => ?_)
      · have hb15 := iq q hb14
        refine Sx.fg [true, true, false, true] ?_
        exact (hg _ _ hb15).2.1 rfl
      · have hb16 := ip q hb14
        refine Sx.o (fun _ _ _ k => op_iconst (1 : Int32) dX12_leadsTo_49 (by decide) k) ?_
        refine Sx.o (fun _ _ _ k => ex_goto 54 dX12_leadsTo_50 (by decide) k) ?_
        refine Sx.fg [true, true, false, true] ?_
        exact (hg _ _ hb16).2.2.1 rfl
set_option maxHeartbeats 1000000 in
set_option maxRecDepth 100000 in
theorem Ref_leadsTo_53_t {g : (Nat × Int32 × Int32 × Int32 × Nat × am_H) → Option (Int32 × am_H)} (hg : ∀ s r, g s = some r → Ref_leadsTo_22_P s r) {v0 : Nat} {v1 : Int32} {v3 : Int32} {h : am_H} {r : (Int32 × am_H)} (hb : Ref_leadsTo_53_b g v0 v1 v3 h = some r) : Sx 89 mX12_leadsTo 53 [.ref v0, .int v1, .retAddr 0, .int v3] [] h (some (.int r.1)) r.2 := by
  unfold Ref_leadsTo_53_b at hb
  refine Sx.o (fun _ _ _ k => op_iconst (0 : Int32) dX12_leadsTo_53 (by decide) k) ?_
  exact (hg _ _ hb).2.2.1 rfl
set_option maxHeartbeats 1000000 in
set_option maxRecDepth 100000 in
theorem Ref_leadsTo_54_t {g : (Nat × Int32 × Int32 × Int32 × Nat × am_H) → Option (Int32 × am_H)} (hg : ∀ s r, g s = some r → Ref_leadsTo_22_P s r) {v0 : Nat} {v1 : Int32} {v3 : Int32} {s0 : Int32} {h : am_H} {r : (Int32 × am_H)} (hb : Ref_leadsTo_54_b g v0 v1 v3 s0 h = some r) : Sx 89 mX12_leadsTo 54 [.ref v0, .int v1, .retAddr 0, .int v3] [.int s0] h (some (.int r.1)) r.2 := by
  unfold Ref_leadsTo_54_b at hb
  refine Sx.o (L' := [.ref v0, .int v1, .int s0, .int v3]) (fun _ _ _ k => ex_istore_n dX12_leadsTo_54 (by decide) k) ?_
  refine Sx.o (L' := [.ref v0, .int v1, .int s0, .int (v3 + (1 : Int32))]) (fun _ _ _ k => op_iinc (1 : Int32) dX12_leadsTo_55 (by decide) rfl (by decide) k) ?_
  refine Sx.o (fun _ _ _ k => ex_goto 22 dX12_leadsTo_58 (by decide) k) ?_
  exact (hg _ _ hb).1 rfl
theorem Ref_leadsTo_22_T : ∀ s r, fx Ref_leadsTo_22_F Ref_leadsTo_22_M s = some r → Ref_leadsTo_22_P s r := fx_ind Ref_leadsTo_22_M Ref_leadsTo_22_P (fun g hg s r hb => by
  unfold Ref_leadsTo_22_F at hb
  exact ⟨fun q => Ref_leadsTo_22_t hg (ip q hb), fun q => Ref_leadsTo_53_t hg (ip q (iq (by rw [q]; decide) hb)), fun q => Ref_leadsTo_54_t hg (ip q (iq (by rw [q]; decide) (iq (by rw [q]; decide) hb))), trivial⟩)
set_option maxHeartbeats 1000000 in
set_option maxRecDepth 100000 in
theorem Ref_leadsTo_22_r {g : (Nat × Int32 × Int32 × Int32 × Nat × am_H) → Option (Int32 × am_H)} (hg : ∀ s r, g s = some r → Eqs s.2.2.2.2.2 r.2) {v0 : Nat} {v1 : Int32} {v2 : Int32} {v3 : Int32} {h : am_H} {r : (Int32 × am_H)} (hb : Ref_leadsTo_22_b g v0 v1 v2 v3 h = some r) : Eqs h r.2 := by
  unfold Ref_leadsTo_22_b at hb
  have w0 := Eqs.rf h
  obtain ⟨x1, e_x1, hb2⟩ := ob2 hb
  by_cases q : x1 ≤ v3
  · have hb3 := ip q hb2
    obtain ⟨u5, e_u5, hb6⟩ := ob2 hb3
    obtain rfl := Option.some.inj hb6
    exact w0
  · have hb4 := iq q hb2
    by_cases q : v2 = (0 : Int32)
    · have hb7 := ip q hb4
      exact w0.tr (hg _ _ hb7)
    · have hb8 := iq q hb4
      obtain ⟨x9, e_x9, hb10⟩ := ob2 hb8
      obtain ⟨x11, e_x11, hb12⟩ := ob2 hb10
      obtain ⟨x13, e_x13, hb14⟩ := ob2 hb12
      by_cases q : x11 = x13
      · have hb16 := ip q hb14
        exact w0.tr (hg _ _ hb16)
      · have hb15 := iq q hb14
        exact w0.tr (hg _ _ hb15)
set_option maxHeartbeats 1000000 in
set_option maxRecDepth 100000 in
theorem Ref_leadsTo_53_r {g : (Nat × Int32 × Int32 × Int32 × Nat × am_H) → Option (Int32 × am_H)} (hg : ∀ s r, g s = some r → Eqs s.2.2.2.2.2 r.2) {v0 : Nat} {v1 : Int32} {v3 : Int32} {h : am_H} {r : (Int32 × am_H)} (hb : Ref_leadsTo_53_b g v0 v1 v3 h = some r) : Eqs h r.2 := by
  unfold Ref_leadsTo_53_b at hb
  have w0 := Eqs.rf h
  exact w0.tr (hg _ _ hb)
set_option maxHeartbeats 1000000 in
set_option maxRecDepth 100000 in
theorem Ref_leadsTo_54_r {g : (Nat × Int32 × Int32 × Int32 × Nat × am_H) → Option (Int32 × am_H)} (hg : ∀ s r, g s = some r → Eqs s.2.2.2.2.2 r.2) {v0 : Nat} {v1 : Int32} {v3 : Int32} {s0 : Int32} {h : am_H} {r : (Int32 × am_H)} (hb : Ref_leadsTo_54_b g v0 v1 v3 s0 h = some r) : Eqs h r.2 := by
  unfold Ref_leadsTo_54_b at hb
  have w0 := Eqs.rf h
  exact w0.tr (hg _ _ hb)
theorem Ref_leadsTo_22_Q : ∀ s r, fx Ref_leadsTo_22_F Ref_leadsTo_22_M s = some r → Eqs s.2.2.2.2.2 r.2 := fx_ind Ref_leadsTo_22_M (fun s r => Eqs s.2.2.2.2.2 r.2) (fun g hg s r hb => by
  unfold Ref_leadsTo_22_F at hb
  by_cases q0 : s.1 = 22
  · exact Ref_leadsTo_22_r hg (ip q0 hb)
  · have hb0 := iq q0 hb
    by_cases q1 : s.1 = 53
    · exact Ref_leadsTo_53_r hg (ip q1 hb0)
    · have hb1 := iq q1 hb0
      by_cases q2 : s.1 = 54
      · exact Ref_leadsTo_54_r hg (ip q2 hb1)
      · have hb2 := iq q2 hb1
        exact nomatch hb2)
noncomputable def Ref_leadsTo_22 (v0 : Nat) (v1 : Int32) (v2 : Int32) (v3 : Int32) (h : am_H) : Option (Int32 × am_H) := fx Ref_leadsTo_22_F Ref_leadsTo_22_M (22, v1, v2, v3, v0, h)
noncomputable def Ref_leadsTo_53 (v0 : Nat) (v1 : Int32) (v3 : Int32) (h : am_H) : Option (Int32 × am_H) := fx Ref_leadsTo_22_F Ref_leadsTo_22_M (53, v1, v3, 0, v0, h)
noncomputable def Ref_leadsTo_54 (v0 : Nat) (v1 : Int32) (v3 : Int32) (s0 : Int32) (h : am_H) : Option (Int32 × am_H) := fx Ref_leadsTo_22_F Ref_leadsTo_22_M (54, v1, v3, s0, v0, h)
set_option maxHeartbeats 1000000 in
set_option maxRecDepth 100000 in
theorem Ref_leadsTo_22_e (v0 : Nat) (v1 : Int32) (v2 : Int32) (v3 : Int32) (h : am_H) : Ref_leadsTo_22 v0 v1 v2 v3 h = ((gI h 12 v0 31).bind fun x1 => if x1 ≤ v3 then (nrZ v2).bind fun u5 => some (v2, h) else if v2 = (0 : Int32) then Ref_leadsTo_53 v0 v1 v3 h else (gR h 12 v0 29).bind fun x9 => (aI h 0 x9 v3).bind fun x11 => (Ref_cardOf v0 v1 v3 h).bind fun x13 => if x11 = x13 then Ref_leadsTo_54 v0 v1 v3 (1 : Int32) h else Ref_leadsTo_53 v0 v1 v3 h) := (fx_eq Ref_leadsTo_22_M (22, v1, v2, v3, v0, h)).trans (if_pos rfl)
theorem Ref_leadsTo_22_q {v0 : Nat} {v1 : Int32} {v2 : Int32} {v3 : Int32} {h : am_H} {r : (Int32 × am_H)} (hb : Ref_leadsTo_22 v0 v1 v2 v3 h = some r) : Eqs h r.2 := Ref_leadsTo_22_Q _ _ hb
theorem Ref_leadsTo_22_s {v0 : Nat} {v1 : Int32} {v2 : Int32} {v3 : Int32} {h : am_H} {r : (Int32 × am_H)} (hb : Ref_leadsTo_22 v0 v1 v2 v3 h = some r) : Sx 89 mX12_leadsTo 22 [.ref v0, .int v1, .int v2, .int v3] [] h (some (.int r.1)) r.2 := (Ref_leadsTo_22_T _ _ hb).1 rfl
set_option maxHeartbeats 1000000 in
set_option maxRecDepth 100000 in
theorem Ref_leadsTo_53_e (v0 : Nat) (v1 : Int32) (v3 : Int32) (h : am_H) : Ref_leadsTo_53 v0 v1 v3 h = (Ref_leadsTo_54 v0 v1 v3 (0 : Int32) h) := (fx_eq Ref_leadsTo_22_M (53, v1, v3, 0, v0, h)).trans ((if_neg (show ¬ (53 : Nat) = 22 by decide)).trans (if_pos rfl))
theorem Ref_leadsTo_53_q {v0 : Nat} {v1 : Int32} {v3 : Int32} {h : am_H} {r : (Int32 × am_H)} (hb : Ref_leadsTo_53 v0 v1 v3 h = some r) : Eqs h r.2 := Ref_leadsTo_22_Q _ _ hb
theorem Ref_leadsTo_53_s {v0 : Nat} {v1 : Int32} {v3 : Int32} {h : am_H} {r : (Int32 × am_H)} (hb : Ref_leadsTo_53 v0 v1 v3 h = some r) : Sx 89 mX12_leadsTo 53 [.ref v0, .int v1, .retAddr 0, .int v3] [] h (some (.int r.1)) r.2 := (Ref_leadsTo_22_T _ _ hb).2.1 rfl
set_option maxHeartbeats 1000000 in
set_option maxRecDepth 100000 in
theorem Ref_leadsTo_54_e (v0 : Nat) (v1 : Int32) (v3 : Int32) (s0 : Int32) (h : am_H) : Ref_leadsTo_54 v0 v1 v3 s0 h = (Ref_leadsTo_22 v0 v1 s0 (v3 + (1 : Int32)) h) := (fx_eq Ref_leadsTo_22_M (54, v1, v3, s0, v0, h)).trans ((if_neg (show ¬ (54 : Nat) = 22 by decide)).trans ((if_neg (show ¬ (54 : Nat) = 53 by decide)).trans (if_pos rfl)))
theorem Ref_leadsTo_54_q {v0 : Nat} {v1 : Int32} {v3 : Int32} {s0 : Int32} {h : am_H} {r : (Int32 × am_H)} (hb : Ref_leadsTo_54 v0 v1 v3 s0 h = some r) : Eqs h r.2 := Ref_leadsTo_22_Q _ _ hb
theorem Ref_leadsTo_54_s {v0 : Nat} {v1 : Int32} {v3 : Int32} {s0 : Int32} {h : am_H} {r : (Int32 × am_H)} (hb : Ref_leadsTo_54 v0 v1 v3 s0 h = some r) : Sx 89 mX12_leadsTo 54 [.ref v0, .int v1, .retAddr 0, .int v3] [.int s0] h (some (.int r.1)) r.2 := (Ref_leadsTo_22_T _ _ hb).2.2.1 rfl
set_option maxHeartbeats 1000000 in
set_option maxRecDepth 100000 in
noncomputable def Ref_leadsTo (v0 : Nat) (v1 : Int32) (h : am_H) : Option (Int32 × am_H) := if isO h 12 v0 = true then (Ref_takesRow v0 v1 h).bind fun h17 => (Ref_canStep v0 h17).bind fun r20 => if r20.1 = (0 : Int32) then some ((0 : Int32), r20.2) else (Ref_steps v0 r20.2).bind fun h25 => Ref_leadsTo_22 v0 v1 (1 : Int32) (0 : Int32) h25 else none
set_option maxHeartbeats 1000000 in
set_option maxRecDepth 100000 in
theorem Ref_leadsTo_s {v0 : Nat} {v1 : Int32} {h : am_H} {r : (Int32 × am_H)} (hb : Ref_leadsTo v0 v1 h = some r) : Sx 89 mX12_leadsTo 0 (am_en [.ref v0, .int v1] 4) [] h (some (.int r.1)) r.2 := by
  unfold Ref_leadsTo at hb
  have hb := (iz hb).2
  show Sx 89 mX12_leadsTo 0 [.ref v0, .int v1, .retAddr 0, .retAddr 0] [] h (some (.int r.1)) r.2
  refine Sx.o (fun _ _ _ k => ex_aload_n dX12_leadsTo_0 rfl rfl k) ?_
  refine Sx.o (fun _ _ _ k => ex_iload_n dX12_leadsTo_1 rfl k) ?_
  obtain ⟨h17, e_h17, hb18⟩ := ob2 hb
  refine sx_callV (dc := 0) (as := [.int v1]) (stq := []) (by omega) dX12_leadsTo_2 MX12_takesRow kX12_384 iX12_takesRow sX12_takesRow rfl rfl (Ref_takesRow_o e_h17) rfl rfl (Nat.le_of_ble_eq_true rfl) (Nat.le_of_ble_eq_true rfl) (Ref_takesRow_s e_h17) rfl ?_
  refine Sx.o (fun _ _ _ k => ex_aload_n dX12_leadsTo_5 rfl rfl k) ?_
  obtain ⟨r20, e_r20, hb21⟩ := ob2 hb18
  refine sx_callV (dc := 88) (as := []) (stq := [.int r20.1]) (by omega) dX12_leadsTo_6 MX12_canStep kX12_350 iX12_canStep sX12_canStep rfl rfl (Ref_canStep_o e_r20) rfl rfl (Nat.le_of_ble_eq_true rfl) (Nat.le_of_ble_eq_true rfl) (Ref_canStep_s e_r20) rfl ?_
  refine Sx.bn (fun _ _ _ k1 k2 => ex_if_ne 14 dX12_leadsTo_9 (by decide) k1 k2) (fun q => ?_) (fun q => ?_)
  · have hb23 := iq q hb21
    refine Sx.o (fun _ _ _ k => ex_aload_n dX12_leadsTo_14 rfl rfl k) ?_
    obtain ⟨h25, e_h25, hb26⟩ := ob2 hb23
    refine sx_callV (dc := 87) (as := []) (stq := []) (by omega) dX12_leadsTo_15 MX12_steps kX12_343 iX12_steps sX12_steps rfl rfl (Ref_steps_o e_h25) rfl rfl (Nat.le_of_ble_eq_true rfl) (Nat.le_of_ble_eq_true rfl) (Ref_steps_s e_h25) rfl ?_
    refine Sx.o (fun _ _ _ k => op_iconst (1 : Int32) dX12_leadsTo_18 (by decide) k) ?_
    refine Sx.o (L' := [.ref v0, .int v1, .int (1 : Int32), .retAddr 0]) (fun _ _ _ k => ex_istore_n dX12_leadsTo_19 (by decide) k) ?_
    refine Sx.o (fun _ _ _ k => op_iconst (0 : Int32) dX12_leadsTo_20 (by decide) k) ?_
    refine Sx.o (L' := [.ref v0, .int v1, .int (1 : Int32), .int (0 : Int32)]) (fun _ _ _ k => ex_istore_n dX12_leadsTo_21 (by decide) k) ?_
    exact Ref_leadsTo_22_s hb26
  · have hb24 := ip q hb21
    refine Sx.o (fun _ _ _ k => op_iconst (0 : Int32) dX12_leadsTo_12 (by decide) k) ?_
    obtain rfl := Option.some.inj hb24
    exact Sx.r (fun _ _ _ k => ex_zret rfl rfl dX12_leadsTo_13 k)
set_option maxHeartbeats 1000000 in
set_option maxRecDepth 100000 in
theorem Ref_leadsTo_q {v0 : Nat} {v1 : Int32} {h : am_H} {r : (Int32 × am_H)} (hb : Ref_leadsTo v0 v1 h = some r) : Eqs h r.2 := by
  unfold Ref_leadsTo at hb
  have hb := (iz hb).2
  have w0 := Eqs.rf h
  obtain ⟨h17, e_h17, hb18⟩ := ob2 hb
  have w19 := w0.tr (Ref_takesRow_q e_h17)
  obtain ⟨r20, e_r20, hb21⟩ := ob2 hb18
  have w22 := w19.tr (Ref_canStep_q e_r20)
  by_cases q : r20.1 = (0 : Int32)
  · have hb24 := ip q hb21
    obtain rfl := Option.some.inj hb24
    exact w22
  · have hb23 := iq q hb21
    obtain ⟨h25, e_h25, hb26⟩ := ob2 hb23
    have w27 := w22.tr (Ref_steps_q e_h25)
    exact w27.tr (Ref_leadsTo_22_q hb26)
theorem Ref_leadsTo_o {v0 : Nat} {v1 : Int32} {h : am_H} {r : (Int32 × am_H)} (hb : Ref_leadsTo v0 v1 h = some r) : isO h 12 v0 = true := by
  unfold Ref_leadsTo at hb
  exact (iz hb).1
set_option maxHeartbeats 1000000 in
set_option maxRecDepth 100000 in
noncomputable def Ref_rowsBy_11_b (g : (Nat × Int32 × Int32 × Int32 × Int32 × Int32 × Int32 × Nat × am_H) → Option (Int32 × am_H)) (v0 : Nat) (v1 : Int32) (v2 : Int32) (v3 : Int32) (v4 : Int32) (v5 : Int32) (v6 : Int32) (h : am_H) : Option (Int32 × am_H) := if v6 = (0 : Int32) then if v3 = (-1 : Int32) then some (v5, h) else some ((-1 : Int32), h) else if v1 = (0 : Int32) then (Ref_leadsTo v0 v2 h).bind fun r7 => g (33, v1, v2, v3, v4, v5, r7.1, v0, r7.2) else (Ref_fitsAll v0 v2 h).bind fun r10 => g (33, v1, v2, v3, v4, v5, r10.1, v0, r10.2)
set_option maxHeartbeats 1000000 in
set_option maxRecDepth 100000 in
theorem Ref_rowsBy_11_m {g g2 : (Nat × Int32 × Int32 × Int32 × Int32 × Int32 × Int32 × Nat × am_H) → Option (Int32 × am_H)} (hg : ∀ s, Le (g s) (g2 s)) (v0 : Nat) (v1 : Int32) (v2 : Int32) (v3 : Int32) (v4 : Int32) (v5 : Int32) (v6 : Int32) (h : am_H) : Le (Ref_rowsBy_11_b g v0 v1 v2 v3 v4 v5 v6 h) (Ref_rowsBy_11_b g2 v0 v1 v2 v3 v4 v5 v6 h) := by unfold Ref_rowsBy_11_b; exact le_i (le_r _) (le_i (le_b (le_r _) fun r7 => hg _) (le_b (le_r _) fun r10 => hg _))
set_option maxHeartbeats 1000000 in
set_option maxRecDepth 100000 in
noncomputable def Ref_rowsBy_33_b (g : (Nat × Int32 × Int32 × Int32 × Int32 × Int32 × Int32 × Nat × am_H) → Option (Int32 × am_H)) (v0 : Nat) (v1 : Int32) (v2 : Int32) (v3 : Int32) (v4 : Int32) (v5 : Int32) (s0 : Int32) (h : am_H) : Option (Int32 × am_H) := if s0 = (0 : Int32) then g (54, v1, v2, v3, v4, v5, s0, v0, h) else if v5 = v3 then (gR h 12 v0 40).bind fun x17 => (aI h 0 x17 v4).bind fun x19 => some (x19, h) else g (54, v1, v2, v3, v4, v5, s0, v0, h)
set_option maxHeartbeats 1000000 in
set_option maxRecDepth 100000 in
theorem Ref_rowsBy_33_m {g g2 : (Nat × Int32 × Int32 × Int32 × Int32 × Int32 × Int32 × Nat × am_H) → Option (Int32 × am_H)} (hg : ∀ s, Le (g s) (g2 s)) (v0 : Nat) (v1 : Int32) (v2 : Int32) (v3 : Int32) (v4 : Int32) (v5 : Int32) (s0 : Int32) (h : am_H) : Le (Ref_rowsBy_33_b g v0 v1 v2 v3 v4 v5 s0 h) (Ref_rowsBy_33_b g2 v0 v1 v2 v3 v4 v5 s0 h) := by unfold Ref_rowsBy_33_b; exact le_i (hg _) (le_i (le_r _) (hg _))
set_option maxHeartbeats 1000000 in
set_option maxRecDepth 100000 in
noncomputable def Ref_rowsBy_54_b (g : (Nat × Int32 × Int32 × Int32 × Int32 × Int32 × Int32 × Nat × am_H) → Option (Int32 × am_H)) (v0 : Nat) (v1 : Int32) (v2 : Int32) (v3 : Int32) (v4 : Int32) (v5 : Int32) (v7 : Int32) (h : am_H) : Option (Int32 × am_H) := if v7 = (0 : Int32) then g (66, v1, v2, v3, v4, (0 : Int32), v5, v0, h) else g (66, v1, v2, v3, v4, (1 : Int32), v5, v0, h)
set_option maxHeartbeats 1000000 in
set_option maxRecDepth 100000 in
theorem Ref_rowsBy_54_m {g g2 : (Nat × Int32 × Int32 × Int32 × Int32 × Int32 × Int32 × Nat × am_H) → Option (Int32 × am_H)} (hg : ∀ s, Le (g s) (g2 s)) (v0 : Nat) (v1 : Int32) (v2 : Int32) (v3 : Int32) (v4 : Int32) (v5 : Int32) (v7 : Int32) (h : am_H) : Le (Ref_rowsBy_54_b g v0 v1 v2 v3 v4 v5 v7 h) (Ref_rowsBy_54_b g2 v0 v1 v2 v3 v4 v5 v7 h) := by unfold Ref_rowsBy_54_b; exact le_i (hg _) (hg _)
set_option maxHeartbeats 1000000 in
set_option maxRecDepth 100000 in
noncomputable def Ref_rowsBy_66_b (g : (Nat × Int32 × Int32 × Int32 × Int32 × Int32 × Int32 × Nat × am_H) → Option (Int32 × am_H)) (v0 : Nat) (v1 : Int32) (v2 : Int32) (v3 : Int32) (v4 : Int32) (s0 : Int32) (s1 : Int32) (h : am_H) : Option (Int32 × am_H) := (Ref_nextRow v0 h).bind fun r23 => g (11, v1, v2, v3, v4, (s1 + s0), r23.1, v0, r23.2)
set_option maxHeartbeats 1000000 in
set_option maxRecDepth 100000 in
theorem Ref_rowsBy_66_m {g g2 : (Nat × Int32 × Int32 × Int32 × Int32 × Int32 × Int32 × Nat × am_H) → Option (Int32 × am_H)} (hg : ∀ s, Le (g s) (g2 s)) (v0 : Nat) (v1 : Int32) (v2 : Int32) (v3 : Int32) (v4 : Int32) (s0 : Int32) (s1 : Int32) (h : am_H) : Le (Ref_rowsBy_66_b g v0 v1 v2 v3 v4 s0 s1 h) (Ref_rowsBy_66_b g2 v0 v1 v2 v3 v4 s0 s1 h) := by unfold Ref_rowsBy_66_b; exact le_b (le_r _) fun r23 => hg _
noncomputable def Ref_rowsBy_11_F (g : (Nat × Int32 × Int32 × Int32 × Int32 × Int32 × Int32 × Nat × am_H) → Option (Int32 × am_H)) (s : (Nat × Int32 × Int32 × Int32 × Int32 × Int32 × Int32 × Nat × am_H)) : Option (Int32 × am_H) := if s.1 = 11 then Ref_rowsBy_11_b g s.2.2.2.2.2.2.2.1 s.2.1 s.2.2.1 s.2.2.2.1 s.2.2.2.2.1 s.2.2.2.2.2.1 s.2.2.2.2.2.2.1 s.2.2.2.2.2.2.2.2 else if s.1 = 33 then Ref_rowsBy_33_b g s.2.2.2.2.2.2.2.1 s.2.1 s.2.2.1 s.2.2.2.1 s.2.2.2.2.1 s.2.2.2.2.2.1 s.2.2.2.2.2.2.1 s.2.2.2.2.2.2.2.2 else if s.1 = 54 then Ref_rowsBy_54_b g s.2.2.2.2.2.2.2.1 s.2.1 s.2.2.1 s.2.2.2.1 s.2.2.2.2.1 s.2.2.2.2.2.1 s.2.2.2.2.2.2.1 s.2.2.2.2.2.2.2.2 else if s.1 = 66 then Ref_rowsBy_66_b g s.2.2.2.2.2.2.2.1 s.2.1 s.2.2.1 s.2.2.2.1 s.2.2.2.2.1 s.2.2.2.2.2.1 s.2.2.2.2.2.2.1 s.2.2.2.2.2.2.2.2 else none
theorem Ref_rowsBy_11_M : Mn Ref_rowsBy_11_F := fun g g2 hg s => by unfold Ref_rowsBy_11_F; exact le_i (Ref_rowsBy_11_m hg s.2.2.2.2.2.2.2.1 s.2.1 s.2.2.1 s.2.2.2.1 s.2.2.2.2.1 s.2.2.2.2.2.1 s.2.2.2.2.2.2.1 s.2.2.2.2.2.2.2.2) (le_i (Ref_rowsBy_33_m hg s.2.2.2.2.2.2.2.1 s.2.1 s.2.2.1 s.2.2.2.1 s.2.2.2.2.1 s.2.2.2.2.2.1 s.2.2.2.2.2.2.1 s.2.2.2.2.2.2.2.2) (le_i (Ref_rowsBy_54_m hg s.2.2.2.2.2.2.2.1 s.2.1 s.2.2.1 s.2.2.2.1 s.2.2.2.2.1 s.2.2.2.2.2.1 s.2.2.2.2.2.2.1 s.2.2.2.2.2.2.2.2) (le_i (Ref_rowsBy_66_m hg s.2.2.2.2.2.2.2.1 s.2.1 s.2.2.1 s.2.2.2.1 s.2.2.2.2.1 s.2.2.2.2.2.1 s.2.2.2.2.2.2.1 s.2.2.2.2.2.2.2.2) (le_r _))))
def Ref_rowsBy_11_P (s : (Nat × Int32 × Int32 × Int32 × Int32 × Int32 × Int32 × Nat × am_H)) (r : (Int32 × am_H)) : Prop := (s.1 = 11 → Sx 90 mX12_rowsBy 11 [.ref s.2.2.2.2.2.2.2.1, .int s.2.1, .int s.2.2.1, .int s.2.2.2.1, .int s.2.2.2.2.1, .int s.2.2.2.2.2.1, .int s.2.2.2.2.2.2.1, .retAddr 0] [] s.2.2.2.2.2.2.2.2 (some (.int r.1)) r.2) ∧ (s.1 = 33 → Sx 90 mX12_rowsBy 33 [.ref s.2.2.2.2.2.2.2.1, .int s.2.1, .int s.2.2.1, .int s.2.2.2.1, .int s.2.2.2.2.1, .int s.2.2.2.2.2.1, .retAddr 0, .retAddr 0] [.int s.2.2.2.2.2.2.1] s.2.2.2.2.2.2.2.2 (some (.int r.1)) r.2) ∧ (s.1 = 54 → Sx 90 mX12_rowsBy 54 [.ref s.2.2.2.2.2.2.2.1, .int s.2.1, .int s.2.2.1, .int s.2.2.2.1, .int s.2.2.2.2.1, .int s.2.2.2.2.2.1, .retAddr 0, .int s.2.2.2.2.2.2.1] [] s.2.2.2.2.2.2.2.2 (some (.int r.1)) r.2) ∧ (s.1 = 66 → Sx 90 mX12_rowsBy 66 [.ref s.2.2.2.2.2.2.2.1, .int s.2.1, .int s.2.2.1, .int s.2.2.2.1, .int s.2.2.2.2.1, .retAddr 0, .retAddr 0, .retAddr 0] [.int s.2.2.2.2.2.1, .int s.2.2.2.2.2.2.1] s.2.2.2.2.2.2.2.2 (some (.int r.1)) r.2) ∧ True
set_option maxHeartbeats 1000000 in
set_option maxRecDepth 100000 in
theorem Ref_rowsBy_11_t {g : (Nat × Int32 × Int32 × Int32 × Int32 × Int32 × Int32 × Nat × am_H) → Option (Int32 × am_H)} (hg : ∀ s r, g s = some r → Ref_rowsBy_11_P s r) {v0 : Nat} {v1 : Int32} {v2 : Int32} {v3 : Int32} {v4 : Int32} {v5 : Int32} {v6 : Int32} {h : am_H} {r : (Int32 × am_H)} (hb : Ref_rowsBy_11_b g v0 v1 v2 v3 v4 v5 v6 h = some r) : Sx 90 mX12_rowsBy 11 [.ref v0, .int v1, .int v2, .int v3, .int v4, .int v5, .int v6, .retAddr 0] [] h (some (.int r.1)) r.2 := by
  unfold Ref_rowsBy_11_b at hb
  refine Sx.o (fun _ _ _ k => ex_iload dX12_rowsBy_11 rfl k) ?_
  refine Sx.b (fun _ _ _ k1 k2 => ex_if_eq 78 dX12_rowsBy_13 (by decide) k1 k2) (fun q => ?_) (fun q => ?_)
  · have hb1 := ip q hb
    refine Sx.o (fun _ _ _ k => ex_iload_n dX12_rowsBy_78 rfl k) ?_
    refine Sx.o (fun _ _ _ k => op_iconst (-1 : Int32) dX12_rowsBy_79 (by decide) k) ?_
    refine Sx.bn (fun _ _ _ k1 k2 => ex_icmp_ne 88 dX12_rowsBy_80 (by decide) k1 k2) (fun q => ?_) (fun q => ?_)
    · have hb3 := iq q hb1
      refine Sx.o (fun _ _ _ k => op_iconst (-1 : Int32) dX12_rowsBy_88 (by decide) k) ?_
      obtain rfl := Option.some.inj hb3
      exact Sx.r (fun _ _ _ k => ex_iret rfl dX12_rowsBy_89 k)
    · have hb4 := ip q hb1
      refine Sx.o (fun _ _ _ k => ex_iload dX12_rowsBy_83 rfl k) ?_
      refine Sx.o (fun _ _ _ k => ex_goto 89 dX12_rowsBy_85 (by decide) k) ?_
      obtain rfl := Option.some.inj hb4
      exact Sx.r (fun _ _ _ k => ex_iret rfl dX12_rowsBy_89 k)
  · have hb2 := iq q hb
    refine Sx.o (fun _ _ _ k => ex_iload_n dX12_rowsBy_16 rfl k) ?_
    refine Sx.b (fun _ _ _ k1 k2 => ex_if_eq 28 dX12_rowsBy_17 (by decide) k1 k2) (fun q => ?_) (fun q => ?_)
    · have hb5 := ip q hb2
      refine Sx.o (fun _ _ _ k => ex_aload_n dX12_rowsBy_28 rfl rfl k) ?_
      refine Sx.o (fun _ _ _ k => ex_iload_n dX12_rowsBy_29 rfl k) ?_
      obtain ⟨r7, e_r7, hb8⟩ := ob2 hb5
      refine sx_callV (dc := 89) (as := [.int v2]) (stq := [.int r7.1]) (by omega) dX12_rowsBy_30 MX12_leadsTo kX12_402 iX12_leadsTo sX12_leadsTo rfl rfl (Ref_leadsTo_o e_r7) rfl rfl (Nat.le_of_ble_eq_true rfl) (Nat.le_of_ble_eq_true rfl) (Ref_leadsTo_s e_r7) rfl ?_
      refine Sx.fg [true, true, true, true, true, true, false, true] ?_
      exact (hg _ _ hb8).2.1 rfl
    · have hb6 := iq q hb2
      refine Sx.o (fun _ _ _ k => ex_aload_n dX12_rowsBy_20 rfl rfl k) ?_
      refine Sx.o (fun _ _ _ k => ex_iload_n dX12_rowsBy_21 rfl k) ?_
      obtain ⟨r10, e_r10, hb11⟩ := ob2 hb6
      refine sx_callV (dc := 89) (as := [.int v2]) (stq := [.int r10.1]) (by omega) dX12_rowsBy_22 MX12_fitsAll kX12_399 iX12_fitsAll sX12_fitsAll rfl rfl (Ref_fitsAll_o e_r10) rfl rfl (Nat.le_of_ble_eq_true rfl) (Nat.le_of_ble_eq_true rfl) (Ref_fitsAll_s e_r10) rfl ?_
      refine Sx.o (fun _ _ _ k => ex_goto 33 dX12_rowsBy_25 (by decide) k) ?_
      refine Sx.fg [true, true, true, true, true, true, false, true] ?_
      exact (hg _ _ hb11).2.1 rfl
set_option maxHeartbeats 1000000 in
set_option maxRecDepth 100000 in
theorem Ref_rowsBy_33_t {g : (Nat × Int32 × Int32 × Int32 × Int32 × Int32 × Int32 × Nat × am_H) → Option (Int32 × am_H)} (hg : ∀ s r, g s = some r → Ref_rowsBy_11_P s r) {v0 : Nat} {v1 : Int32} {v2 : Int32} {v3 : Int32} {v4 : Int32} {v5 : Int32} {s0 : Int32} {h : am_H} {r : (Int32 × am_H)} (hb : Ref_rowsBy_33_b g v0 v1 v2 v3 v4 v5 s0 h = some r) : Sx 90 mX12_rowsBy 33 [.ref v0, .int v1, .int v2, .int v3, .int v4, .int v5, .retAddr 0, .retAddr 0] [.int s0] h (some (.int r.1)) r.2 := by
  unfold Ref_rowsBy_33_b at hb
  refine Sx.o (L' := [.ref v0, .int v1, .int v2, .int v3, .int v4, .int v5, .retAddr 0, .int s0]) (fun _ _ _ k => ex_istore dX12_rowsBy_33 (by decide) k) ?_
  refine Sx.o (fun _ _ _ k => ex_iload dX12_rowsBy_35 rfl k) ?_
  refine Sx.b (fun _ _ _ k1 k2 => ex_if_eq 54 dX12_rowsBy_37 (by decide) k1 k2) (fun q => ?_) (fun q => ?_)
  · have hb13 := ip q hb
    exact (hg _ _ hb13).2.2.1 rfl
  · have hb14 := iq q hb
    refine Sx.o (fun _ _ _ k => ex_iload dX12_rowsBy_40 rfl k) ?_
    refine Sx.o (fun _ _ _ k => ex_iload_n dX12_rowsBy_42 rfl k) ?_
    refine Sx.bn (fun _ _ _ k1 k2 => ex_icmp_ne 54 dX12_rowsBy_43 (by decide) k1 k2) (fun q => ?_) (fun q => ?_)
    · have hb15 := iq q hb14
      exact (hg _ _ hb15).2.2.1 rfl
    · have hb16 := ip q hb14
      refine Sx.o (fun _ _ _ k => ex_aload_n dX12_rowsBy_46 rfl rfl k) ?_
      obtain ⟨x17, e_x17, hb18⟩ := ob2 hb16
      refine Sx.o (fun _ _ _ k => op_getR fX12_80 dX12_rowsBy_47 e_x17 k) ?_
      refine Sx.o (fun _ _ _ k => ex_iload dX12_rowsBy_50 rfl k) ?_
      obtain ⟨x19, e_x19, hb20⟩ := ob2 hb18
      refine Sx.o (fun _ _ _ k => op_iald dX12_rowsBy_52 e_x19 k) ?_
      obtain rfl := Option.some.inj hb20
      exact Sx.r (fun _ _ _ k => ex_iret rfl dX12_rowsBy_53 k)
set_option maxHeartbeats 1000000 in
set_option maxRecDepth 100000 in
theorem Ref_rowsBy_54_t {g : (Nat × Int32 × Int32 × Int32 × Int32 × Int32 × Int32 × Nat × am_H) → Option (Int32 × am_H)} (hg : ∀ s r, g s = some r → Ref_rowsBy_11_P s r) {v0 : Nat} {v1 : Int32} {v2 : Int32} {v3 : Int32} {v4 : Int32} {v5 : Int32} {v7 : Int32} {h : am_H} {r : (Int32 × am_H)} (hb : Ref_rowsBy_54_b g v0 v1 v2 v3 v4 v5 v7 h = some r) : Sx 90 mX12_rowsBy 54 [.ref v0, .int v1, .int v2, .int v3, .int v4, .int v5, .retAddr 0, .int v7] [] h (some (.int r.1)) r.2 := by
  unfold Ref_rowsBy_54_b at hb
  refine Sx.o (fun _ _ _ k => ex_iload dX12_rowsBy_54 rfl k) ?_
  refine Sx.o (fun _ _ _ k => ex_iload dX12_rowsBy_56 rfl k) ?_
  refine Sx.b (fun _ _ _ k1 k2 => ex_if_eq 65 dX12_rowsBy_58 (by decide) k1 k2) (fun q => ?_) (fun q => ?_)
  · have hb21 := ip q hb
    refine Sx.o (fun _ _ _ k => op_iconst (0 : Int32) dX12_rowsBy_65 (by decide) k) ?_
    refine Sx.fg [true, true, true, true, true, false, true, false] ?_
    exact (hg _ _ hb21).2.2.2.1 rfl
  · have hb22 := iq q hb
    refine Sx.o (fun _ _ _ k => op_iconst (1 : Int32) dX12_rowsBy_61 (by decide) k) ?_
    refine Sx.o (fun _ _ _ k => ex_goto 66 dX12_rowsBy_62 (by decide) k) ?_
    refine Sx.fg [true, true, true, true, true, false, true, false] ?_
    exact (hg _ _ hb22).2.2.2.1 rfl
set_option maxHeartbeats 1000000 in
set_option maxRecDepth 100000 in
theorem Ref_rowsBy_66_t {g : (Nat × Int32 × Int32 × Int32 × Int32 × Int32 × Int32 × Nat × am_H) → Option (Int32 × am_H)} (hg : ∀ s r, g s = some r → Ref_rowsBy_11_P s r) {v0 : Nat} {v1 : Int32} {v2 : Int32} {v3 : Int32} {v4 : Int32} {s0 : Int32} {s1 : Int32} {h : am_H} {r : (Int32 × am_H)} (hb : Ref_rowsBy_66_b g v0 v1 v2 v3 v4 s0 s1 h = some r) : Sx 90 mX12_rowsBy 66 [.ref v0, .int v1, .int v2, .int v3, .int v4, .retAddr 0, .retAddr 0, .retAddr 0] [.int s0, .int s1] h (some (.int r.1)) r.2 := by
  unfold Ref_rowsBy_66_b at hb
  refine Sx.o (fun _ _ _ k => ex_iadd dX12_rowsBy_66 k) ?_
  refine Sx.o (L' := [.ref v0, .int v1, .int v2, .int v3, .int v4, .int (s1 + s0), .retAddr 0, .retAddr 0]) (fun _ _ _ k => ex_istore dX12_rowsBy_67 (by decide) k) ?_
  refine Sx.o (fun _ _ _ k => ex_aload_n dX12_rowsBy_69 rfl rfl k) ?_
  obtain ⟨r23, e_r23, hb24⟩ := ob2 hb
  refine sx_callV (dc := 0) (as := []) (stq := [.int r23.1]) (by omega) dX12_rowsBy_70 MX12_nextRow kX12_390 iX12_nextRow sX12_nextRow rfl rfl (Ref_nextRow_o e_r23) rfl rfl (Nat.le_of_ble_eq_true rfl) (Nat.le_of_ble_eq_true rfl) (Ref_nextRow_s e_r23) rfl ?_
  refine Sx.o (L' := [.ref v0, .int v1, .int v2, .int v3, .int v4, .int (s1 + s0), .int r23.1, .retAddr 0]) (fun _ _ _ k => ex_istore dX12_rowsBy_73 (by decide) k) ?_
  refine Sx.o (fun _ _ _ k => ex_goto 11 dX12_rowsBy_75 (by decide) k) ?_
  exact (hg _ _ hb24).1 rfl
theorem Ref_rowsBy_11_T : ∀ s r, fx Ref_rowsBy_11_F Ref_rowsBy_11_M s = some r → Ref_rowsBy_11_P s r := fx_ind Ref_rowsBy_11_M Ref_rowsBy_11_P (fun g hg s r hb => by
  unfold Ref_rowsBy_11_F at hb
  exact ⟨fun q => Ref_rowsBy_11_t hg (ip q hb), fun q => Ref_rowsBy_33_t hg (ip q (iq (by rw [q]; decide) hb)), fun q => Ref_rowsBy_54_t hg (ip q (iq (by rw [q]; decide) (iq (by rw [q]; decide) hb))), fun q => Ref_rowsBy_66_t hg (ip q (iq (by rw [q]; decide) (iq (by rw [q]; decide) (iq (by rw [q]; decide) hb)))), trivial⟩)
set_option maxHeartbeats 1000000 in
set_option maxRecDepth 100000 in
theorem Ref_rowsBy_11_r {g : (Nat × Int32 × Int32 × Int32 × Int32 × Int32 × Int32 × Nat × am_H) → Option (Int32 × am_H)} (hg : ∀ s r, g s = some r → Eqs s.2.2.2.2.2.2.2.2 r.2) {v0 : Nat} {v1 : Int32} {v2 : Int32} {v3 : Int32} {v4 : Int32} {v5 : Int32} {v6 : Int32} {h : am_H} {r : (Int32 × am_H)} (hb : Ref_rowsBy_11_b g v0 v1 v2 v3 v4 v5 v6 h = some r) : Eqs h r.2 := by
  unfold Ref_rowsBy_11_b at hb
  have w0 := Eqs.rf h
  by_cases q : v6 = (0 : Int32)
  · have hb1 := ip q hb
    by_cases q : v3 = (-1 : Int32)
    · have hb4 := ip q hb1
      obtain rfl := Option.some.inj hb4
      exact w0
    · have hb3 := iq q hb1
      obtain rfl := Option.some.inj hb3
      exact w0
  · have hb2 := iq q hb
    by_cases q : v1 = (0 : Int32)
    · have hb5 := ip q hb2
      obtain ⟨r7, e_r7, hb8⟩ := ob2 hb5
      have w9 := w0.tr (Ref_leadsTo_q e_r7)
      exact w9.tr (hg _ _ hb8)
    · have hb6 := iq q hb2
      obtain ⟨r10, e_r10, hb11⟩ := ob2 hb6
      have w12 := w0.tr (Ref_fitsAll_q e_r10)
      exact w12.tr (hg _ _ hb11)
set_option maxHeartbeats 1000000 in
set_option maxRecDepth 100000 in
theorem Ref_rowsBy_33_r {g : (Nat × Int32 × Int32 × Int32 × Int32 × Int32 × Int32 × Nat × am_H) → Option (Int32 × am_H)} (hg : ∀ s r, g s = some r → Eqs s.2.2.2.2.2.2.2.2 r.2) {v0 : Nat} {v1 : Int32} {v2 : Int32} {v3 : Int32} {v4 : Int32} {v5 : Int32} {s0 : Int32} {h : am_H} {r : (Int32 × am_H)} (hb : Ref_rowsBy_33_b g v0 v1 v2 v3 v4 v5 s0 h = some r) : Eqs h r.2 := by
  unfold Ref_rowsBy_33_b at hb
  have w0 := Eqs.rf h
  by_cases q : s0 = (0 : Int32)
  · have hb13 := ip q hb
    exact w0.tr (hg _ _ hb13)
  · have hb14 := iq q hb
    by_cases q : v5 = v3
    · have hb16 := ip q hb14
      obtain ⟨x17, e_x17, hb18⟩ := ob2 hb16
      obtain ⟨x19, e_x19, hb20⟩ := ob2 hb18
      obtain rfl := Option.some.inj hb20
      exact w0
    · have hb15 := iq q hb14
      exact w0.tr (hg _ _ hb15)
set_option maxHeartbeats 1000000 in
set_option maxRecDepth 100000 in
theorem Ref_rowsBy_54_r {g : (Nat × Int32 × Int32 × Int32 × Int32 × Int32 × Int32 × Nat × am_H) → Option (Int32 × am_H)} (hg : ∀ s r, g s = some r → Eqs s.2.2.2.2.2.2.2.2 r.2) {v0 : Nat} {v1 : Int32} {v2 : Int32} {v3 : Int32} {v4 : Int32} {v5 : Int32} {v7 : Int32} {h : am_H} {r : (Int32 × am_H)} (hb : Ref_rowsBy_54_b g v0 v1 v2 v3 v4 v5 v7 h = some r) : Eqs h r.2 := by
  unfold Ref_rowsBy_54_b at hb
  have w0 := Eqs.rf h
  by_cases q : v7 = (0 : Int32)
  · have hb21 := ip q hb
    exact w0.tr (hg _ _ hb21)
  · have hb22 := iq q hb
    exact w0.tr (hg _ _ hb22)
set_option maxHeartbeats 1000000 in
set_option maxRecDepth 100000 in
theorem Ref_rowsBy_66_r {g : (Nat × Int32 × Int32 × Int32 × Int32 × Int32 × Int32 × Nat × am_H) → Option (Int32 × am_H)} (hg : ∀ s r, g s = some r → Eqs s.2.2.2.2.2.2.2.2 r.2) {v0 : Nat} {v1 : Int32} {v2 : Int32} {v3 : Int32} {v4 : Int32} {s0 : Int32} {s1 : Int32} {h : am_H} {r : (Int32 × am_H)} (hb : Ref_rowsBy_66_b g v0 v1 v2 v3 v4 s0 s1 h = some r) : Eqs h r.2 := by
  unfold Ref_rowsBy_66_b at hb
  have w0 := Eqs.rf h
  obtain ⟨r23, e_r23, hb24⟩ := ob2 hb
  have w25 := w0.tr (Ref_nextRow_q e_r23)
  exact w25.tr (hg _ _ hb24)
theorem Ref_rowsBy_11_Q : ∀ s r, fx Ref_rowsBy_11_F Ref_rowsBy_11_M s = some r → Eqs s.2.2.2.2.2.2.2.2 r.2 := fx_ind Ref_rowsBy_11_M (fun s r => Eqs s.2.2.2.2.2.2.2.2 r.2) (fun g hg s r hb => by
  unfold Ref_rowsBy_11_F at hb
  by_cases q0 : s.1 = 11
  · exact Ref_rowsBy_11_r hg (ip q0 hb)
  · have hb0 := iq q0 hb
    by_cases q1 : s.1 = 33
    · exact Ref_rowsBy_33_r hg (ip q1 hb0)
    · have hb1 := iq q1 hb0
      by_cases q2 : s.1 = 54
      · exact Ref_rowsBy_54_r hg (ip q2 hb1)
      · have hb2 := iq q2 hb1
        by_cases q3 : s.1 = 66
        · exact Ref_rowsBy_66_r hg (ip q3 hb2)
        · have hb3 := iq q3 hb2
          exact nomatch hb3)
noncomputable def Ref_rowsBy_11 (v0 : Nat) (v1 : Int32) (v2 : Int32) (v3 : Int32) (v4 : Int32) (v5 : Int32) (v6 : Int32) (h : am_H) : Option (Int32 × am_H) := fx Ref_rowsBy_11_F Ref_rowsBy_11_M (11, v1, v2, v3, v4, v5, v6, v0, h)
noncomputable def Ref_rowsBy_33 (v0 : Nat) (v1 : Int32) (v2 : Int32) (v3 : Int32) (v4 : Int32) (v5 : Int32) (s0 : Int32) (h : am_H) : Option (Int32 × am_H) := fx Ref_rowsBy_11_F Ref_rowsBy_11_M (33, v1, v2, v3, v4, v5, s0, v0, h)
noncomputable def Ref_rowsBy_54 (v0 : Nat) (v1 : Int32) (v2 : Int32) (v3 : Int32) (v4 : Int32) (v5 : Int32) (v7 : Int32) (h : am_H) : Option (Int32 × am_H) := fx Ref_rowsBy_11_F Ref_rowsBy_11_M (54, v1, v2, v3, v4, v5, v7, v0, h)
noncomputable def Ref_rowsBy_66 (v0 : Nat) (v1 : Int32) (v2 : Int32) (v3 : Int32) (v4 : Int32) (s0 : Int32) (s1 : Int32) (h : am_H) : Option (Int32 × am_H) := fx Ref_rowsBy_11_F Ref_rowsBy_11_M (66, v1, v2, v3, v4, s0, s1, v0, h)
set_option maxHeartbeats 1000000 in
set_option maxRecDepth 100000 in
theorem Ref_rowsBy_11_e (v0 : Nat) (v1 : Int32) (v2 : Int32) (v3 : Int32) (v4 : Int32) (v5 : Int32) (v6 : Int32) (h : am_H) : Ref_rowsBy_11 v0 v1 v2 v3 v4 v5 v6 h = (if v6 = (0 : Int32) then if v3 = (-1 : Int32) then some (v5, h) else some ((-1 : Int32), h) else if v1 = (0 : Int32) then (Ref_leadsTo v0 v2 h).bind fun r7 => Ref_rowsBy_33 v0 v1 v2 v3 v4 v5 r7.1 r7.2 else (Ref_fitsAll v0 v2 h).bind fun r10 => Ref_rowsBy_33 v0 v1 v2 v3 v4 v5 r10.1 r10.2) := (fx_eq Ref_rowsBy_11_M (11, v1, v2, v3, v4, v5, v6, v0, h)).trans (if_pos rfl)
theorem Ref_rowsBy_11_q {v0 : Nat} {v1 : Int32} {v2 : Int32} {v3 : Int32} {v4 : Int32} {v5 : Int32} {v6 : Int32} {h : am_H} {r : (Int32 × am_H)} (hb : Ref_rowsBy_11 v0 v1 v2 v3 v4 v5 v6 h = some r) : Eqs h r.2 := Ref_rowsBy_11_Q _ _ hb
theorem Ref_rowsBy_11_s {v0 : Nat} {v1 : Int32} {v2 : Int32} {v3 : Int32} {v4 : Int32} {v5 : Int32} {v6 : Int32} {h : am_H} {r : (Int32 × am_H)} (hb : Ref_rowsBy_11 v0 v1 v2 v3 v4 v5 v6 h = some r) : Sx 90 mX12_rowsBy 11 [.ref v0, .int v1, .int v2, .int v3, .int v4, .int v5, .int v6, .retAddr 0] [] h (some (.int r.1)) r.2 := (Ref_rowsBy_11_T _ _ hb).1 rfl
set_option maxHeartbeats 1000000 in
set_option maxRecDepth 100000 in
theorem Ref_rowsBy_33_e (v0 : Nat) (v1 : Int32) (v2 : Int32) (v3 : Int32) (v4 : Int32) (v5 : Int32) (s0 : Int32) (h : am_H) : Ref_rowsBy_33 v0 v1 v2 v3 v4 v5 s0 h = (if s0 = (0 : Int32) then Ref_rowsBy_54 v0 v1 v2 v3 v4 v5 s0 h else if v5 = v3 then (gR h 12 v0 40).bind fun x17 => (aI h 0 x17 v4).bind fun x19 => some (x19, h) else Ref_rowsBy_54 v0 v1 v2 v3 v4 v5 s0 h) := (fx_eq Ref_rowsBy_11_M (33, v1, v2, v3, v4, v5, s0, v0, h)).trans ((if_neg (show ¬ (33 : Nat) = 11 by decide)).trans (if_pos rfl))
theorem Ref_rowsBy_33_q {v0 : Nat} {v1 : Int32} {v2 : Int32} {v3 : Int32} {v4 : Int32} {v5 : Int32} {s0 : Int32} {h : am_H} {r : (Int32 × am_H)} (hb : Ref_rowsBy_33 v0 v1 v2 v3 v4 v5 s0 h = some r) : Eqs h r.2 := Ref_rowsBy_11_Q _ _ hb
theorem Ref_rowsBy_33_s {v0 : Nat} {v1 : Int32} {v2 : Int32} {v3 : Int32} {v4 : Int32} {v5 : Int32} {s0 : Int32} {h : am_H} {r : (Int32 × am_H)} (hb : Ref_rowsBy_33 v0 v1 v2 v3 v4 v5 s0 h = some r) : Sx 90 mX12_rowsBy 33 [.ref v0, .int v1, .int v2, .int v3, .int v4, .int v5, .retAddr 0, .retAddr 0] [.int s0] h (some (.int r.1)) r.2 := (Ref_rowsBy_11_T _ _ hb).2.1 rfl
set_option maxHeartbeats 1000000 in
set_option maxRecDepth 100000 in
theorem Ref_rowsBy_54_e (v0 : Nat) (v1 : Int32) (v2 : Int32) (v3 : Int32) (v4 : Int32) (v5 : Int32) (v7 : Int32) (h : am_H) : Ref_rowsBy_54 v0 v1 v2 v3 v4 v5 v7 h = (if v7 = (0 : Int32) then Ref_rowsBy_66 v0 v1 v2 v3 v4 (0 : Int32) v5 h else Ref_rowsBy_66 v0 v1 v2 v3 v4 (1 : Int32) v5 h) := (fx_eq Ref_rowsBy_11_M (54, v1, v2, v3, v4, v5, v7, v0, h)).trans ((if_neg (show ¬ (54 : Nat) = 11 by decide)).trans ((if_neg (show ¬ (54 : Nat) = 33 by decide)).trans (if_pos rfl)))
theorem Ref_rowsBy_54_q {v0 : Nat} {v1 : Int32} {v2 : Int32} {v3 : Int32} {v4 : Int32} {v5 : Int32} {v7 : Int32} {h : am_H} {r : (Int32 × am_H)} (hb : Ref_rowsBy_54 v0 v1 v2 v3 v4 v5 v7 h = some r) : Eqs h r.2 := Ref_rowsBy_11_Q _ _ hb
theorem Ref_rowsBy_54_s {v0 : Nat} {v1 : Int32} {v2 : Int32} {v3 : Int32} {v4 : Int32} {v5 : Int32} {v7 : Int32} {h : am_H} {r : (Int32 × am_H)} (hb : Ref_rowsBy_54 v0 v1 v2 v3 v4 v5 v7 h = some r) : Sx 90 mX12_rowsBy 54 [.ref v0, .int v1, .int v2, .int v3, .int v4, .int v5, .retAddr 0, .int v7] [] h (some (.int r.1)) r.2 := (Ref_rowsBy_11_T _ _ hb).2.2.1 rfl
set_option maxHeartbeats 1000000 in
set_option maxRecDepth 100000 in
theorem Ref_rowsBy_66_e (v0 : Nat) (v1 : Int32) (v2 : Int32) (v3 : Int32) (v4 : Int32) (s0 : Int32) (s1 : Int32) (h : am_H) : Ref_rowsBy_66 v0 v1 v2 v3 v4 s0 s1 h = ((Ref_nextRow v0 h).bind fun r23 => Ref_rowsBy_11 v0 v1 v2 v3 v4 (s1 + s0) r23.1 r23.2) := (fx_eq Ref_rowsBy_11_M (66, v1, v2, v3, v4, s0, s1, v0, h)).trans ((if_neg (show ¬ (66 : Nat) = 11 by decide)).trans ((if_neg (show ¬ (66 : Nat) = 33 by decide)).trans ((if_neg (show ¬ (66 : Nat) = 54 by decide)).trans (if_pos rfl))))
theorem Ref_rowsBy_66_q {v0 : Nat} {v1 : Int32} {v2 : Int32} {v3 : Int32} {v4 : Int32} {s0 : Int32} {s1 : Int32} {h : am_H} {r : (Int32 × am_H)} (hb : Ref_rowsBy_66 v0 v1 v2 v3 v4 s0 s1 h = some r) : Eqs h r.2 := Ref_rowsBy_11_Q _ _ hb
theorem Ref_rowsBy_66_s {v0 : Nat} {v1 : Int32} {v2 : Int32} {v3 : Int32} {v4 : Int32} {s0 : Int32} {s1 : Int32} {h : am_H} {r : (Int32 × am_H)} (hb : Ref_rowsBy_66 v0 v1 v2 v3 v4 s0 s1 h = some r) : Sx 90 mX12_rowsBy 66 [.ref v0, .int v1, .int v2, .int v3, .int v4, .retAddr 0, .retAddr 0, .retAddr 0] [.int s0, .int s1] h (some (.int r.1)) r.2 := (Ref_rowsBy_11_T _ _ hb).2.2.2.1 rfl
set_option maxHeartbeats 1000000 in
set_option maxRecDepth 100000 in
noncomputable def Ref_rowsBy (v0 : Nat) (v1 : Int32) (v2 : Int32) (v3 : Int32) (v4 : Int32) (h : am_H) : Option (Int32 × am_H) := if isO h 12 v0 = true then (Ref_firstRow v0 v2 h).bind fun h26 => Ref_rowsBy_11 v0 v1 v2 v3 v4 (0 : Int32) (1 : Int32) h26 else none
set_option maxHeartbeats 1000000 in
set_option maxRecDepth 100000 in
theorem Ref_rowsBy_s {v0 : Nat} {v1 : Int32} {v2 : Int32} {v3 : Int32} {v4 : Int32} {h : am_H} {r : (Int32 × am_H)} (hb : Ref_rowsBy v0 v1 v2 v3 v4 h = some r) : Sx 90 mX12_rowsBy 0 (am_en [.ref v0, .int v1, .int v2, .int v3, .int v4] 8) [] h (some (.int r.1)) r.2 := by
  unfold Ref_rowsBy at hb
  have hb := (iz hb).2
  show Sx 90 mX12_rowsBy 0 [.ref v0, .int v1, .int v2, .int v3, .int v4, .retAddr 0, .retAddr 0, .retAddr 0] [] h (some (.int r.1)) r.2
  refine Sx.o (fun _ _ _ k => op_iconst (0 : Int32) dX12_rowsBy_0 (by decide) k) ?_
  refine Sx.o (L' := [.ref v0, .int v1, .int v2, .int v3, .int v4, .int (0 : Int32), .retAddr 0, .retAddr 0]) (fun _ _ _ k => ex_istore dX12_rowsBy_1 (by decide) k) ?_
  refine Sx.o (fun _ _ _ k => ex_aload_n dX12_rowsBy_3 rfl rfl k) ?_
  refine Sx.o (fun _ _ _ k => ex_iload_n dX12_rowsBy_4 rfl k) ?_
  obtain ⟨h26, e_h26, hb27⟩ := ob2 hb
  refine sx_callV (dc := 2) (as := [.int v2]) (stq := []) (by omega) dX12_rowsBy_5 MX12_firstRow kX12_396 iX12_firstRow sX12_firstRow rfl rfl (Ref_firstRow_o e_h26) rfl rfl (Nat.le_of_ble_eq_true rfl) (Nat.le_of_ble_eq_true rfl) (Ref_firstRow_s e_h26) rfl ?_
  refine Sx.o (fun _ _ _ k => op_iconst (1 : Int32) dX12_rowsBy_8 (by decide) k) ?_
  refine Sx.o (L' := [.ref v0, .int v1, .int v2, .int v3, .int v4, .int (0 : Int32), .int (1 : Int32), .retAddr 0]) (fun _ _ _ k => ex_istore dX12_rowsBy_9 (by decide) k) ?_
  exact Ref_rowsBy_11_s hb27
set_option maxHeartbeats 1000000 in
set_option maxRecDepth 100000 in
theorem Ref_rowsBy_q {v0 : Nat} {v1 : Int32} {v2 : Int32} {v3 : Int32} {v4 : Int32} {h : am_H} {r : (Int32 × am_H)} (hb : Ref_rowsBy v0 v1 v2 v3 v4 h = some r) : Eqs h r.2 := by
  unfold Ref_rowsBy at hb
  have hb := (iz hb).2
  have w0 := Eqs.rf h
  obtain ⟨h26, e_h26, hb27⟩ := ob2 hb
  have w28 := w0.tr (Ref_firstRow_q e_h26)
  exact w28.tr (Ref_rowsBy_11_q hb27)
theorem Ref_rowsBy_o {v0 : Nat} {v1 : Int32} {v2 : Int32} {v3 : Int32} {v4 : Int32} {h : am_H} {r : (Int32 × am_H)} (hb : Ref_rowsBy v0 v1 v2 v3 v4 h = some r) : isO h 12 v0 = true := by
  unfold Ref_rowsBy at hb
  exact (iz hb).1
set_option maxHeartbeats 1000000 in
set_option maxRecDepth 100000 in
noncomputable def Ref_fits (v0 : Nat) (v1 : Int32) (v2 : Int32) (v3 : Int32) (h : am_H) : Option (Int32 × am_H) := if isO h 12 v0 = true then (Ref_canAsk v0 v1 v2 v3 h).bind fun x1 => if x1 = (0 : Int32) then some ((-1 : Int32), h) else (Ref_rowsBy v0 (1 : Int32) v1 v2 v3 h).bind fun r5 => some (r5.1, r5.2) else none
set_option maxHeartbeats 1000000 in
set_option maxRecDepth 100000 in
theorem Ref_fits_s {v0 : Nat} {v1 : Int32} {v2 : Int32} {v3 : Int32} {h : am_H} {r : (Int32 × am_H)} (hb : Ref_fits v0 v1 v2 v3 h = some r) : Sx 91 mX12_fits 0 (am_en [.ref v0, .int v1, .int v2, .int v3] 4) [] h (some (.int r.1)) r.2 := by
  unfold Ref_fits at hb
  have hb := (iz hb).2
  show Sx 91 mX12_fits 0 [.ref v0, .int v1, .int v2, .int v3] [] h (some (.int r.1)) r.2
  refine Sx.o (fun _ _ _ k => ex_aload_n dX12_fits_0 rfl rfl k) ?_
  refine Sx.o (fun _ _ _ k => ex_iload_n dX12_fits_1 rfl k) ?_
  refine Sx.o (fun _ _ _ k => ex_iload_n dX12_fits_2 rfl k) ?_
  refine Sx.o (fun _ _ _ k => ex_iload_n dX12_fits_3 rfl k) ?_
  obtain ⟨x1, e_x1, hb2⟩ := ob2 hb
  refine sx_callV (dc := 2) (as := [.int v1, .int v2, .int v3]) (stq := [.int x1]) (by omega) dX12_fits_4 MX12_canAsk kX12_405 iX12_canAsk sX12_canAsk rfl rfl (Ref_canAsk_o e_x1) rfl rfl (Nat.le_of_ble_eq_true rfl) (Nat.le_of_ble_eq_true rfl) (Ref_canAsk_s e_x1) rfl ?_
  refine Sx.b (fun _ _ _ k1 k2 => ex_if_eq 21 dX12_fits_7 (by decide) k1 k2) (fun q => ?_) (fun q => ?_)
  · have hb3 := ip q hb2
    refine Sx.o (fun _ _ _ k => op_iconst (-1 : Int32) dX12_fits_21 (by decide) k) ?_
    obtain rfl := Option.some.inj hb3
    exact Sx.r (fun _ _ _ k => ex_iret rfl dX12_fits_22 k)
  · have hb4 := iq q hb2
    refine Sx.o (fun _ _ _ k => ex_aload_n dX12_fits_10 rfl rfl k) ?_
    refine Sx.o (fun _ _ _ k => op_iconst (1 : Int32) dX12_fits_11 (by decide) k) ?_
    refine Sx.o (fun _ _ _ k => ex_iload_n dX12_fits_12 rfl k) ?_
    refine Sx.o (fun _ _ _ k => ex_iload_n dX12_fits_13 rfl k) ?_
    refine Sx.o (fun _ _ _ k => ex_iload_n dX12_fits_14 rfl k) ?_
    obtain ⟨r5, e_r5, hb6⟩ := ob2 hb4
    refine sx_callV (dc := 90) (as := [.int (1 : Int32), .int v1, .int v2, .int v3]) (stq := [.int r5.1]) (by omega) dX12_fits_15 MX12_rowsBy kX12_408 iX12_rowsBy sX12_rowsBy rfl rfl (Ref_rowsBy_o e_r5) rfl rfl (Nat.le_of_ble_eq_true rfl) (Nat.le_of_ble_eq_true rfl) (Ref_rowsBy_s e_r5) rfl ?_
    refine Sx.o (fun _ _ _ k => ex_goto 22 dX12_fits_18 (by decide) k) ?_
    obtain rfl := Option.some.inj hb6
    exact Sx.r (fun _ _ _ k => ex_iret rfl dX12_fits_22 k)
set_option maxHeartbeats 1000000 in
set_option maxRecDepth 100000 in
theorem Ref_fits_q {v0 : Nat} {v1 : Int32} {v2 : Int32} {v3 : Int32} {h : am_H} {r : (Int32 × am_H)} (hb : Ref_fits v0 v1 v2 v3 h = some r) : Eqs h r.2 := by
  unfold Ref_fits at hb
  have hb := (iz hb).2
  have w0 := Eqs.rf h
  obtain ⟨x1, e_x1, hb2⟩ := ob2 hb
  by_cases q : x1 = (0 : Int32)
  · have hb3 := ip q hb2
    obtain rfl := Option.some.inj hb3
    exact w0
  · have hb4 := iq q hb2
    obtain ⟨r5, e_r5, hb6⟩ := ob2 hb4
    have w7 := w0.tr (Ref_rowsBy_q e_r5)
    obtain rfl := Option.some.inj hb6
    exact w7
theorem Ref_fits_o {v0 : Nat} {v1 : Int32} {v2 : Int32} {v3 : Int32} {h : am_H} {r : (Int32 × am_H)} (hb : Ref_fits v0 v1 v2 v3 h = some r) : isO h 12 v0 = true := by
  unfold Ref_fits at hb
  exact (iz hb).1
set_option maxHeartbeats 1000000 in
set_option maxRecDepth 100000 in
noncomputable def Ref_force (v0 : Nat) (v1 : Int32) (h : am_H) : Option (Int32 × am_H) := if isO h 12 v0 = true then (gR h 12 v0 2).bind fun x1 => (aI h 0 x1 (116 : Int32)).bind fun x3 => (Ref_lies v1 (-1 : Int32) (x3 - (1 : Int32)) h).bind fun x5 => if x5 = (0 : Int32) then (Ref_refuses v0 (-2 : Int32) h).bind fun r21 => some (r21.1, r21.2) else (gR h 12 v0 2).bind fun x9 => (aI h 0 x9 (117 : Int32)).bind fun x11 => (gR h 12 v0 2).bind fun x13 => (sI h x13 (117 : Int32) v1).bind fun h15 => (Ref_good v0 x11 h15).bind fun r18 => some (r18.1, r18.2) else none
set_option maxHeartbeats 1000000 in
set_option maxRecDepth 100000 in
theorem Ref_force_s {v0 : Nat} {v1 : Int32} {h : am_H} {r : (Int32 × am_H)} (hb : Ref_force v0 v1 h = some r) : Sx 1 mX12_force 0 (am_en [.ref v0, .int v1] 3) [] h (some (.int r.1)) r.2 := by
  unfold Ref_force at hb
  have hb := (iz hb).2
  show Sx 1 mX12_force 0 [.ref v0, .int v1, .retAddr 0] [] h (some (.int r.1)) r.2
  refine Sx.o (fun _ _ _ k => ex_iload_n dX12_force_0 rfl k) ?_
  refine Sx.o (fun _ _ _ k => op_iconst (-1 : Int32) dX12_force_1 (by decide) k) ?_
  refine Sx.o (fun _ _ _ k => ex_aload_n dX12_force_2 rfl rfl k) ?_
  obtain ⟨x1, e_x1, hb2⟩ := ob2 hb
  refine Sx.o (fun _ _ _ k => op_getR fX12_24 dX12_force_3 e_x1 k) ?_
  refine Sx.o (fun _ _ _ k => op_bipush (116 : Int32) dX12_force_6 (by decide) k) ?_
  obtain ⟨x3, e_x3, hb4⟩ := ob2 hb2
  refine Sx.o (fun _ _ _ k => op_iald dX12_force_8 e_x3 k) ?_
  refine Sx.o (fun _ _ _ k => op_iconst (1 : Int32) dX12_force_9 (by decide) k) ?_
  refine Sx.o (fun _ _ _ k => ex_isub dX12_force_10 k) ?_
  obtain ⟨x5, e_x5, hb6⟩ := ob2 hb4
  refine sx_callS (dc := 0) (as := [.int v1, .int (-1 : Int32), .int (x3 - (1 : Int32))]) (stq := [.int x5]) (by omega) dX12_force_11 MX12_lies kX12_102 tX12_lies rfl rfl (Nat.le_of_ble_eq_true rfl) (Nat.le_of_ble_eq_true rfl) (Ref_lies_s e_x5) rfl ?_
  refine Sx.bn (fun _ _ _ k1 k2 => ex_if_ne 24 dX12_force_14 (by decide) k1 k2) (fun q => ?_) (fun q => ?_)
  · have hb7 := iq q hb6
    refine Sx.o (fun _ _ _ k => ex_aload_n dX12_force_24 rfl rfl k) ?_
    obtain ⟨x9, e_x9, hb10⟩ := ob2 hb7
    refine Sx.o (fun _ _ _ k => op_getR fX12_24 dX12_force_25 e_x9 k) ?_
    refine Sx.o (fun _ _ _ k => op_bipush (117 : Int32) dX12_force_28 (by decide) k) ?_
    obtain ⟨x11, e_x11, hb12⟩ := ob2 hb10
    refine Sx.o (fun _ _ _ k => op_iald dX12_force_30 e_x11 k) ?_
    refine Sx.o (L' := [.ref v0, .int v1, .int x11]) (fun _ _ _ k => ex_istore_n dX12_force_31 (by decide) k) ?_
    refine Sx.o (fun _ _ _ k => ex_aload_n dX12_force_32 rfl rfl k) ?_
    obtain ⟨x13, e_x13, hb14⟩ := ob2 hb12
    refine Sx.o (fun _ _ _ k => op_getR fX12_24 dX12_force_33 e_x13 k) ?_
    refine Sx.o (fun _ _ _ k => op_bipush (117 : Int32) dX12_force_36 (by decide) k) ?_
    refine Sx.o (fun _ _ _ k => ex_iload_n dX12_force_38 rfl k) ?_
    obtain ⟨h15, e_h15, hb16⟩ := ob2 hb14
    refine Sx.p (sI_q e_h15) (fun _ _ _ k => op_iast dX12_force_39 e_h15 k) ?_
    refine Sx.o (fun _ _ _ k => ex_aload_n dX12_force_40 rfl rfl k) ?_
    refine Sx.o (fun _ _ _ k => ex_iload_n dX12_force_41 rfl k) ?_
    obtain ⟨r18, e_r18, hb19⟩ := ob2 hb16
    refine sx_callV (dc := 0) (as := [.int x11]) (stq := [.int r18.1]) (by omega) dX12_force_42 MX12_good kX12_14 iX12_good sX12_good rfl rfl (Ref_good_o e_r18) rfl rfl (Nat.le_of_ble_eq_true rfl) (Nat.le_of_ble_eq_true rfl) (Ref_good_s e_r18) rfl ?_
    obtain rfl := Option.some.inj hb19
    exact Sx.r (fun _ _ _ k => ex_iret rfl dX12_force_45 k)
  · have hb8 := ip q hb6
    refine Sx.o (fun _ _ _ k => ex_aload_n dX12_force_17 rfl rfl k) ?_
    refine Sx.o (fun _ _ _ k => op_bipush (-2 : Int32) dX12_force_18 (by decide) k) ?_
    obtain ⟨r21, e_r21, hb22⟩ := ob2 hb8
    refine sx_callV (dc := 0) (as := [.int (-2 : Int32)]) (stq := [.int r21.1]) (by omega) dX12_force_20 MX12_refuses kX12_106 iX12_refuses sX12_refuses rfl rfl (Ref_refuses_o e_r21) rfl rfl (Nat.le_of_ble_eq_true rfl) (Nat.le_of_ble_eq_true rfl) (Ref_refuses_s e_r21) rfl ?_
    obtain rfl := Option.some.inj hb22
    exact Sx.r (fun _ _ _ k => ex_iret rfl dX12_force_23 k)
set_option maxHeartbeats 1000000 in
set_option maxRecDepth 100000 in
theorem Ref_force_q {v0 : Nat} {v1 : Int32} {h : am_H} {r : (Int32 × am_H)} (hb : Ref_force v0 v1 h = some r) : Eqs h r.2 := by
  unfold Ref_force at hb
  have hb := (iz hb).2
  have w0 := Eqs.rf h
  obtain ⟨x1, e_x1, hb2⟩ := ob2 hb
  obtain ⟨x3, e_x3, hb4⟩ := ob2 hb2
  obtain ⟨x5, e_x5, hb6⟩ := ob2 hb4
  by_cases q : x5 = (0 : Int32)
  · have hb8 := ip q hb6
    obtain ⟨r21, e_r21, hb22⟩ := ob2 hb8
    have w23 := w0.tr (Ref_refuses_q e_r21)
    obtain rfl := Option.some.inj hb22
    exact w23
  · have hb7 := iq q hb6
    obtain ⟨x9, e_x9, hb10⟩ := ob2 hb7
    obtain ⟨x11, e_x11, hb12⟩ := ob2 hb10
    obtain ⟨x13, e_x13, hb14⟩ := ob2 hb12
    obtain ⟨h15, e_h15, hb16⟩ := ob2 hb14
    have w17 := w0.tr (sI_q e_h15)
    obtain ⟨r18, e_r18, hb19⟩ := ob2 hb16
    have w20 := w17.tr (Ref_good_q e_r18)
    obtain rfl := Option.some.inj hb19
    exact w20
theorem Ref_force_o {v0 : Nat} {v1 : Int32} {h : am_H} {r : (Int32 × am_H)} (hb : Ref_force v0 v1 h = some r) : isO h 12 v0 = true := by
  unfold Ref_force at hb
  exact (iz hb).1
set_option maxHeartbeats 1000000 in
set_option maxRecDepth 100000 in
noncomputable def Ref_forget (v0 : Nat) (h : am_H) : Option (Int32 × am_H) := if isO h 12 v0 = true then (gR h 12 v0 2).bind fun x1 => (aI h 0 x1 (115 : Int32)).bind fun x3 => (gR h 12 v0 2).bind fun x5 => (sI h x5 (115 : Int32) (0 : Int32)).bind fun h7 => some (x3, h7) else none
set_option maxHeartbeats 1000000 in
set_option maxRecDepth 100000 in
theorem Ref_forget_s {v0 : Nat} {h : am_H} {r : (Int32 × am_H)} (hb : Ref_forget v0 h = some r) : Sx 0 mX12_forget 0 (am_en [.ref v0] 2) [] h (some (.int r.1)) r.2 := by
  unfold Ref_forget at hb
  have hb := (iz hb).2
  show Sx 0 mX12_forget 0 [.ref v0, .retAddr 0] [] h (some (.int r.1)) r.2
  refine Sx.o (fun _ _ _ k => ex_aload_n dX12_forget_0 rfl rfl k) ?_
  obtain ⟨x1, e_x1, hb2⟩ := ob2 hb
  refine Sx.o (fun _ _ _ k => op_getR fX12_24 dX12_forget_1 e_x1 k) ?_
  refine Sx.o (fun _ _ _ k => op_bipush (115 : Int32) dX12_forget_4 (by decide) k) ?_
  obtain ⟨x3, e_x3, hb4⟩ := ob2 hb2
  refine Sx.o (fun _ _ _ k => op_iald dX12_forget_6 e_x3 k) ?_
  refine Sx.o (L' := [.ref v0, .int x3]) (fun _ _ _ k => ex_istore_n dX12_forget_7 (by decide) k) ?_
  refine Sx.o (fun _ _ _ k => ex_aload_n dX12_forget_8 rfl rfl k) ?_
  obtain ⟨x5, e_x5, hb6⟩ := ob2 hb4
  refine Sx.o (fun _ _ _ k => op_getR fX12_24 dX12_forget_9 e_x5 k) ?_
  refine Sx.o (fun _ _ _ k => op_bipush (115 : Int32) dX12_forget_12 (by decide) k) ?_
  refine Sx.o (fun _ _ _ k => op_iconst (0 : Int32) dX12_forget_14 (by decide) k) ?_
  obtain ⟨h7, e_h7, hb8⟩ := ob2 hb6
  refine Sx.p (sI_q e_h7) (fun _ _ _ k => op_iast dX12_forget_15 e_h7 k) ?_
  refine Sx.o (fun _ _ _ k => ex_iload_n dX12_forget_16 rfl k) ?_
  obtain rfl := Option.some.inj hb8
  exact Sx.r (fun _ _ _ k => ex_iret rfl dX12_forget_17 k)
set_option maxHeartbeats 1000000 in
set_option maxRecDepth 100000 in
theorem Ref_forget_q {v0 : Nat} {h : am_H} {r : (Int32 × am_H)} (hb : Ref_forget v0 h = some r) : Eqs h r.2 := by
  unfold Ref_forget at hb
  have hb := (iz hb).2
  have w0 := Eqs.rf h
  obtain ⟨x1, e_x1, hb2⟩ := ob2 hb
  obtain ⟨x3, e_x3, hb4⟩ := ob2 hb2
  obtain ⟨x5, e_x5, hb6⟩ := ob2 hb4
  obtain ⟨h7, e_h7, hb8⟩ := ob2 hb6
  have w9 := w0.tr (sI_q e_h7)
  obtain rfl := Option.some.inj hb8
  exact w9
theorem Ref_forget_o {v0 : Nat} {h : am_H} {r : (Int32 × am_H)} (hb : Ref_forget v0 h = some r) : isO h 12 v0 = true := by
  unfold Ref_forget at hb
  exact (iz hb).1
set_option maxHeartbeats 1000000 in
set_option maxRecDepth 100000 in
noncomputable def Ref_goes (v0 : Nat) (v1 : Int32) (v2 : Int32) (h : am_H) : Option (Int32 × am_H) := if isO h 12 v0 = true then (Ref_isHeap v0 v1 h).bind fun x1 => if x1 = (0 : Int32) then some ((-1 : Int32), h) else (Ref_lies v2 (0 : Int32) (2 : Int32) h).bind fun x5 => if x5 = (0 : Int32) then some ((-1 : Int32), h) else (Ref_takes v0 v1 h).bind fun h9 => (Ref_goesOn v0 h9).bind fun r12 => if v2 = (0 : Int32) then some (r12.1, r12.2) else if v2 = (1 : Int32) then (gI r12.2 12 v0 35).bind fun x21 => some (x21, r12.2) else (gI r12.2 12 v0 36).bind fun x19 => some (x19, r12.2) else none
set_option maxHeartbeats 1000000 in
set_option maxRecDepth 100000 in
theorem Ref_goes_s {v0 : Nat} {v1 : Int32} {v2 : Int32} {h : am_H} {r : (Int32 × am_H)} (hb : Ref_goes v0 v1 v2 h = some r) : Sx 89 mX12_goes 0 (am_en [.ref v0, .int v1, .int v2] 4) [] h (some (.int r.1)) r.2 := by
  unfold Ref_goes at hb
  have hb := (iz hb).2
  show Sx 89 mX12_goes 0 [.ref v0, .int v1, .int v2, .retAddr 0] [] h (some (.int r.1)) r.2
  refine Sx.o (fun _ _ _ k => ex_aload_n dX12_goes_0 rfl rfl k) ?_
  refine Sx.o (fun _ _ _ k => ex_iload_n dX12_goes_1 rfl k) ?_
  obtain ⟨x1, e_x1, hb2⟩ := ob2 hb
  refine sx_callV (dc := 1) (as := [.int v1]) (stq := [.int x1]) (by omega) dX12_goes_2 MX12_isHeap kX12_122 iX12_isHeap sX12_isHeap rfl rfl (Ref_isHeap_o e_x1) rfl rfl (Nat.le_of_ble_eq_true rfl) (Nat.le_of_ble_eq_true rfl) (Ref_isHeap_s e_x1) rfl ?_
  refine Sx.b (fun _ _ _ k1 k2 => ex_if_eq 17 dX12_goes_5 (by decide) k1 k2) (fun q => ?_) (fun q => ?_)
  · have hb3 := ip q hb2
    refine Sx.o (fun _ _ _ k => op_iconst (-1 : Int32) dX12_goes_17 (by decide) k) ?_
    obtain rfl := Option.some.inj hb3
    exact Sx.r (fun _ _ _ k => ex_iret rfl dX12_goes_18 k)
  · have hb4 := iq q hb2
    refine Sx.o (fun _ _ _ k => ex_iload_n dX12_goes_8 rfl k) ?_
    refine Sx.o (fun _ _ _ k => op_iconst (0 : Int32) dX12_goes_9 (by decide) k) ?_
    refine Sx.o (fun _ _ _ k => op_iconst (2 : Int32) dX12_goes_10 (by decide) k) ?_
    obtain ⟨x5, e_x5, hb6⟩ := ob2 hb4
    refine sx_callS (dc := 0) (as := [.int v2, .int (0 : Int32), .int (2 : Int32)]) (stq := [.int x5]) (by omega) dX12_goes_11 MX12_lies kX12_102 tX12_lies rfl rfl (Nat.le_of_ble_eq_true rfl) (Nat.le_of_ble_eq_true rfl) (Ref_lies_s e_x5) rfl ?_
    refine Sx.bn (fun _ _ _ k1 k2 => ex_if_ne 19 dX12_goes_14 (by decide) k1 k2) (fun q => ?_) (fun q => ?_)
    · have hb7 := iq q hb6
      refine Sx.o (fun _ _ _ k => ex_aload_n dX12_goes_19 rfl rfl k) ?_
      refine Sx.o (fun _ _ _ k => ex_iload_n dX12_goes_20 rfl k) ?_
      obtain ⟨h9, e_h9, hb10⟩ := ob2 hb7
      refine sx_callV (dc := 2) (as := [.int v1]) (stq := []) (by omega) dX12_goes_21 MX12_takes kX12_126 iX12_takes sX12_takes rfl rfl (Ref_takes_o e_h9) rfl rfl (Nat.le_of_ble_eq_true rfl) (Nat.le_of_ble_eq_true rfl) (Ref_takes_s e_h9) rfl ?_
      refine Sx.o (fun _ _ _ k => ex_aload_n dX12_goes_24 rfl rfl k) ?_
      obtain ⟨r12, e_r12, hb13⟩ := ob2 hb10
      refine sx_callV (dc := 88) (as := []) (stq := [.int r12.1]) (by omega) dX12_goes_25 MX12_goesOn kX12_346 iX12_goesOn sX12_goesOn rfl rfl (Ref_goesOn_o e_r12) rfl rfl (Nat.le_of_ble_eq_true rfl) (Nat.le_of_ble_eq_true rfl) (Ref_goesOn_s e_r12) rfl ?_
      refine Sx.o (L' := [.ref v0, .int v1, .int v2, .int r12.1]) (fun _ _ _ k => ex_istore_n dX12_goes_28 (by decide) k) ?_
      refine Sx.o (fun _ _ _ k => ex_iload_n dX12_goes_29 rfl k) ?_
      refine Sx.bn (fun _ _ _ k1 k2 => ex_if_ne 37 dX12_goes_30 (by decide) k1 k2) (fun q => ?_) (fun q => ?_)
      · have hb15 := iq q hb13
        refine Sx.o (fun _ _ _ k => ex_iload_n dX12_goes_37 rfl k) ?_
        refine Sx.o (fun _ _ _ k => op_iconst (1 : Int32) dX12_goes_38 (by decide) k) ?_
        refine Sx.bn (fun _ _ _ k1 k2 => ex_icmp_ne 49 dX12_goes_39 (by decide) k1 k2) (fun q => ?_) (fun q => ?_)
        · have hb17 := iq q hb15
          refine Sx.o (fun _ _ _ k => ex_aload_n dX12_goes_49 rfl rfl k) ?_
          obtain ⟨x19, e_x19, hb20⟩ := ob2 hb17
          refine Sx.o (fun _ _ _ k => op_getI fX12_333 dX12_goes_50 e_x19 k) ?_
          obtain rfl := Option.some.inj hb20
          exact Sx.r (fun _ _ _ k => ex_iret rfl dX12_goes_53 k)
        · have hb18 := ip q hb15
          refine Sx.o (fun _ _ _ k => ex_aload_n dX12_goes_42 rfl rfl k) ?_
          obtain ⟨x21, e_x21, hb22⟩ := ob2 hb18
          refine Sx.o (fun _ _ _ k => op_getI fX12_336 dX12_goes_43 e_x21 k) ?_
          refine Sx.o (fun _ _ _ k => ex_goto 53 dX12_goes_46 (by decide) k) ?_
          obtain rfl := Option.some.inj hb22
          exact Sx.r (fun _ _ _ k => ex_iret rfl dX12_goes_53 k)
      · have hb16 := ip q hb13
        refine Sx.o (fun _ _ _ k => ex_iload_n dX12_goes_33 rfl k) ?_
        refine Sx.o (fun _ _ _ k => ex_goto 53 dX12_goes_34 (by decide) k) ?_
        obtain rfl := Option.some.inj hb16
        exact Sx.r (fun _ _ _ k => ex_iret rfl dX12_goes_53 k)
    · have hb8 := ip q hb6
      refine Sx.o (fun _ _ _ k => op_iconst (-1 : Int32) dX12_goes_17 (by decide) k) ?_
      obtain rfl := Option.some.inj hb8
      exact Sx.r (fun _ _ _ k => ex_iret rfl dX12_goes_18 k)
set_option maxHeartbeats 1000000 in
set_option maxRecDepth 100000 in
theorem Ref_goes_q {v0 : Nat} {v1 : Int32} {v2 : Int32} {h : am_H} {r : (Int32 × am_H)} (hb : Ref_goes v0 v1 v2 h = some r) : Eqs h r.2 := by
  unfold Ref_goes at hb
  have hb := (iz hb).2
  have w0 := Eqs.rf h
  obtain ⟨x1, e_x1, hb2⟩ := ob2 hb
  by_cases q : x1 = (0 : Int32)
  · have hb3 := ip q hb2
    obtain rfl := Option.some.inj hb3
    exact w0
  · have hb4 := iq q hb2
    obtain ⟨x5, e_x5, hb6⟩ := ob2 hb4
    by_cases q : x5 = (0 : Int32)
    · have hb8 := ip q hb6
      obtain rfl := Option.some.inj hb8
      exact w0
    · have hb7 := iq q hb6
      obtain ⟨h9, e_h9, hb10⟩ := ob2 hb7
      have w11 := w0.tr (Ref_takes_q e_h9)
      obtain ⟨r12, e_r12, hb13⟩ := ob2 hb10
      have w14 := w11.tr (Ref_goesOn_q e_r12)
      by_cases q : v2 = (0 : Int32)
      · have hb16 := ip q hb13
        obtain rfl := Option.some.inj hb16
        exact w14
      · have hb15 := iq q hb13
        by_cases q : v2 = (1 : Int32)
        · have hb18 := ip q hb15
          obtain ⟨x21, e_x21, hb22⟩ := ob2 hb18
          obtain rfl := Option.some.inj hb22
          exact w14
        · have hb17 := iq q hb15
          obtain ⟨x19, e_x19, hb20⟩ := ob2 hb17
          obtain rfl := Option.some.inj hb20
          exact w14
theorem Ref_goes_o {v0 : Nat} {v1 : Int32} {v2 : Int32} {h : am_H} {r : (Int32 × am_H)} (hb : Ref_goes v0 v1 v2 h = some r) : isO h 12 v0 = true := by
  unfold Ref_goes at hb
  exact (iz hb).1
set_option maxHeartbeats 1000000 in
set_option maxRecDepth 100000 in
noncomputable def Ref_goesAlong_234 (v0 : Nat) (s0 : Int32) (s1 : Nat) (h : am_H) : Option am_H := (nrZ s0).bind fun u1 => (pV h 12 s1 51 (.int s0)).bind fun h3 => (gI h3 12 v0 21).bind fun x6 => (pV h3 12 v0 21 (.int (x6 + (1 : Int32)))).bind fun h8 => some h8
set_option maxHeartbeats 1000000 in
set_option maxRecDepth 100000 in
theorem Ref_goesAlong_234_s {v0 : Nat} {s0 : Int32} {s1 : Nat} {h : am_H} {r : am_H} (hb : Ref_goesAlong_234 v0 s0 s1 h = some r) : Sx 85 mX12_goesAlong 234 [.ref v0, .retAddr 0, .retAddr 0, .retAddr 0, .retAddr 0] [.int s0, .ref s1] h none r := by
  unfold Ref_goesAlong_234 at hb
  obtain ⟨u1, e_u1, hb2⟩ := ob2 hb
  obtain ⟨h3, e_h3, hb4⟩ := ob2 hb2
  refine Sx.p (pV_q e_h3) (fun _ _ _ k => op_put pX12_446 dX12_goesAlong_234 e_h3 (fun _ => nrZ_n e_u1) (fun _ => nrZ_f e_u1) k) ?_
  refine Sx.o (fun _ _ _ k => ex_aload_n dX12_goesAlong_237 rfl rfl k) ?_
  refine Sx.o (fun _ _ _ k => ex_dup dX12_goesAlong_238 rfl k) ?_
  obtain ⟨x6, e_x6, hb7⟩ := ob2 hb4
  refine Sx.o (fun _ _ _ k => op_getI fX12_256 dX12_goesAlong_239 e_x6 k) ?_
  refine Sx.o (fun _ _ _ k => op_iconst (1 : Int32) dX12_goesAlong_242 (by decide) k) ?_
  refine Sx.o (fun _ _ _ k => ex_iadd dX12_goesAlong_243 k) ?_
  obtain ⟨h8, e_h8, hb9⟩ := ob2 hb7
  refine Sx.p (pV_q e_h8) (fun _ _ _ k => op_put pX12_256 dX12_goesAlong_244 e_h8 (fun _ => rfl) (fun _ => rfl) k) ?_
  obtain rfl := Option.some.inj hb9
  exact Sx.r (fun _ _ _ k => ex_vret rfl dX12_goesAlong_247 k)
set_option maxHeartbeats 1000000 in
set_option maxRecDepth 100000 in
theorem Ref_goesAlong_234_q {v0 : Nat} {s0 : Int32} {s1 : Nat} {h : am_H} {r : am_H} (hb : Ref_goesAlong_234 v0 s0 s1 h = some r) : Eqs h r := by
  unfold Ref_goesAlong_234 at hb
  have w0 := Eqs.rf h
  obtain ⟨u1, e_u1, hb2⟩ := ob2 hb
  obtain ⟨h3, e_h3, hb4⟩ := ob2 hb2
  have w5 := w0.tr (pV_q e_h3)
  obtain ⟨x6, e_x6, hb7⟩ := ob2 hb4
  obtain ⟨h8, e_h8, hb9⟩ := ob2 hb7
  have w10 := w5.tr (pV_q e_h8)
  obtain rfl := Option.some.inj hb9
  exact w10
set_option maxHeartbeats 1000000 in
set_option maxRecDepth 100000 in
noncomputable def Ref_goesAlong_233 (v0 : Nat) (s0 : Nat) (h : am_H) : Option am_H := Ref_goesAlong_234 v0 (0 : Int32) s0 h
set_option maxHeartbeats 1000000 in
set_option maxRecDepth 100000 in
theorem Ref_goesAlong_233_s {v0 : Nat} {s0 : Nat} {h : am_H} {r : am_H} (hb : Ref_goesAlong_233 v0 s0 h = some r) : Sx 85 mX12_goesAlong 233 [.ref v0, .retAddr 0, .retAddr 0, .retAddr 0, .retAddr 0] [.ref s0] h none r := by
  unfold Ref_goesAlong_233 at hb
  refine Sx.o (fun _ _ _ k => op_iconst (0 : Int32) dX12_goesAlong_233 (by decide) k) ?_
  exact Ref_goesAlong_234_s hb
set_option maxHeartbeats 1000000 in
set_option maxRecDepth 100000 in
theorem Ref_goesAlong_233_q {v0 : Nat} {s0 : Nat} {h : am_H} {r : am_H} (hb : Ref_goesAlong_233 v0 s0 h = some r) : Eqs h r := by
  unfold Ref_goesAlong_233 at hb
  have w0 := Eqs.rf h
  exact w0.tr (Ref_goesAlong_234_q hb)
set_option maxHeartbeats 1000000 in
set_option maxRecDepth 100000 in
noncomputable def Ref_goesAlong_211 (v0 : Nat) (s0 : Int32) (s1 : Nat) (h : am_H) : Option am_H := (nrZ s0).bind fun u11 => (pV h 12 s1 51 (.int s0)).bind fun h13 => (gI h13 12 v0 51).bind fun x16 => if x16 = (0 : Int32) then Ref_goesAlong_233 v0 v0 h13 else (gI h13 12 v0 23).bind fun x20 => if x20 = (0 : Int32) then Ref_goesAlong_234 v0 (1 : Int32) v0 h13 else Ref_goesAlong_233 v0 v0 h13
set_option maxHeartbeats 1000000 in
set_option maxRecDepth 100000 in
theorem Ref_goesAlong_211_s {v0 : Nat} {s0 : Int32} {s1 : Nat} {h : am_H} {r : am_H} (hb : Ref_goesAlong_211 v0 s0 s1 h = some r) : Sx 85 mX12_goesAlong 211 [.ref v0, .retAddr 0, .retAddr 0, .retAddr 0, .retAddr 0] [.int s0, .ref s1] h none r := by
  unfold Ref_goesAlong_211 at hb
  obtain ⟨u11, e_u11, hb12⟩ := ob2 hb
  obtain ⟨h13, e_h13, hb14⟩ := ob2 hb12
  refine Sx.p (pV_q e_h13) (fun _ _ _ k => op_put pX12_446 dX12_goesAlong_211 e_h13 (fun _ => nrZ_n e_u11) (fun _ => nrZ_f e_u11) k) ?_
  refine Sx.o (fun _ _ _ k => ex_aload_n dX12_goesAlong_214 rfl rfl k) ?_
  refine Sx.o (fun _ _ _ k => ex_aload_n dX12_goesAlong_215 rfl rfl k) ?_
  obtain ⟨x16, e_x16, hb17⟩ := ob2 hb14
  refine Sx.o (fun _ _ _ k => op_getI fX12_446 dX12_goesAlong_216 e_x16 k) ?_
  refine Sx.b (fun _ _ _ k1 k2 => ex_if_eq 233 dX12_goesAlong_219 (by decide) k1 k2) (fun q => ?_) (fun q => ?_)
  · have hb18 := ip q hb17
    exact Ref_goesAlong_233_s hb18
  · have hb19 := iq q hb17
    refine Sx.o (fun _ _ _ k => ex_aload_n dX12_goesAlong_222 rfl rfl k) ?_
    obtain ⟨x20, e_x20, hb21⟩ := ob2 hb19
    refine Sx.o (fun _ _ _ k => op_getI fX12_266 dX12_goesAlong_223 e_x20 k) ?_
    refine Sx.bn (fun _ _ _ k1 k2 => ex_if_ne 233 dX12_goesAlong_226 (by decide) k1 k2) (fun q => ?_) (fun q => ?_)
    · have hb22 := iq q hb21
      exact Ref_goesAlong_233_s hb22
    · have hb23 := ip q hb21
      refine Sx.o (fun _ _ _ k => op_iconst (1 : Int32) dX12_goesAlong_229 (by decide) k) ?_
      refine Sx.o (fun _ _ _ k => ex_goto 234 dX12_goesAlong_230 (by decide) k) ?_
      exact Ref_goesAlong_234_s hb23
set_option maxHeartbeats 1000000 in
set_option maxRecDepth 100000 in
theorem Ref_goesAlong_211_q {v0 : Nat} {s0 : Int32} {s1 : Nat} {h : am_H} {r : am_H} (hb : Ref_goesAlong_211 v0 s0 s1 h = some r) : Eqs h r := by
  unfold Ref_goesAlong_211 at hb
  have w0 := Eqs.rf h
  obtain ⟨u11, e_u11, hb12⟩ := ob2 hb
  obtain ⟨h13, e_h13, hb14⟩ := ob2 hb12
  have w15 := w0.tr (pV_q e_h13)
  obtain ⟨x16, e_x16, hb17⟩ := ob2 hb14
  by_cases q : x16 = (0 : Int32)
  · have hb18 := ip q hb17
    exact w15.tr (Ref_goesAlong_233_q hb18)
  · have hb19 := iq q hb17
    obtain ⟨x20, e_x20, hb21⟩ := ob2 hb19
    by_cases q : x20 = (0 : Int32)
    · have hb23 := ip q hb21
      exact w15.tr (Ref_goesAlong_234_q hb23)
    · have hb22 := iq q hb21
      exact w15.tr (Ref_goesAlong_233_q hb22)
set_option maxHeartbeats 1000000 in
set_option maxRecDepth 100000 in
noncomputable def Ref_goesAlong_206 (v0 : Nat) (s0 : Nat) (h : am_H) : Option am_H := Ref_goesAlong_211 v0 (1 : Int32) s0 h
set_option maxHeartbeats 1000000 in
set_option maxRecDepth 100000 in
theorem Ref_goesAlong_206_s {v0 : Nat} {s0 : Nat} {h : am_H} {r : am_H} (hb : Ref_goesAlong_206 v0 s0 h = some r) : Sx 85 mX12_goesAlong 206 [.ref v0, .retAddr 0, .retAddr 0, .retAddr 0, .retAddr 0] [.ref s0] h none r := by
  unfold Ref_goesAlong_206 at hb
  refine Sx.o (fun _ _ _ k => op_iconst (1 : Int32) dX12_goesAlong_206 (by decide) k) ?_
  refine Sx.o (fun _ _ _ k => ex_goto 211 dX12_goesAlong_207 (by decide) k) ?_
  exact Ref_goesAlong_211_s hb
set_option maxHeartbeats 1000000 in
set_option maxRecDepth 100000 in
theorem Ref_goesAlong_206_q {v0 : Nat} {s0 : Nat} {h : am_H} {r : am_H} (hb : Ref_goesAlong_206 v0 s0 h = some r) : Eqs h r := by
  unfold Ref_goesAlong_206 at hb
  have w0 := Eqs.rf h
  exact w0.tr (Ref_goesAlong_211_q hb)
set_option maxHeartbeats 1000000 in
set_option maxRecDepth 100000 in
noncomputable def Ref_goesAlong_184 (v0 : Nat) (v2 : Int32) (h : am_H) : Option am_H := (pV h 12 v0 23 (.int (0 : Int32))).bind fun h24 => (Ref_passes0 v0 (4 : Int32) h24).bind fun r27 => if r27.1 = (0 : Int32) then Ref_goesAlong_206 v0 v0 r27.2 else (Ref_testOf 40 v0 v2 r27.2).bind fun r32 => if r32.1 = (0 : Int32) then Ref_goesAlong_211 v0 (0 : Int32) v0 r32.2 else Ref_goesAlong_206 v0 v0 r32.2
set_option maxHeartbeats 1000000 in
set_option maxRecDepth 100000 in
theorem Ref_goesAlong_184_s {v0 : Nat} {v2 : Int32} {h : am_H} {r : am_H} (hb : Ref_goesAlong_184 v0 v2 h = some r) : Sx 85 mX12_goesAlong 184 [.ref v0, .retAddr 0, .int v2, .retAddr 0, .retAddr 0] [] h none r := by
  unfold Ref_goesAlong_184 at hb
  refine Sx.o (fun _ _ _ k => ex_aload_n dX12_goesAlong_184 rfl rfl k) ?_
  refine Sx.o (fun _ _ _ k => op_iconst (0 : Int32) dX12_goesAlong_185 (by decide) k) ?_
  obtain ⟨h24, e_h24, hb25⟩ := ob2 hb
  refine Sx.p (pV_q e_h24) (fun _ _ _ k => op_put pX12_266 dX12_goesAlong_186 e_h24 (fun _ => rfl) (fun _ => rfl) k) ?_
  refine Sx.o (fun _ _ _ k => ex_aload_n dX12_goesAlong_189 rfl rfl k) ?_
  refine Sx.o (fun _ _ _ k => ex_aload_n dX12_goesAlong_190 rfl rfl k) ?_
  refine Sx.o (fun _ _ _ k => op_iconst (4 : Int32) dX12_goesAlong_191 (by decide) k) ?_
  obtain ⟨r27, e_r27, hb28⟩ := ob2 hb25
  refine sx_callV (dc := 1) (as := [.int (4 : Int32)]) (stq := [.int r27.1, .ref v0]) (by omega) dX12_goesAlong_192 MX12_passes0 kX12_283 iX12_passes0 sX12_passes0 rfl rfl (Ref_passes0_o e_r27) rfl rfl (Nat.le_of_ble_eq_true rfl) (Nat.le_of_ble_eq_true rfl) (Ref_passes0_s e_r27) rfl ?_
  refine Sx.b (fun _ _ _ k1 k2 => ex_if_eq 206 dX12_goesAlong_195 (by decide) k1 k2) (fun q => ?_) (fun q => ?_)
  · have hb30 := ip q hb28
    refine Sx.fg [true, true, false, true, true] ?_
    exact Ref_goesAlong_206_s hb30
  · have hb31 := iq q hb28
    refine Sx.o (fun _ _ _ k => ex_aload_n dX12_goesAlong_198 rfl rfl k) ?_
    refine Sx.o (fun _ _ _ k => ex_iload_n dX12_goesAlong_199 rfl k) ?_
    obtain ⟨r32, e_r32, hb33⟩ := ob2 hb31
    refine sx_callV (dc := (44 + 40)) (as := [.int v2]) (stq := [.int r32.1, .ref v0]) (by omega) dX12_goesAlong_200 MX12_testOf kX12_304 iX12_testOf sX12_testOf rfl rfl (Ref_testOf_o e_r32) rfl rfl (Nat.le_of_ble_eq_true rfl) (Nat.le_of_ble_eq_true rfl) (Ref_testOf_s e_r32) rfl ?_
    refine Sx.b (fun _ _ _ k1 k2 => ex_if_eq 210 dX12_goesAlong_203 (by decide) k1 k2) (fun q => ?_) (fun q => ?_)
    · have hb35 := ip q hb33
      refine Sx.o (fun _ _ _ k => op_iconst (0 : Int32) dX12_goesAlong_210 (by decide) k) ?_
      refine Sx.fg [true, true, false, true, true] ?_
      exact Ref_goesAlong_211_s hb35
    · have hb36 := iq q hb33
      refine Sx.fg [true, true, false, true, true] ?_
      exact Ref_goesAlong_206_s hb36
set_option maxHeartbeats 1000000 in
set_option maxRecDepth 100000 in
theorem Ref_goesAlong_184_q {v0 : Nat} {v2 : Int32} {h : am_H} {r : am_H} (hb : Ref_goesAlong_184 v0 v2 h = some r) : Eqs h r := by
  unfold Ref_goesAlong_184 at hb
  have w0 := Eqs.rf h
  obtain ⟨h24, e_h24, hb25⟩ := ob2 hb
  have w26 := w0.tr (pV_q e_h24)
  obtain ⟨r27, e_r27, hb28⟩ := ob2 hb25
  have w29 := w26.tr (Ref_passes0_q e_r27)
  by_cases q : r27.1 = (0 : Int32)
  · have hb30 := ip q hb28
    exact w29.tr (Ref_goesAlong_206_q hb30)
  · have hb31 := iq q hb28
    obtain ⟨r32, e_r32, hb33⟩ := ob2 hb31
    have w34 := w29.tr (Ref_testOf_q e_r32)
    by_cases q : r32.1 = (0 : Int32)
    · have hb35 := ip q hb33
      exact w34.tr (Ref_goesAlong_211_q hb35)
    · have hb36 := iq q hb33
      exact w34.tr (Ref_goesAlong_206_q hb36)
set_option maxHeartbeats 1000000 in
set_option maxRecDepth 100000 in
noncomputable def Ref_goesAlong_76_b (g : (Nat × Int32 × Int32 × Int32 × Int32 × Nat × Nat × am_H) → Option am_H) (v0 : Nat) (v2 : Int32) (v3 : Int32) (v4 : Int32) (h : am_H) : Option am_H := if v3 ≤ v4 then (pV h 12 v0 48 (.int (1 : Int32))).bind fun h39 => (Ref_passes0 v0 (25 : Int32) h39).bind fun r42 => if r42.1 = (0 : Int32) then Ref_goesAlong_184 v0 v2 r42.2 else (gR r42.2 12 v0 2).bind fun x47 => (gI r42.2 12 v0 21).bind fun x49 => (aI r42.2 0 x47 ((2925 : Int32) + x49)).bind fun x51 => (pV r42.2 12 v0 48 (.int x51)).bind fun h53 => (gI h53 12 v0 21).bind fun x56 => (pV h53 12 v0 21 (.int (x56 + (1 : Int32)))).bind fun h58 => Ref_goesAlong_184 v0 v2 h58 else if v4 ≤ (0 : Int32) then g (97, v2, v3, v4, 0, v0, 0, h) else (gI h 12 v0 21).bind fun x63 => (pV h 12 v0 21 (.int (x63 + (1 : Int32)))).bind fun h65 => g (97, v2, v3, v4, 0, v0, 0, h65)
set_option maxHeartbeats 1000000 in
set_option maxRecDepth 100000 in
theorem Ref_goesAlong_76_m {g g2 : (Nat × Int32 × Int32 × Int32 × Int32 × Nat × Nat × am_H) → Option am_H} (hg : ∀ s, Le (g s) (g2 s)) (v0 : Nat) (v2 : Int32) (v3 : Int32) (v4 : Int32) (h : am_H) : Le (Ref_goesAlong_76_b g v0 v2 v3 v4 h) (Ref_goesAlong_76_b g2 v0 v2 v3 v4 h) := by unfold Ref_goesAlong_76_b; exact le_i (le_r _) (le_i (hg _) (le_b (le_r _) fun x63 => le_b (le_r _) fun h65 => hg _))
set_option maxHeartbeats 1000000 in
set_option maxRecDepth 100000 in
noncomputable def Ref_goesAlong_97_b (g : (Nat × Int32 × Int32 × Int32 × Int32 × Nat × Nat × am_H) → Option am_H) (v0 : Nat) (v2 : Int32) (v3 : Int32) (v4 : Int32) (h : am_H) : Option am_H := (pV h 12 v0 23 (.int (0 : Int32))).bind fun h68 => (gR h68 12 v0 52).bind fun x71 => (Ref_sumOf 40 v0 v2 h68).bind fun r73 => (sJ r73.2 x71 v4 r73.1).bind fun h76 => (gI h76 12 v0 50).bind fun x79 => if x79 = (0 : Int32) then g (133, v2, v3, v4, 0, v0, v0, h76) else (gI h76 12 v0 23).bind fun x83 => if x83 = (0 : Int32) then g (134, v2, v3, v4, (1 : Int32), v0, v0, h76) else g (133, v2, v3, v4, 0, v0, v0, h76)
set_option maxHeartbeats 1000000 in
set_option maxRecDepth 100000 in
theorem Ref_goesAlong_97_m {g g2 : (Nat × Int32 × Int32 × Int32 × Int32 × Nat × Nat × am_H) → Option am_H} (hg : ∀ s, Le (g s) (g2 s)) (v0 : Nat) (v2 : Int32) (v3 : Int32) (v4 : Int32) (h : am_H) : Le (Ref_goesAlong_97_b g v0 v2 v3 v4 h) (Ref_goesAlong_97_b g2 v0 v2 v3 v4 h) := by unfold Ref_goesAlong_97_b; exact le_b (le_r _) fun h68 => le_b (le_r _) fun x71 => le_b (le_r _) fun r73 => le_b (le_r _) fun h76 => le_b (le_r _) fun x79 => le_i (hg _) (le_b (le_r _) fun x83 => le_i (hg _) (hg _))
set_option maxHeartbeats 1000000 in
set_option maxRecDepth 100000 in
noncomputable def Ref_goesAlong_133_b (g : (Nat × Int32 × Int32 × Int32 × Int32 × Nat × Nat × am_H) → Option am_H) (v0 : Nat) (v2 : Int32) (v3 : Int32) (v4 : Int32) (s0 : Nat) (h : am_H) : Option am_H := g (134, v2, v3, v4, (0 : Int32), v0, s0, h)
set_option maxHeartbeats 1000000 in
set_option maxRecDepth 100000 in
theorem Ref_goesAlong_133_m {g g2 : (Nat × Int32 × Int32 × Int32 × Int32 × Nat × Nat × am_H) → Option am_H} (hg : ∀ s, Le (g s) (g2 s)) (v0 : Nat) (v2 : Int32) (v3 : Int32) (v4 : Int32) (s0 : Nat) (h : am_H) : Le (Ref_goesAlong_133_b g v0 v2 v3 v4 s0 h) (Ref_goesAlong_133_b g2 v0 v2 v3 v4 s0 h) := by unfold Ref_goesAlong_133_b; exact hg _
set_option maxHeartbeats 1000000 in
set_option maxRecDepth 100000 in
noncomputable def Ref_goesAlong_134_b (g : (Nat × Int32 × Int32 × Int32 × Int32 × Nat × Nat × am_H) → Option am_H) (v0 : Nat) (v2 : Int32) (v3 : Int32) (v4 : Int32) (s0 : Int32) (s1 : Nat) (h : am_H) : Option am_H := (nrZ s0).bind fun u87 => (pV h 12 s1 50 (.int s0)).bind fun h89 => g (76, v2, v3, (v4 + (1 : Int32)), 0, v0, 0, h89)
set_option maxHeartbeats 1000000 in
set_option maxRecDepth 100000 in
theorem Ref_goesAlong_134_m {g g2 : (Nat × Int32 × Int32 × Int32 × Int32 × Nat × Nat × am_H) → Option am_H} (hg : ∀ s, Le (g s) (g2 s)) (v0 : Nat) (v2 : Int32) (v3 : Int32) (v4 : Int32) (s0 : Int32) (s1 : Nat) (h : am_H) : Le (Ref_goesAlong_134_b g v0 v2 v3 v4 s0 s1 h) (Ref_goesAlong_134_b g2 v0 v2 v3 v4 s0 s1 h) := by unfold Ref_goesAlong_134_b; exact le_b (le_r _) fun u87 => le_b (le_r _) fun h89 => hg _
noncomputable def Ref_goesAlong_76_F (g : (Nat × Int32 × Int32 × Int32 × Int32 × Nat × Nat × am_H) → Option am_H) (s : (Nat × Int32 × Int32 × Int32 × Int32 × Nat × Nat × am_H)) : Option am_H := if s.1 = 76 then Ref_goesAlong_76_b g s.2.2.2.2.2.1 s.2.1 s.2.2.1 s.2.2.2.1 s.2.2.2.2.2.2.2 else if s.1 = 97 then Ref_goesAlong_97_b g s.2.2.2.2.2.1 s.2.1 s.2.2.1 s.2.2.2.1 s.2.2.2.2.2.2.2 else if s.1 = 133 then Ref_goesAlong_133_b g s.2.2.2.2.2.1 s.2.1 s.2.2.1 s.2.2.2.1 s.2.2.2.2.2.2.1 s.2.2.2.2.2.2.2 else if s.1 = 134 then Ref_goesAlong_134_b g s.2.2.2.2.2.1 s.2.1 s.2.2.1 s.2.2.2.1 s.2.2.2.2.1 s.2.2.2.2.2.2.1 s.2.2.2.2.2.2.2 else none
theorem Ref_goesAlong_76_M : Mn Ref_goesAlong_76_F := fun g g2 hg s => by unfold Ref_goesAlong_76_F; exact le_i (Ref_goesAlong_76_m hg s.2.2.2.2.2.1 s.2.1 s.2.2.1 s.2.2.2.1 s.2.2.2.2.2.2.2) (le_i (Ref_goesAlong_97_m hg s.2.2.2.2.2.1 s.2.1 s.2.2.1 s.2.2.2.1 s.2.2.2.2.2.2.2) (le_i (Ref_goesAlong_133_m hg s.2.2.2.2.2.1 s.2.1 s.2.2.1 s.2.2.2.1 s.2.2.2.2.2.2.1 s.2.2.2.2.2.2.2) (le_i (Ref_goesAlong_134_m hg s.2.2.2.2.2.1 s.2.1 s.2.2.1 s.2.2.2.1 s.2.2.2.2.1 s.2.2.2.2.2.2.1 s.2.2.2.2.2.2.2) (le_r _))))
def Ref_goesAlong_76_P (s : (Nat × Int32 × Int32 × Int32 × Int32 × Nat × Nat × am_H)) (r : am_H) : Prop := (s.1 = 76 → Sx 85 mX12_goesAlong 76 [.ref s.2.2.2.2.2.1, .retAddr 0, .int s.2.1, .int s.2.2.1, .int s.2.2.2.1] [] s.2.2.2.2.2.2.2 none r) ∧ (s.1 = 97 → Sx 85 mX12_goesAlong 97 [.ref s.2.2.2.2.2.1, .retAddr 0, .int s.2.1, .int s.2.2.1, .int s.2.2.2.1] [] s.2.2.2.2.2.2.2 none r) ∧ (s.1 = 133 → Sx 85 mX12_goesAlong 133 [.ref s.2.2.2.2.2.1, .retAddr 0, .int s.2.1, .int s.2.2.1, .int s.2.2.2.1] [.ref s.2.2.2.2.2.2.1] s.2.2.2.2.2.2.2 none r) ∧ (s.1 = 134 → Sx 85 mX12_goesAlong 134 [.ref s.2.2.2.2.2.1, .retAddr 0, .int s.2.1, .int s.2.2.1, .int s.2.2.2.1] [.int s.2.2.2.2.1, .ref s.2.2.2.2.2.2.1] s.2.2.2.2.2.2.2 none r) ∧ True
set_option maxHeartbeats 1000000 in
set_option maxRecDepth 100000 in
theorem Ref_goesAlong_76_t {g : (Nat × Int32 × Int32 × Int32 × Int32 × Nat × Nat × am_H) → Option am_H} (hg : ∀ s r, g s = some r → Ref_goesAlong_76_P s r) {v0 : Nat} {v2 : Int32} {v3 : Int32} {v4 : Int32} {h : am_H} {r : am_H} (hb : Ref_goesAlong_76_b g v0 v2 v3 v4 h = some r) : Sx 85 mX12_goesAlong 76 [.ref v0, .retAddr 0, .int v2, .int v3, .int v4] [] h none r := by
  unfold Ref_goesAlong_76_b at hb
  refine Sx.o (fun _ _ _ k => ex_iload dX12_goesAlong_76 rfl k) ?_
  refine Sx.o (fun _ _ _ k => ex_iload_n dX12_goesAlong_78 rfl k) ?_
  refine Sx.b (fun _ _ _ k1 k2 => ex_icmp_ge 143 dX12_goesAlong_79 (by decide) k1 k2) (fun q => ?_) (fun q => ?_)
  · have hb37 := ip q hb
    refine Sx.o (fun _ _ _ k => ex_aload_n dX12_goesAlong_143 rfl rfl k) ?_
    refine Sx.o (fun _ _ _ k => op_iconst (1 : Int32) dX12_goesAlong_144 (by decide) k) ?_
    obtain ⟨h39, e_h39, hb40⟩ := ob2 hb37
    refine Sx.p (pV_q e_h39) (fun _ _ _ k => op_put pX12_443 dX12_goesAlong_145 e_h39 (fun _ => rfl) (fun _ => rfl) k) ?_
    refine Sx.o (fun _ _ _ k => ex_aload_n dX12_goesAlong_148 rfl rfl k) ?_
    refine Sx.o (fun _ _ _ k => op_bipush (25 : Int32) dX12_goesAlong_149 (by decide) k) ?_
    obtain ⟨r42, e_r42, hb43⟩ := ob2 hb40
    refine sx_callV (dc := 1) (as := [.int (25 : Int32)]) (stq := [.int r42.1]) (by omega) dX12_goesAlong_151 MX12_passes0 kX12_283 iX12_passes0 sX12_passes0 rfl rfl (Ref_passes0_o e_r42) rfl rfl (Nat.le_of_ble_eq_true rfl) (Nat.le_of_ble_eq_true rfl) (Ref_passes0_s e_r42) rfl ?_
    refine Sx.b (fun _ _ _ k1 k2 => ex_if_eq 184 dX12_goesAlong_154 (by decide) k1 k2) (fun q => ?_) (fun q => ?_)
    · have hb45 := ip q hb43
      refine Sx.fg [true, true, true, false, false] ?_
      exact Ref_goesAlong_184_s hb45
    · have hb46 := iq q hb43
      refine Sx.o (fun _ _ _ k => ex_aload_n dX12_goesAlong_157 rfl rfl k) ?_
      refine Sx.o (fun _ _ _ k => ex_aload_n dX12_goesAlong_158 rfl rfl k) ?_
      obtain ⟨x47, e_x47, hb48⟩ := ob2 hb46
      refine Sx.o (fun _ _ _ k => op_getR fX12_24 dX12_goesAlong_159 e_x47 k) ?_
      refine Sx.o (fun _ _ _ k => op_sipush (2925 : Int32) dX12_goesAlong_162 (by decide) k) ?_
      refine Sx.o (fun _ _ _ k => ex_aload_n dX12_goesAlong_165 rfl rfl k) ?_
      obtain ⟨x49, e_x49, hb50⟩ := ob2 hb48
      refine Sx.o (fun _ _ _ k => op_getI fX12_256 dX12_goesAlong_166 e_x49 k) ?_
      refine Sx.o (fun _ _ _ k => ex_iadd dX12_goesAlong_169 k) ?_
      obtain ⟨x51, e_x51, hb52⟩ := ob2 hb50
      refine Sx.o (fun _ _ _ k => op_iald dX12_goesAlong_170 e_x51 k) ?_
      obtain ⟨h53, e_h53, hb54⟩ := ob2 hb52
      refine Sx.p (pV_q e_h53) (fun _ _ _ k => op_put pX12_443 dX12_goesAlong_171 e_h53 (fun _ => rfl) (fun _ => rfl) k) ?_
      refine Sx.o (fun _ _ _ k => ex_aload_n dX12_goesAlong_174 rfl rfl k) ?_
      refine Sx.o (fun _ _ _ k => ex_dup dX12_goesAlong_175 rfl k) ?_
      obtain ⟨x56, e_x56, hb57⟩ := ob2 hb54
      refine Sx.o (fun _ _ _ k => op_getI fX12_256 dX12_goesAlong_176 e_x56 k) ?_
      refine Sx.o (fun _ _ _ k => op_iconst (1 : Int32) dX12_goesAlong_179 (by decide) k) ?_
      refine Sx.o (fun _ _ _ k => ex_iadd dX12_goesAlong_180 k) ?_
      obtain ⟨h58, e_h58, hb59⟩ := ob2 hb57
      refine Sx.p (pV_q e_h58) (fun _ _ _ k => op_put pX12_256 dX12_goesAlong_181 e_h58 (fun _ => rfl) (fun _ => rfl) k) ?_
      refine Sx.fg [true, true, true, false, false] ?_
      exact Ref_goesAlong_184_s hb59
  · have hb38 := iq q hb
    refine Sx.o (fun _ _ _ k => ex_iload dX12_goesAlong_82 rfl k) ?_
    refine Sx.b (fun _ _ _ k1 k2 => ex_if_le 97 dX12_goesAlong_84 (by decide) k1 k2) (fun q => ?_) (fun q => ?_)
    · have hb61 := ip q hb38
      exact (hg _ _ hb61).2.1 rfl
    · have hb62 := iq q hb38
      refine Sx.o (fun _ _ _ k => ex_aload_n dX12_goesAlong_87 rfl rfl k) ?_
      refine Sx.o (fun _ _ _ k => ex_dup dX12_goesAlong_88 rfl k) ?_
      obtain ⟨x63, e_x63, hb64⟩ := ob2 hb62
      refine Sx.o (fun _ _ _ k => op_getI fX12_256 dX12_goesAlong_89 e_x63 k) ?_
      refine Sx.o (fun _ _ _ k => op_iconst (1 : Int32) dX12_goesAlong_92 (by decide) k) ?_
      refine Sx.o (fun _ _ _ k => ex_iadd dX12_goesAlong_93 k) ?_
      obtain ⟨h65, e_h65, hb66⟩ := ob2 hb64
      refine Sx.p (pV_q e_h65) (fun _ _ _ k => op_put pX12_256 dX12_goesAlong_94 e_h65 (fun _ => rfl) (fun _ => rfl) k) ?_
      exact (hg _ _ hb66).2.1 rfl
set_option maxHeartbeats 1000000 in
set_option maxRecDepth 100000 in
theorem Ref_goesAlong_97_t {g : (Nat × Int32 × Int32 × Int32 × Int32 × Nat × Nat × am_H) → Option am_H} (hg : ∀ s r, g s = some r → Ref_goesAlong_76_P s r) {v0 : Nat} {v2 : Int32} {v3 : Int32} {v4 : Int32} {h : am_H} {r : am_H} (hb : Ref_goesAlong_97_b g v0 v2 v3 v4 h = some r) : Sx 85 mX12_goesAlong 97 [.ref v0, .retAddr 0, .int v2, .int v3, .int v4] [] h none r := by
  unfold Ref_goesAlong_97_b at hb
  refine Sx.o (fun _ _ _ k => ex_aload_n dX12_goesAlong_97 rfl rfl k) ?_
  refine Sx.o (fun _ _ _ k => op_iconst (0 : Int32) dX12_goesAlong_98 (by decide) k) ?_
  obtain ⟨h68, e_h68, hb69⟩ := ob2 hb
  refine Sx.p (pV_q e_h68) (fun _ _ _ k => op_put pX12_266 dX12_goesAlong_99 e_h68 (fun _ => rfl) (fun _ => rfl) k) ?_
  refine Sx.o (fun _ _ _ k => ex_aload_n dX12_goesAlong_102 rfl rfl k) ?_
  obtain ⟨x71, e_x71, hb72⟩ := ob2 hb69
  refine Sx.o (fun _ _ _ k => op_getR fX12_92 dX12_goesAlong_103 e_x71 k) ?_
  refine Sx.o (fun _ _ _ k => ex_iload dX12_goesAlong_106 rfl k) ?_
  refine Sx.o (fun _ _ _ k => ex_aload_n dX12_goesAlong_108 rfl rfl k) ?_
  refine Sx.o (fun _ _ _ k => ex_iload_n dX12_goesAlong_109 rfl k) ?_
  obtain ⟨r73, e_r73, hb74⟩ := ob2 hb72
  refine sx_callV (dc := (3 + 40)) (as := [.int v2]) (stq := [.long r73.1, .int v4, .ref x71]) (by omega) dX12_goesAlong_110 MX12_sumOf kX12_286 iX12_sumOf sX12_sumOf rfl rfl (Ref_sumOf_o e_r73) rfl rfl (Nat.le_of_ble_eq_true rfl) (Nat.le_of_ble_eq_true rfl) (Ref_sumOf_s e_r73) rfl ?_
  obtain ⟨h76, e_h76, hb77⟩ := ob2 hb74
  refine Sx.p (sJ_q e_h76) (fun _ _ _ k => op_last dX12_goesAlong_113 e_h76 k) ?_
  refine Sx.o (fun _ _ _ k => ex_aload_n dX12_goesAlong_114 rfl rfl k) ?_
  refine Sx.o (fun _ _ _ k => ex_aload_n dX12_goesAlong_115 rfl rfl k) ?_
  obtain ⟨x79, e_x79, hb80⟩ := ob2 hb77
  refine Sx.o (fun _ _ _ k => op_getI fX12_440 dX12_goesAlong_116 e_x79 k) ?_
  refine Sx.b (fun _ _ _ k1 k2 => ex_if_eq 133 dX12_goesAlong_119 (by decide) k1 k2) (fun q => ?_) (fun q => ?_)
  · have hb81 := ip q hb80
    exact (hg _ _ hb81).2.2.1 rfl
  · have hb82 := iq q hb80
    refine Sx.o (fun _ _ _ k => ex_aload_n dX12_goesAlong_122 rfl rfl k) ?_
    obtain ⟨x83, e_x83, hb84⟩ := ob2 hb82
    refine Sx.o (fun _ _ _ k => op_getI fX12_266 dX12_goesAlong_123 e_x83 k) ?_
    refine Sx.bn (fun _ _ _ k1 k2 => ex_if_ne 133 dX12_goesAlong_126 (by decide) k1 k2) (fun q => ?_) (fun q => ?_)
    · have hb85 := iq q hb84
      exact (hg _ _ hb85).2.2.1 rfl
    · have hb86 := ip q hb84
      refine Sx.o (fun _ _ _ k => op_iconst (1 : Int32) dX12_goesAlong_129 (by decide) k) ?_
      refine Sx.o (fun _ _ _ k => ex_goto 134 dX12_goesAlong_130 (by decide) k) ?_
      exact (hg _ _ hb86).2.2.2.1 rfl
set_option maxHeartbeats 1000000 in
set_option maxRecDepth 100000 in
theorem Ref_goesAlong_133_t {g : (Nat × Int32 × Int32 × Int32 × Int32 × Nat × Nat × am_H) → Option am_H} (hg : ∀ s r, g s = some r → Ref_goesAlong_76_P s r) {v0 : Nat} {v2 : Int32} {v3 : Int32} {v4 : Int32} {s0 : Nat} {h : am_H} {r : am_H} (hb : Ref_goesAlong_133_b g v0 v2 v3 v4 s0 h = some r) : Sx 85 mX12_goesAlong 133 [.ref v0, .retAddr 0, .int v2, .int v3, .int v4] [.ref s0] h none r := by
  unfold Ref_goesAlong_133_b at hb
  refine Sx.o (fun _ _ _ k => op_iconst (0 : Int32) dX12_goesAlong_133 (by decide) k) ?_
  exact (hg _ _ hb).2.2.2.1 rfl
set_option maxHeartbeats 1000000 in
set_option maxRecDepth 100000 in
theorem Ref_goesAlong_134_t {g : (Nat × Int32 × Int32 × Int32 × Int32 × Nat × Nat × am_H) → Option am_H} (hg : ∀ s r, g s = some r → Ref_goesAlong_76_P s r) {v0 : Nat} {v2 : Int32} {v3 : Int32} {v4 : Int32} {s0 : Int32} {s1 : Nat} {h : am_H} {r : am_H} (hb : Ref_goesAlong_134_b g v0 v2 v3 v4 s0 s1 h = some r) : Sx 85 mX12_goesAlong 134 [.ref v0, .retAddr 0, .int v2, .int v3, .int v4] [.int s0, .ref s1] h none r := by
  unfold Ref_goesAlong_134_b at hb
  obtain ⟨u87, e_u87, hb88⟩ := ob2 hb
  obtain ⟨h89, e_h89, hb90⟩ := ob2 hb88
  refine Sx.p (pV_q e_h89) (fun _ _ _ k => op_put pX12_440 dX12_goesAlong_134 e_h89 (fun _ => nrZ_n e_u87) (fun _ => nrZ_f e_u87) k) ?_
  refine Sx.o (L' := [.ref v0, .retAddr 0, .int v2, .int v3, .int (v4 + (1 : Int32))]) (fun _ _ _ k => op_iinc (1 : Int32) dX12_goesAlong_137 (by decide) rfl (by decide) k) ?_
  refine Sx.o (fun _ _ _ k => ex_goto 76 dX12_goesAlong_140 (by decide) k) ?_
  exact (hg _ _ hb90).1 rfl
theorem Ref_goesAlong_76_T : ∀ s r, fx Ref_goesAlong_76_F Ref_goesAlong_76_M s = some r → Ref_goesAlong_76_P s r := fx_ind Ref_goesAlong_76_M Ref_goesAlong_76_P (fun g hg s r hb => by
  unfold Ref_goesAlong_76_F at hb
  exact ⟨fun q => Ref_goesAlong_76_t hg (ip q hb), fun q => Ref_goesAlong_97_t hg (ip q (iq (by rw [q]; decide) hb)), fun q => Ref_goesAlong_133_t hg (ip q (iq (by rw [q]; decide) (iq (by rw [q]; decide) hb))), fun q => Ref_goesAlong_134_t hg (ip q (iq (by rw [q]; decide) (iq (by rw [q]; decide) (iq (by rw [q]; decide) hb)))), trivial⟩)
set_option maxHeartbeats 1000000 in
set_option maxRecDepth 100000 in
theorem Ref_goesAlong_76_r {g : (Nat × Int32 × Int32 × Int32 × Int32 × Nat × Nat × am_H) → Option am_H} (hg : ∀ s r, g s = some r → Eqs s.2.2.2.2.2.2.2 r) {v0 : Nat} {v2 : Int32} {v3 : Int32} {v4 : Int32} {h : am_H} {r : am_H} (hb : Ref_goesAlong_76_b g v0 v2 v3 v4 h = some r) : Eqs h r := by
  unfold Ref_goesAlong_76_b at hb
  have w0 := Eqs.rf h
  by_cases q : v3 ≤ v4
  · have hb37 := ip q hb
    obtain ⟨h39, e_h39, hb40⟩ := ob2 hb37
    have w41 := w0.tr (pV_q e_h39)
    obtain ⟨r42, e_r42, hb43⟩ := ob2 hb40
    have w44 := w41.tr (Ref_passes0_q e_r42)
    by_cases q : r42.1 = (0 : Int32)
    · have hb45 := ip q hb43
      exact w44.tr (Ref_goesAlong_184_q hb45)
    · have hb46 := iq q hb43
      obtain ⟨x47, e_x47, hb48⟩ := ob2 hb46
      obtain ⟨x49, e_x49, hb50⟩ := ob2 hb48
      obtain ⟨x51, e_x51, hb52⟩ := ob2 hb50
      obtain ⟨h53, e_h53, hb54⟩ := ob2 hb52
      have w55 := w44.tr (pV_q e_h53)
      obtain ⟨x56, e_x56, hb57⟩ := ob2 hb54
      obtain ⟨h58, e_h58, hb59⟩ := ob2 hb57
      have w60 := w55.tr (pV_q e_h58)
      exact w60.tr (Ref_goesAlong_184_q hb59)
  · have hb38 := iq q hb
    by_cases q : v4 ≤ (0 : Int32)
    · have hb61 := ip q hb38
      exact w0.tr (hg _ _ hb61)
    · have hb62 := iq q hb38
      obtain ⟨x63, e_x63, hb64⟩ := ob2 hb62
      obtain ⟨h65, e_h65, hb66⟩ := ob2 hb64
      have w67 := w0.tr (pV_q e_h65)
      exact w67.tr (hg _ _ hb66)
set_option maxHeartbeats 1000000 in
set_option maxRecDepth 100000 in
theorem Ref_goesAlong_97_r {g : (Nat × Int32 × Int32 × Int32 × Int32 × Nat × Nat × am_H) → Option am_H} (hg : ∀ s r, g s = some r → Eqs s.2.2.2.2.2.2.2 r) {v0 : Nat} {v2 : Int32} {v3 : Int32} {v4 : Int32} {h : am_H} {r : am_H} (hb : Ref_goesAlong_97_b g v0 v2 v3 v4 h = some r) : Eqs h r := by
  unfold Ref_goesAlong_97_b at hb
  have w0 := Eqs.rf h
  obtain ⟨h68, e_h68, hb69⟩ := ob2 hb
  have w70 := w0.tr (pV_q e_h68)
  obtain ⟨x71, e_x71, hb72⟩ := ob2 hb69
  obtain ⟨r73, e_r73, hb74⟩ := ob2 hb72
  have w75 := w70.tr (Ref_sumOf_q e_r73)
  obtain ⟨h76, e_h76, hb77⟩ := ob2 hb74
  have w78 := w75.tr (sJ_q e_h76)
  obtain ⟨x79, e_x79, hb80⟩ := ob2 hb77
  by_cases q : x79 = (0 : Int32)
  · have hb81 := ip q hb80
    exact w78.tr (hg _ _ hb81)
  · have hb82 := iq q hb80
    obtain ⟨x83, e_x83, hb84⟩ := ob2 hb82
    by_cases q : x83 = (0 : Int32)
    · have hb86 := ip q hb84
      exact w78.tr (hg _ _ hb86)
    · have hb85 := iq q hb84
      exact w78.tr (hg _ _ hb85)
set_option maxHeartbeats 1000000 in
set_option maxRecDepth 100000 in
theorem Ref_goesAlong_133_r {g : (Nat × Int32 × Int32 × Int32 × Int32 × Nat × Nat × am_H) → Option am_H} (hg : ∀ s r, g s = some r → Eqs s.2.2.2.2.2.2.2 r) {v0 : Nat} {v2 : Int32} {v3 : Int32} {v4 : Int32} {s0 : Nat} {h : am_H} {r : am_H} (hb : Ref_goesAlong_133_b g v0 v2 v3 v4 s0 h = some r) : Eqs h r := by
  unfold Ref_goesAlong_133_b at hb
  have w0 := Eqs.rf h
  exact w0.tr (hg _ _ hb)
set_option maxHeartbeats 1000000 in
set_option maxRecDepth 100000 in
theorem Ref_goesAlong_134_r {g : (Nat × Int32 × Int32 × Int32 × Int32 × Nat × Nat × am_H) → Option am_H} (hg : ∀ s r, g s = some r → Eqs s.2.2.2.2.2.2.2 r) {v0 : Nat} {v2 : Int32} {v3 : Int32} {v4 : Int32} {s0 : Int32} {s1 : Nat} {h : am_H} {r : am_H} (hb : Ref_goesAlong_134_b g v0 v2 v3 v4 s0 s1 h = some r) : Eqs h r := by
  unfold Ref_goesAlong_134_b at hb
  have w0 := Eqs.rf h
  obtain ⟨u87, e_u87, hb88⟩ := ob2 hb
  obtain ⟨h89, e_h89, hb90⟩ := ob2 hb88
  have w91 := w0.tr (pV_q e_h89)
  exact w91.tr (hg _ _ hb90)
theorem Ref_goesAlong_76_Q : ∀ s r, fx Ref_goesAlong_76_F Ref_goesAlong_76_M s = some r → Eqs s.2.2.2.2.2.2.2 r := fx_ind Ref_goesAlong_76_M (fun s r => Eqs s.2.2.2.2.2.2.2 r) (fun g hg s r hb => by
  unfold Ref_goesAlong_76_F at hb
  by_cases q0 : s.1 = 76
  · exact Ref_goesAlong_76_r hg (ip q0 hb)
  · have hb0 := iq q0 hb
    by_cases q1 : s.1 = 97
    · exact Ref_goesAlong_97_r hg (ip q1 hb0)
    · have hb1 := iq q1 hb0
      by_cases q2 : s.1 = 133
      · exact Ref_goesAlong_133_r hg (ip q2 hb1)
      · have hb2 := iq q2 hb1
        by_cases q3 : s.1 = 134
        · exact Ref_goesAlong_134_r hg (ip q3 hb2)
        · have hb3 := iq q3 hb2
          exact nomatch hb3)
noncomputable def Ref_goesAlong_76 (v0 : Nat) (v2 : Int32) (v3 : Int32) (v4 : Int32) (h : am_H) : Option am_H := fx Ref_goesAlong_76_F Ref_goesAlong_76_M (76, v2, v3, v4, 0, v0, 0, h)
noncomputable def Ref_goesAlong_97 (v0 : Nat) (v2 : Int32) (v3 : Int32) (v4 : Int32) (h : am_H) : Option am_H := fx Ref_goesAlong_76_F Ref_goesAlong_76_M (97, v2, v3, v4, 0, v0, 0, h)
noncomputable def Ref_goesAlong_133 (v0 : Nat) (v2 : Int32) (v3 : Int32) (v4 : Int32) (s0 : Nat) (h : am_H) : Option am_H := fx Ref_goesAlong_76_F Ref_goesAlong_76_M (133, v2, v3, v4, 0, v0, s0, h)
noncomputable def Ref_goesAlong_134 (v0 : Nat) (v2 : Int32) (v3 : Int32) (v4 : Int32) (s0 : Int32) (s1 : Nat) (h : am_H) : Option am_H := fx Ref_goesAlong_76_F Ref_goesAlong_76_M (134, v2, v3, v4, s0, v0, s1, h)
set_option maxHeartbeats 1000000 in
set_option maxRecDepth 100000 in
theorem Ref_goesAlong_76_e (v0 : Nat) (v2 : Int32) (v3 : Int32) (v4 : Int32) (h : am_H) : Ref_goesAlong_76 v0 v2 v3 v4 h = (if v3 ≤ v4 then (pV h 12 v0 48 (.int (1 : Int32))).bind fun h39 => (Ref_passes0 v0 (25 : Int32) h39).bind fun r42 => if r42.1 = (0 : Int32) then Ref_goesAlong_184 v0 v2 r42.2 else (gR r42.2 12 v0 2).bind fun x47 => (gI r42.2 12 v0 21).bind fun x49 => (aI r42.2 0 x47 ((2925 : Int32) + x49)).bind fun x51 => (pV r42.2 12 v0 48 (.int x51)).bind fun h53 => (gI h53 12 v0 21).bind fun x56 => (pV h53 12 v0 21 (.int (x56 + (1 : Int32)))).bind fun h58 => Ref_goesAlong_184 v0 v2 h58 else if v4 ≤ (0 : Int32) then Ref_goesAlong_97 v0 v2 v3 v4 h else (gI h 12 v0 21).bind fun x63 => (pV h 12 v0 21 (.int (x63 + (1 : Int32)))).bind fun h65 => Ref_goesAlong_97 v0 v2 v3 v4 h65) := (fx_eq Ref_goesAlong_76_M (76, v2, v3, v4, 0, v0, 0, h)).trans (if_pos rfl)
theorem Ref_goesAlong_76_q {v0 : Nat} {v2 : Int32} {v3 : Int32} {v4 : Int32} {h : am_H} {r : am_H} (hb : Ref_goesAlong_76 v0 v2 v3 v4 h = some r) : Eqs h r := Ref_goesAlong_76_Q _ _ hb
theorem Ref_goesAlong_76_s {v0 : Nat} {v2 : Int32} {v3 : Int32} {v4 : Int32} {h : am_H} {r : am_H} (hb : Ref_goesAlong_76 v0 v2 v3 v4 h = some r) : Sx 85 mX12_goesAlong 76 [.ref v0, .retAddr 0, .int v2, .int v3, .int v4] [] h none r := (Ref_goesAlong_76_T _ _ hb).1 rfl
set_option maxHeartbeats 1000000 in
set_option maxRecDepth 100000 in
theorem Ref_goesAlong_97_e (v0 : Nat) (v2 : Int32) (v3 : Int32) (v4 : Int32) (h : am_H) : Ref_goesAlong_97 v0 v2 v3 v4 h = ((pV h 12 v0 23 (.int (0 : Int32))).bind fun h68 => (gR h68 12 v0 52).bind fun x71 => (Ref_sumOf 40 v0 v2 h68).bind fun r73 => (sJ r73.2 x71 v4 r73.1).bind fun h76 => (gI h76 12 v0 50).bind fun x79 => if x79 = (0 : Int32) then Ref_goesAlong_133 v0 v2 v3 v4 v0 h76 else (gI h76 12 v0 23).bind fun x83 => if x83 = (0 : Int32) then Ref_goesAlong_134 v0 v2 v3 v4 (1 : Int32) v0 h76 else Ref_goesAlong_133 v0 v2 v3 v4 v0 h76) := (fx_eq Ref_goesAlong_76_M (97, v2, v3, v4, 0, v0, 0, h)).trans ((if_neg (show ¬ (97 : Nat) = 76 by decide)).trans (if_pos rfl))
theorem Ref_goesAlong_97_q {v0 : Nat} {v2 : Int32} {v3 : Int32} {v4 : Int32} {h : am_H} {r : am_H} (hb : Ref_goesAlong_97 v0 v2 v3 v4 h = some r) : Eqs h r := Ref_goesAlong_76_Q _ _ hb
theorem Ref_goesAlong_97_s {v0 : Nat} {v2 : Int32} {v3 : Int32} {v4 : Int32} {h : am_H} {r : am_H} (hb : Ref_goesAlong_97 v0 v2 v3 v4 h = some r) : Sx 85 mX12_goesAlong 97 [.ref v0, .retAddr 0, .int v2, .int v3, .int v4] [] h none r := (Ref_goesAlong_76_T _ _ hb).2.1 rfl
set_option maxHeartbeats 1000000 in
set_option maxRecDepth 100000 in
theorem Ref_goesAlong_133_e (v0 : Nat) (v2 : Int32) (v3 : Int32) (v4 : Int32) (s0 : Nat) (h : am_H) : Ref_goesAlong_133 v0 v2 v3 v4 s0 h = (Ref_goesAlong_134 v0 v2 v3 v4 (0 : Int32) s0 h) := (fx_eq Ref_goesAlong_76_M (133, v2, v3, v4, 0, v0, s0, h)).trans ((if_neg (show ¬ (133 : Nat) = 76 by decide)).trans ((if_neg (show ¬ (133 : Nat) = 97 by decide)).trans (if_pos rfl)))
theorem Ref_goesAlong_133_q {v0 : Nat} {v2 : Int32} {v3 : Int32} {v4 : Int32} {s0 : Nat} {h : am_H} {r : am_H} (hb : Ref_goesAlong_133 v0 v2 v3 v4 s0 h = some r) : Eqs h r := Ref_goesAlong_76_Q _ _ hb
theorem Ref_goesAlong_133_s {v0 : Nat} {v2 : Int32} {v3 : Int32} {v4 : Int32} {s0 : Nat} {h : am_H} {r : am_H} (hb : Ref_goesAlong_133 v0 v2 v3 v4 s0 h = some r) : Sx 85 mX12_goesAlong 133 [.ref v0, .retAddr 0, .int v2, .int v3, .int v4] [.ref s0] h none r := (Ref_goesAlong_76_T _ _ hb).2.2.1 rfl
set_option maxHeartbeats 1000000 in
set_option maxRecDepth 100000 in
theorem Ref_goesAlong_134_e (v0 : Nat) (v2 : Int32) (v3 : Int32) (v4 : Int32) (s0 : Int32) (s1 : Nat) (h : am_H) : Ref_goesAlong_134 v0 v2 v3 v4 s0 s1 h = ((nrZ s0).bind fun u87 => (pV h 12 s1 50 (.int s0)).bind fun h89 => Ref_goesAlong_76 v0 v2 v3 (v4 + (1 : Int32)) h89) := (fx_eq Ref_goesAlong_76_M (134, v2, v3, v4, s0, v0, s1, h)).trans ((if_neg (show ¬ (134 : Nat) = 76 by decide)).trans ((if_neg (show ¬ (134 : Nat) = 97 by decide)).trans ((if_neg (show ¬ (134 : Nat) = 133 by decide)).trans (if_pos rfl))))
theorem Ref_goesAlong_134_q {v0 : Nat} {v2 : Int32} {v3 : Int32} {v4 : Int32} {s0 : Int32} {s1 : Nat} {h : am_H} {r : am_H} (hb : Ref_goesAlong_134 v0 v2 v3 v4 s0 s1 h = some r) : Eqs h r := Ref_goesAlong_76_Q _ _ hb
theorem Ref_goesAlong_134_s {v0 : Nat} {v2 : Int32} {v3 : Int32} {v4 : Int32} {s0 : Int32} {s1 : Nat} {h : am_H} {r : am_H} (hb : Ref_goesAlong_134 v0 v2 v3 v4 s0 s1 h = some r) : Sx 85 mX12_goesAlong 134 [.ref v0, .retAddr 0, .int v2, .int v3, .int v4] [.int s0, .ref s1] h none r := (Ref_goesAlong_76_T _ _ hb).2.2.2.1 rfl
set_option maxHeartbeats 1000000 in
set_option maxRecDepth 100000 in
noncomputable def Ref_goesAlong_72 (v0 : Nat) (v2 : Int32) (s0 : Int32) (h : am_H) : Option am_H := Ref_goesAlong_76 v0 v2 s0 (0 : Int32) h
set_option maxHeartbeats 1000000 in
set_option maxRecDepth 100000 in
theorem Ref_goesAlong_72_s {v0 : Nat} {v2 : Int32} {s0 : Int32} {h : am_H} {r : am_H} (hb : Ref_goesAlong_72 v0 v2 s0 h = some r) : Sx 85 mX12_goesAlong 72 [.ref v0, .retAddr 0, .int v2, .retAddr 0, .retAddr 0] [.int s0] h none r := by
  unfold Ref_goesAlong_72 at hb
  refine Sx.o (L' := [.ref v0, .retAddr 0, .int v2, .int s0, .retAddr 0]) (fun _ _ _ k => ex_istore_n dX12_goesAlong_72 (by decide) k) ?_
  refine Sx.o (fun _ _ _ k => op_iconst (0 : Int32) dX12_goesAlong_73 (by decide) k) ?_
  refine Sx.o (L' := [.ref v0, .retAddr 0, .int v2, .int s0, .int (0 : Int32)]) (fun _ _ _ k => ex_istore dX12_goesAlong_74 (by decide) k) ?_
  exact Ref_goesAlong_76_s hb
set_option maxHeartbeats 1000000 in
set_option maxRecDepth 100000 in
theorem Ref_goesAlong_72_q {v0 : Nat} {v2 : Int32} {s0 : Int32} {h : am_H} {r : am_H} (hb : Ref_goesAlong_72 v0 v2 s0 h = some r) : Eqs h r := by
  unfold Ref_goesAlong_72 at hb
  have w0 := Eqs.rf h
  exact w0.tr (Ref_goesAlong_76_q hb)
set_option maxHeartbeats 1000000 in
set_option maxRecDepth 100000 in
noncomputable def Ref_goesAlong (v0 : Nat) (v1 : Int32) (v2 : Int32) (h : am_H) : Option am_H := if isO h 12 v0 = true then (pV h 12 v0 24 (.int (1 : Int32))).bind fun h92 => (pV h92 12 v0 22 (.int v1)).bind fun h95 => (gI h95 12 v0 47).bind fun x98 => (pV h95 12 v0 21 (.int x98)).bind fun h100 => (gI h100 12 v0 21).bind fun x103 => (Ref_codeAt v0 x103 h100).bind fun x105 => (pV h100 12 v0 49 (.int x105)).bind fun h107 => (gI h107 12 v0 21).bind fun x110 => (pV h107 12 v0 21 (.int (x110 + (1 : Int32)))).bind fun h112 => (pV h112 12 v0 50 (.int (1 : Int32))).bind fun h115 => (gI h115 12 v0 49).bind fun x118 => if x118 = (20 : Int32) then Ref_goesAlong_72 v0 v2 (1 : Int32) h115 else (gI h115 12 v0 49).bind fun x122 => if x122 = (24 : Int32) then Ref_goesAlong_72 v0 v2 (2 : Int32) h115 else Ref_goesAlong_72 v0 v2 (3 : Int32) h115 else none
set_option maxHeartbeats 1000000 in
set_option maxRecDepth 100000 in
theorem Ref_goesAlong_s {v0 : Nat} {v1 : Int32} {v2 : Int32} {h : am_H} {r : am_H} (hb : Ref_goesAlong v0 v1 v2 h = some r) : Sx 85 mX12_goesAlong 0 (am_en [.ref v0, .int v1, .int v2] 5) [] h none r := by
  unfold Ref_goesAlong at hb
  have hb := (iz hb).2
  show Sx 85 mX12_goesAlong 0 [.ref v0, .int v1, .int v2, .retAddr 0, .retAddr 0] [] h none r
  refine Sx.o (fun _ _ _ k => ex_aload_n dX12_goesAlong_0 rfl rfl k) ?_
  refine Sx.o (fun _ _ _ k => op_iconst (1 : Int32) dX12_goesAlong_1 (by decide) k) ?_
  obtain ⟨h92, e_h92, hb93⟩ := ob2 hb
  refine Sx.p (pV_q e_h92) (fun _ _ _ k => op_put pX12_289 dX12_goesAlong_2 e_h92 (fun _ => rfl) (fun _ => rfl) k) ?_
  refine Sx.o (fun _ _ _ k => ex_aload_n dX12_goesAlong_5 rfl rfl k) ?_
  refine Sx.o (fun _ _ _ k => ex_iload_n dX12_goesAlong_6 rfl k) ?_
  obtain ⟨h95, e_h95, hb96⟩ := ob2 hb93
  refine Sx.p (pV_q e_h95) (fun _ _ _ k => op_put pX12_253 dX12_goesAlong_7 e_h95 (fun _ => rfl) (fun _ => rfl) k) ?_
  refine Sx.o (fun _ _ _ k => ex_aload_n dX12_goesAlong_10 rfl rfl k) ?_
  refine Sx.o (fun _ _ _ k => ex_aload_n dX12_goesAlong_11 rfl rfl k) ?_
  obtain ⟨x98, e_x98, hb99⟩ := ob2 hb96
  refine Sx.o (fun _ _ _ k => op_getI fX12_431 dX12_goesAlong_12 e_x98 k) ?_
  obtain ⟨h100, e_h100, hb101⟩ := ob2 hb99
  refine Sx.p (pV_q e_h100) (fun _ _ _ k => op_put pX12_256 dX12_goesAlong_15 e_h100 (fun _ => rfl) (fun _ => rfl) k) ?_
  refine Sx.o (fun _ _ _ k => ex_aload_n dX12_goesAlong_18 rfl rfl k) ?_
  refine Sx.o (fun _ _ _ k => ex_aload_n dX12_goesAlong_19 rfl rfl k) ?_
  refine Sx.o (fun _ _ _ k => ex_aload_n dX12_goesAlong_20 rfl rfl k) ?_
  obtain ⟨x103, e_x103, hb104⟩ := ob2 hb101
  refine Sx.o (fun _ _ _ k => op_getI fX12_256 dX12_goesAlong_21 e_x103 k) ?_
  obtain ⟨x105, e_x105, hb106⟩ := ob2 hb104
  refine sx_callV (dc := 0) (as := [.int x103]) (stq := [.int x105, .ref v0]) (by omega) dX12_goesAlong_24 MX12_codeAt kX12_259 iX12_codeAt sX12_codeAt rfl rfl (Ref_codeAt_o e_x105) rfl rfl (Nat.le_of_ble_eq_true rfl) (Nat.le_of_ble_eq_true rfl) (Ref_codeAt_s e_x105) rfl ?_
  obtain ⟨h107, e_h107, hb108⟩ := ob2 hb106
  refine Sx.p (pV_q e_h107) (fun _ _ _ k => op_put pX12_437 dX12_goesAlong_27 e_h107 (fun _ => rfl) (fun _ => rfl) k) ?_
  refine Sx.o (fun _ _ _ k => ex_aload_n dX12_goesAlong_30 rfl rfl k) ?_
  refine Sx.o (fun _ _ _ k => ex_dup dX12_goesAlong_31 rfl k) ?_
  obtain ⟨x110, e_x110, hb111⟩ := ob2 hb108
  refine Sx.o (fun _ _ _ k => op_getI fX12_256 dX12_goesAlong_32 e_x110 k) ?_
  refine Sx.o (fun _ _ _ k => op_iconst (1 : Int32) dX12_goesAlong_35 (by decide) k) ?_
  refine Sx.o (fun _ _ _ k => ex_iadd dX12_goesAlong_36 k) ?_
  obtain ⟨h112, e_h112, hb113⟩ := ob2 hb111
  refine Sx.p (pV_q e_h112) (fun _ _ _ k => op_put pX12_256 dX12_goesAlong_37 e_h112 (fun _ => rfl) (fun _ => rfl) k) ?_
  refine Sx.o (fun _ _ _ k => ex_aload_n dX12_goesAlong_40 rfl rfl k) ?_
  refine Sx.o (fun _ _ _ k => op_iconst (1 : Int32) dX12_goesAlong_41 (by decide) k) ?_
  obtain ⟨h115, e_h115, hb116⟩ := ob2 hb113
  refine Sx.p (pV_q e_h115) (fun _ _ _ k => op_put pX12_440 dX12_goesAlong_42 e_h115 (fun _ => rfl) (fun _ => rfl) k) ?_
  refine Sx.o (fun _ _ _ k => ex_aload_n dX12_goesAlong_45 rfl rfl k) ?_
  obtain ⟨x118, e_x118, hb119⟩ := ob2 hb116
  refine Sx.o (fun _ _ _ k => op_getI fX12_437 dX12_goesAlong_46 e_x118 k) ?_
  refine Sx.o (fun _ _ _ k => op_bipush (20 : Int32) dX12_goesAlong_49 (by decide) k) ?_
  refine Sx.bn (fun _ _ _ k1 k2 => ex_icmp_ne 58 dX12_goesAlong_51 (by decide) k1 k2) (fun q => ?_) (fun q => ?_)
  · have hb120 := iq q hb119
    refine Sx.o (fun _ _ _ k => ex_aload_n dX12_goesAlong_58 rfl rfl k) ?_
    obtain ⟨x122, e_x122, hb123⟩ := ob2 hb120
    refine Sx.o (fun _ _ _ k => op_getI fX12_437 dX12_goesAlong_59 e_x122 k) ?_
    refine Sx.o (fun _ _ _ k => op_bipush (24 : Int32) dX12_goesAlong_62 (by decide) k) ?_
    refine Sx.bn (fun _ _ _ k1 k2 => ex_icmp_ne 71 dX12_goesAlong_64 (by decide) k1 k2) (fun q => ?_) (fun q => ?_)
    · have hb124 := iq q hb123
      refine Sx.o (fun _ _ _ k => op_iconst (3 : Int32) dX12_goesAlong_71 (by decide) k) ?_
      refine Sx.fg [true, false, true, true, true] ?_
      exact Ref_goesAlong_72_s hb124
    · have hb125 := ip q hb123
      refine Sx.o (fun _ _ _ k => op_iconst (2 : Int32) dX12_goesAlong_67 (by decide) k) ?_
      refine Sx.o (fun _ _ _ k => ex_goto 72 dX12_goesAlong_68 (by decide) k) ?_
      refine Sx.fg [true, false, true, true, true] ?_
      exact Ref_goesAlong_72_s hb125
  · have hb121 := ip q hb119
    refine Sx.o (fun _ _ _ k => op_iconst (1 : Int32) dX12_goesAlong_54 (by decide) k) ?_
    refine Sx.o (fun _ _ _ k => ex_goto 72 dX12_goesAlong_55 (by decide) k) ?_
    refine Sx.fg [true, false, true, true, true] ?_
    exact Ref_goesAlong_72_s hb121
set_option maxHeartbeats 1000000 in
set_option maxRecDepth 100000 in
theorem Ref_goesAlong_q {v0 : Nat} {v1 : Int32} {v2 : Int32} {h : am_H} {r : am_H} (hb : Ref_goesAlong v0 v1 v2 h = some r) : Eqs h r := by
  unfold Ref_goesAlong at hb
  have hb := (iz hb).2
  have w0 := Eqs.rf h
  obtain ⟨h92, e_h92, hb93⟩ := ob2 hb
  have w94 := w0.tr (pV_q e_h92)
  obtain ⟨h95, e_h95, hb96⟩ := ob2 hb93
  have w97 := w94.tr (pV_q e_h95)
  obtain ⟨x98, e_x98, hb99⟩ := ob2 hb96
  obtain ⟨h100, e_h100, hb101⟩ := ob2 hb99
  have w102 := w97.tr (pV_q e_h100)
  obtain ⟨x103, e_x103, hb104⟩ := ob2 hb101
  obtain ⟨x105, e_x105, hb106⟩ := ob2 hb104
  obtain ⟨h107, e_h107, hb108⟩ := ob2 hb106
  have w109 := w102.tr (pV_q e_h107)
  obtain ⟨x110, e_x110, hb111⟩ := ob2 hb108
  obtain ⟨h112, e_h112, hb113⟩ := ob2 hb111
  have w114 := w109.tr (pV_q e_h112)
  obtain ⟨h115, e_h115, hb116⟩ := ob2 hb113
  have w117 := w114.tr (pV_q e_h115)
  obtain ⟨x118, e_x118, hb119⟩ := ob2 hb116
  by_cases q : x118 = (20 : Int32)
  · have hb121 := ip q hb119
    exact w117.tr (Ref_goesAlong_72_q hb121)
  · have hb120 := iq q hb119
    obtain ⟨x122, e_x122, hb123⟩ := ob2 hb120
    by_cases q : x122 = (24 : Int32)
    · have hb125 := ip q hb123
      exact w117.tr (Ref_goesAlong_72_q hb125)
    · have hb124 := iq q hb123
      exact w117.tr (Ref_goesAlong_72_q hb124)
theorem Ref_goesAlong_o {v0 : Nat} {v1 : Int32} {v2 : Int32} {h : am_H} {r : am_H} (hb : Ref_goesAlong v0 v1 v2 h = some r) : isO h 12 v0 = true := by
  unfold Ref_goesAlong at hb
  exact (iz hb).1
set_option maxHeartbeats 1000000 in
set_option maxRecDepth 100000 in
noncomputable def Ref_heap_122_b (g : (Nat × Int32 × Int32 × Int32 × Int32 × Int32 × Int32 × Nat × Nat × am_H) → Option (Int32 × am_H)) (v0 : Nat) (v1 : Int32) (v2 : Int32) (v4 : Int32) (v5 : Int32) (h : am_H) : Option (Int32 × am_H) := if (13 : Int32) ≤ v5 then (gR h 12 v0 2).bind fun x3 => (aI h 0 x3 (96 : Int32)).bind fun x5 => (sI h x3 (96 : Int32) (x5 + (1 : Int32))).bind fun h7 => (Ref_settled v0 v2 h7).bind fun r10 => some (r10.1, r10.2) else (gR h 12 v0 2).bind fun x13 => if v1 ≤ v5 then g (157, v1, v2, v4, v5, (0 : Int32), ((v4 + (3 : Int32)) + v5), v0, x13, h) else (gR h 12 v0 10).bind fun x17 => (aI h 1 x17 v5).bind fun x19 => g (157, v1, v2, v4, v5, x19, ((v4 + (3 : Int32)) + v5), v0, x13, h)
set_option maxHeartbeats 1000000 in
set_option maxRecDepth 100000 in
theorem Ref_heap_122_m {g g2 : (Nat × Int32 × Int32 × Int32 × Int32 × Int32 × Int32 × Nat × Nat × am_H) → Option (Int32 × am_H)} (hg : ∀ s, Le (g s) (g2 s)) (v0 : Nat) (v1 : Int32) (v2 : Int32) (v4 : Int32) (v5 : Int32) (h : am_H) : Le (Ref_heap_122_b g v0 v1 v2 v4 v5 h) (Ref_heap_122_b g2 v0 v1 v2 v4 v5 h) := by unfold Ref_heap_122_b; exact le_i (le_r _) (le_b (le_r _) fun x13 => le_i (hg _) (le_b (le_r _) fun x17 => le_b (le_r _) fun x19 => hg _))
set_option maxHeartbeats 1000000 in
set_option maxRecDepth 100000 in
noncomputable def Ref_heap_157_b (g : (Nat × Int32 × Int32 × Int32 × Int32 × Int32 × Int32 × Nat × Nat × am_H) → Option (Int32 × am_H)) (v0 : Nat) (v1 : Int32) (v2 : Int32) (v4 : Int32) (v5 : Int32) (s0 : Int32) (s1 : Int32) (s2 : Nat) (h : am_H) : Option (Int32 × am_H) := (sI h s2 s1 s0).bind fun h21 => g (122, v1, v2, v4, (v5 + (1 : Int32)), 0, 0, v0, 0, h21)
set_option maxHeartbeats 1000000 in
set_option maxRecDepth 100000 in
theorem Ref_heap_157_m {g g2 : (Nat × Int32 × Int32 × Int32 × Int32 × Int32 × Int32 × Nat × Nat × am_H) → Option (Int32 × am_H)} (hg : ∀ s, Le (g s) (g2 s)) (v0 : Nat) (v1 : Int32) (v2 : Int32) (v4 : Int32) (v5 : Int32) (s0 : Int32) (s1 : Int32) (s2 : Nat) (h : am_H) : Le (Ref_heap_157_b g v0 v1 v2 v4 v5 s0 s1 s2 h) (Ref_heap_157_b g2 v0 v1 v2 v4 v5 s0 s1 s2 h) := by unfold Ref_heap_157_b; exact le_b (le_r _) fun h21 => hg _
noncomputable def Ref_heap_122_F (g : (Nat × Int32 × Int32 × Int32 × Int32 × Int32 × Int32 × Nat × Nat × am_H) → Option (Int32 × am_H)) (s : (Nat × Int32 × Int32 × Int32 × Int32 × Int32 × Int32 × Nat × Nat × am_H)) : Option (Int32 × am_H) := if s.1 = 122 then Ref_heap_122_b g s.2.2.2.2.2.2.2.1 s.2.1 s.2.2.1 s.2.2.2.1 s.2.2.2.2.1 s.2.2.2.2.2.2.2.2.2 else if s.1 = 157 then Ref_heap_157_b g s.2.2.2.2.2.2.2.1 s.2.1 s.2.2.1 s.2.2.2.1 s.2.2.2.2.1 s.2.2.2.2.2.1 s.2.2.2.2.2.2.1 s.2.2.2.2.2.2.2.2.1 s.2.2.2.2.2.2.2.2.2 else none
theorem Ref_heap_122_M : Mn Ref_heap_122_F := fun g g2 hg s => by unfold Ref_heap_122_F; exact le_i (Ref_heap_122_m hg s.2.2.2.2.2.2.2.1 s.2.1 s.2.2.1 s.2.2.2.1 s.2.2.2.2.1 s.2.2.2.2.2.2.2.2.2) (le_i (Ref_heap_157_m hg s.2.2.2.2.2.2.2.1 s.2.1 s.2.2.1 s.2.2.2.1 s.2.2.2.2.1 s.2.2.2.2.2.1 s.2.2.2.2.2.2.1 s.2.2.2.2.2.2.2.2.1 s.2.2.2.2.2.2.2.2.2) (le_r _))
def Ref_heap_122_P (s : (Nat × Int32 × Int32 × Int32 × Int32 × Int32 × Int32 × Nat × Nat × am_H)) (r : (Int32 × am_H)) : Prop := (s.1 = 122 → Sx 2 mX12_heap 122 [.ref s.2.2.2.2.2.2.2.1, .int s.2.1, .int s.2.2.1, .retAddr 0, .int s.2.2.2.1, .int s.2.2.2.2.1] [] s.2.2.2.2.2.2.2.2.2 (some (.int r.1)) r.2) ∧ (s.1 = 157 → Sx 2 mX12_heap 157 [.ref s.2.2.2.2.2.2.2.1, .int s.2.1, .int s.2.2.1, .retAddr 0, .int s.2.2.2.1, .int s.2.2.2.2.1] [.int s.2.2.2.2.2.1, .int s.2.2.2.2.2.2.1, .ref s.2.2.2.2.2.2.2.2.1] s.2.2.2.2.2.2.2.2.2 (some (.int r.1)) r.2) ∧ True
set_option maxHeartbeats 1000000 in
set_option maxRecDepth 100000 in
theorem Ref_heap_122_t {g : (Nat × Int32 × Int32 × Int32 × Int32 × Int32 × Int32 × Nat × Nat × am_H) → Option (Int32 × am_H)} (hg : ∀ s r, g s = some r → Ref_heap_122_P s r) {v0 : Nat} {v1 : Int32} {v2 : Int32} {v4 : Int32} {v5 : Int32} {h : am_H} {r : (Int32 × am_H)} (hb : Ref_heap_122_b g v0 v1 v2 v4 v5 h = some r) : Sx 2 mX12_heap 122 [.ref v0, .int v1, .int v2, .retAddr 0, .int v4, .int v5] [] h (some (.int r.1)) r.2 := by
  unfold Ref_heap_122_b at hb
  refine Sx.o (fun _ _ _ k => ex_iload dX12_heap_122 rfl k) ?_
  refine Sx.o (fun _ _ _ k => op_bipush (13 : Int32) dX12_heap_124 (by decide) k) ?_
  refine Sx.b (fun _ _ _ k1 k2 => ex_icmp_ge 164 dX12_heap_126 (by decide) k1 k2) (fun q => ?_) (fun q => ?_)
  · have hb1 := ip q hb
    refine Sx.o (fun _ _ _ k => ex_aload_n dX12_heap_164 rfl rfl k) ?_
    obtain ⟨x3, e_x3, hb4⟩ := ob2 hb1
    refine Sx.o (fun _ _ _ k => op_getR fX12_24 dX12_heap_165 e_x3 k) ?_
    refine Sx.o (fun _ _ _ k => op_bipush (96 : Int32) dX12_heap_168 (by decide) k) ?_
    refine Sx.o (fun _ _ _ k => ex_dup2 dX12_heap_170 rfl rfl k) ?_
    obtain ⟨x5, e_x5, hb6⟩ := ob2 hb4
    refine Sx.o (fun _ _ _ k => op_iald dX12_heap_171 e_x5 k) ?_
    refine Sx.o (fun _ _ _ k => op_iconst (1 : Int32) dX12_heap_172 (by decide) k) ?_
    refine Sx.o (fun _ _ _ k => ex_iadd dX12_heap_173 k) ?_
    obtain ⟨h7, e_h7, hb8⟩ := ob2 hb6
    refine Sx.p (sI_q e_h7) (fun _ _ _ k => op_iast dX12_heap_174 e_h7 k) ?_
    refine Sx.o (fun _ _ _ k => ex_aload_n dX12_heap_175 rfl rfl k) ?_
    refine Sx.o (fun _ _ _ k => ex_iload_n dX12_heap_176 rfl k) ?_
    obtain ⟨r10, e_r10, hb11⟩ := ob2 hb8
    refine sx_callV (dc := 1) (as := [.int v2]) (stq := [.int r10.1]) (by omega) dX12_heap_177 MX12_settled kX12_109 iX12_settled sX12_settled rfl rfl (Ref_settled_o e_r10) rfl rfl (Nat.le_of_ble_eq_true rfl) (Nat.le_of_ble_eq_true rfl) (Ref_settled_s e_r10) rfl ?_
    obtain rfl := Option.some.inj hb11
    exact Sx.r (fun _ _ _ k => ex_iret rfl dX12_heap_180 k)
  · have hb2 := iq q hb
    refine Sx.o (fun _ _ _ k => ex_aload_n dX12_heap_129 rfl rfl k) ?_
    obtain ⟨x13, e_x13, hb14⟩ := ob2 hb2
    refine Sx.o (fun _ _ _ k => op_getR fX12_24 dX12_heap_130 e_x13 k) ?_
    refine Sx.o (fun _ _ _ k => ex_iload dX12_heap_133 rfl k) ?_
    refine Sx.o (fun _ _ _ k => op_iconst (3 : Int32) dX12_heap_135 (by decide) k) ?_
    refine Sx.o (fun _ _ _ k => ex_iadd dX12_heap_136 k) ?_
    refine Sx.o (fun _ _ _ k => ex_iload dX12_heap_137 rfl k) ?_
    refine Sx.o (fun _ _ _ k => ex_iadd dX12_heap_139 k) ?_
    refine Sx.o (fun _ _ _ k => ex_iload dX12_heap_140 rfl k) ?_
    refine Sx.o (fun _ _ _ k => ex_iload_n dX12_heap_142 rfl k) ?_
    refine Sx.b (fun _ _ _ k1 k2 => ex_icmp_ge 156 dX12_heap_143 (by decide) k1 k2) (fun q => ?_) (fun q => ?_)
    · have hb15 := ip q hb14
      refine Sx.o (fun _ _ _ k => op_iconst (0 : Int32) dX12_heap_156 (by decide) k) ?_
      exact (hg _ _ hb15).2.1 rfl
    · have hb16 := iq q hb14
      refine Sx.o (fun _ _ _ k => ex_aload_n dX12_heap_146 rfl rfl k) ?_
      obtain ⟨x17, e_x17, hb18⟩ := ob2 hb16
      refine Sx.o (fun _ _ _ k => op_getR fX12_41 dX12_heap_147 e_x17 k) ?_
      refine Sx.o (fun _ _ _ k => ex_iload dX12_heap_150 rfl k) ?_
      obtain ⟨x19, e_x19, hb20⟩ := ob2 hb18
      refine Sx.o (fun _ _ _ k => op_bald dX12_heap_152 e_x19 k) ?_
      refine Sx.o (fun _ _ _ k => ex_goto 157 dX12_heap_153 (by decide) k) ?_
      exact (hg _ _ hb20).2.1 rfl
set_option maxHeartbeats 1000000 in
set_option maxRecDepth 100000 in
theorem Ref_heap_157_t {g : (Nat × Int32 × Int32 × Int32 × Int32 × Int32 × Int32 × Nat × Nat × am_H) → Option (Int32 × am_H)} (hg : ∀ s r, g s = some r → Ref_heap_122_P s r) {v0 : Nat} {v1 : Int32} {v2 : Int32} {v4 : Int32} {v5 : Int32} {s0 : Int32} {s1 : Int32} {s2 : Nat} {h : am_H} {r : (Int32 × am_H)} (hb : Ref_heap_157_b g v0 v1 v2 v4 v5 s0 s1 s2 h = some r) : Sx 2 mX12_heap 157 [.ref v0, .int v1, .int v2, .retAddr 0, .int v4, .int v5] [.int s0, .int s1, .ref s2] h (some (.int r.1)) r.2 := by
  unfold Ref_heap_157_b at hb
  obtain ⟨h21, e_h21, hb22⟩ := ob2 hb
  refine Sx.p (sI_q e_h21) (fun _ _ _ k => op_iast dX12_heap_157 e_h21 k) ?_
  refine Sx.o (L' := [.ref v0, .int v1, .int v2, .retAddr 0, .int v4, .int (v5 + (1 : Int32))]) (fun _ _ _ k => op_iinc (1 : Int32) dX12_heap_158 (by decide) rfl (by decide) k) ?_
  refine Sx.o (fun _ _ _ k => ex_goto 122 dX12_heap_161 (by decide) k) ?_
  exact (hg _ _ hb22).1 rfl
theorem Ref_heap_122_T : ∀ s r, fx Ref_heap_122_F Ref_heap_122_M s = some r → Ref_heap_122_P s r := fx_ind Ref_heap_122_M Ref_heap_122_P (fun g hg s r hb => by
  unfold Ref_heap_122_F at hb
  exact ⟨fun q => Ref_heap_122_t hg (ip q hb), fun q => Ref_heap_157_t hg (ip q (iq (by rw [q]; decide) hb)), trivial⟩)
set_option maxHeartbeats 1000000 in
set_option maxRecDepth 100000 in
theorem Ref_heap_122_r {g : (Nat × Int32 × Int32 × Int32 × Int32 × Int32 × Int32 × Nat × Nat × am_H) → Option (Int32 × am_H)} (hg : ∀ s r, g s = some r → Eqs s.2.2.2.2.2.2.2.2.2 r.2) {v0 : Nat} {v1 : Int32} {v2 : Int32} {v4 : Int32} {v5 : Int32} {h : am_H} {r : (Int32 × am_H)} (hb : Ref_heap_122_b g v0 v1 v2 v4 v5 h = some r) : Eqs h r.2 := by
  unfold Ref_heap_122_b at hb
  have w0 := Eqs.rf h
  by_cases q : (13 : Int32) ≤ v5
  · have hb1 := ip q hb
    obtain ⟨x3, e_x3, hb4⟩ := ob2 hb1
    obtain ⟨x5, e_x5, hb6⟩ := ob2 hb4
    obtain ⟨h7, e_h7, hb8⟩ := ob2 hb6
    have w9 := w0.tr (sI_q e_h7)
    obtain ⟨r10, e_r10, hb11⟩ := ob2 hb8
    have w12 := w9.tr (Ref_settled_q e_r10)
    obtain rfl := Option.some.inj hb11
    exact w12
  · have hb2 := iq q hb
    obtain ⟨x13, e_x13, hb14⟩ := ob2 hb2
    by_cases q : v1 ≤ v5
    · have hb15 := ip q hb14
      exact w0.tr (hg _ _ hb15)
    · have hb16 := iq q hb14
      obtain ⟨x17, e_x17, hb18⟩ := ob2 hb16
      obtain ⟨x19, e_x19, hb20⟩ := ob2 hb18
      exact w0.tr (hg _ _ hb20)
set_option maxHeartbeats 1000000 in
set_option maxRecDepth 100000 in
theorem Ref_heap_157_r {g : (Nat × Int32 × Int32 × Int32 × Int32 × Int32 × Int32 × Nat × Nat × am_H) → Option (Int32 × am_H)} (hg : ∀ s r, g s = some r → Eqs s.2.2.2.2.2.2.2.2.2 r.2) {v0 : Nat} {v1 : Int32} {v2 : Int32} {v4 : Int32} {v5 : Int32} {s0 : Int32} {s1 : Int32} {s2 : Nat} {h : am_H} {r : (Int32 × am_H)} (hb : Ref_heap_157_b g v0 v1 v2 v4 v5 s0 s1 s2 h = some r) : Eqs h r.2 := by
  unfold Ref_heap_157_b at hb
  have w0 := Eqs.rf h
  obtain ⟨h21, e_h21, hb22⟩ := ob2 hb
  have w23 := w0.tr (sI_q e_h21)
  exact w23.tr (hg _ _ hb22)
theorem Ref_heap_122_Q : ∀ s r, fx Ref_heap_122_F Ref_heap_122_M s = some r → Eqs s.2.2.2.2.2.2.2.2.2 r.2 := fx_ind Ref_heap_122_M (fun s r => Eqs s.2.2.2.2.2.2.2.2.2 r.2) (fun g hg s r hb => by
  unfold Ref_heap_122_F at hb
  by_cases q0 : s.1 = 122
  · exact Ref_heap_122_r hg (ip q0 hb)
  · have hb0 := iq q0 hb
    by_cases q1 : s.1 = 157
    · exact Ref_heap_157_r hg (ip q1 hb0)
    · have hb1 := iq q1 hb0
      exact nomatch hb1)
noncomputable def Ref_heap_122 (v0 : Nat) (v1 : Int32) (v2 : Int32) (v4 : Int32) (v5 : Int32) (h : am_H) : Option (Int32 × am_H) := fx Ref_heap_122_F Ref_heap_122_M (122, v1, v2, v4, v5, 0, 0, v0, 0, h)
noncomputable def Ref_heap_157 (v0 : Nat) (v1 : Int32) (v2 : Int32) (v4 : Int32) (v5 : Int32) (s0 : Int32) (s1 : Int32) (s2 : Nat) (h : am_H) : Option (Int32 × am_H) := fx Ref_heap_122_F Ref_heap_122_M (157, v1, v2, v4, v5, s0, s1, v0, s2, h)
set_option maxHeartbeats 1000000 in
set_option maxRecDepth 100000 in
theorem Ref_heap_122_e (v0 : Nat) (v1 : Int32) (v2 : Int32) (v4 : Int32) (v5 : Int32) (h : am_H) : Ref_heap_122 v0 v1 v2 v4 v5 h = (if (13 : Int32) ≤ v5 then (gR h 12 v0 2).bind fun x3 => (aI h 0 x3 (96 : Int32)).bind fun x5 => (sI h x3 (96 : Int32) (x5 + (1 : Int32))).bind fun h7 => (Ref_settled v0 v2 h7).bind fun r10 => some (r10.1, r10.2) else (gR h 12 v0 2).bind fun x13 => if v1 ≤ v5 then Ref_heap_157 v0 v1 v2 v4 v5 (0 : Int32) ((v4 + (3 : Int32)) + v5) x13 h else (gR h 12 v0 10).bind fun x17 => (aI h 1 x17 v5).bind fun x19 => Ref_heap_157 v0 v1 v2 v4 v5 x19 ((v4 + (3 : Int32)) + v5) x13 h) := (fx_eq Ref_heap_122_M (122, v1, v2, v4, v5, 0, 0, v0, 0, h)).trans (if_pos rfl)
theorem Ref_heap_122_q {v0 : Nat} {v1 : Int32} {v2 : Int32} {v4 : Int32} {v5 : Int32} {h : am_H} {r : (Int32 × am_H)} (hb : Ref_heap_122 v0 v1 v2 v4 v5 h = some r) : Eqs h r.2 := Ref_heap_122_Q _ _ hb
theorem Ref_heap_122_s {v0 : Nat} {v1 : Int32} {v2 : Int32} {v4 : Int32} {v5 : Int32} {h : am_H} {r : (Int32 × am_H)} (hb : Ref_heap_122 v0 v1 v2 v4 v5 h = some r) : Sx 2 mX12_heap 122 [.ref v0, .int v1, .int v2, .retAddr 0, .int v4, .int v5] [] h (some (.int r.1)) r.2 := (Ref_heap_122_T _ _ hb).1 rfl
set_option maxHeartbeats 1000000 in
set_option maxRecDepth 100000 in
theorem Ref_heap_157_e (v0 : Nat) (v1 : Int32) (v2 : Int32) (v4 : Int32) (v5 : Int32) (s0 : Int32) (s1 : Int32) (s2 : Nat) (h : am_H) : Ref_heap_157 v0 v1 v2 v4 v5 s0 s1 s2 h = ((sI h s2 s1 s0).bind fun h21 => Ref_heap_122 v0 v1 v2 v4 (v5 + (1 : Int32)) h21) := (fx_eq Ref_heap_122_M (157, v1, v2, v4, v5, s0, s1, v0, s2, h)).trans ((if_neg (show ¬ (157 : Nat) = 122 by decide)).trans (if_pos rfl))
theorem Ref_heap_157_q {v0 : Nat} {v1 : Int32} {v2 : Int32} {v4 : Int32} {v5 : Int32} {s0 : Int32} {s1 : Int32} {s2 : Nat} {h : am_H} {r : (Int32 × am_H)} (hb : Ref_heap_157 v0 v1 v2 v4 v5 s0 s1 s2 h = some r) : Eqs h r.2 := Ref_heap_122_Q _ _ hb
theorem Ref_heap_157_s {v0 : Nat} {v1 : Int32} {v2 : Int32} {v4 : Int32} {v5 : Int32} {s0 : Int32} {s1 : Int32} {s2 : Nat} {h : am_H} {r : (Int32 × am_H)} (hb : Ref_heap_157 v0 v1 v2 v4 v5 s0 s1 s2 h = some r) : Sx 2 mX12_heap 157 [.ref v0, .int v1, .int v2, .retAddr 0, .int v4, .int v5] [.int s0, .int s1, .ref s2] h (some (.int r.1)) r.2 := (Ref_heap_122_T _ _ hb).2.1 rfl
set_option maxHeartbeats 1000000 in
set_option maxRecDepth 100000 in
noncomputable def Ref_heap_72 (v0 : Nat) (v1 : Int32) (v2 : Int32) (v3 : Int32) (h : am_H) : Option (Int32 × am_H) := if v3 = (0 : Int32) then (Ref_refuses v0 (-6 : Int32) h).bind fun r43 => some (r43.1, r43.2) else (Ref_placeOf v2 h).bind fun x26 => (gR h 12 v0 2).bind fun x28 => (sI h x28 (x26 + (0 : Int32)) v1).bind fun h30 => (gR h30 12 v0 2).bind fun x33 => (sI h30 x33 (x26 + (1 : Int32)) (0 : Int32)).bind fun h35 => (gR h35 12 v0 2).bind fun x38 => (sI h35 x38 (x26 + (2 : Int32)) (0 : Int32)).bind fun h40 => Ref_heap_122 v0 v1 v2 x26 (0 : Int32) h40
set_option maxHeartbeats 1000000 in
set_option maxRecDepth 100000 in
theorem Ref_heap_72_s {v0 : Nat} {v1 : Int32} {v2 : Int32} {v3 : Int32} {h : am_H} {r : (Int32 × am_H)} (hb : Ref_heap_72 v0 v1 v2 v3 h = some r) : Sx 2 mX12_heap 72 [.ref v0, .int v1, .int v2, .int v3, .retAddr 0, .retAddr 0] [] h (some (.int r.1)) r.2 := by
  unfold Ref_heap_72 at hb
  refine Sx.o (fun _ _ _ k => ex_iload_n dX12_heap_72 rfl k) ?_
  refine Sx.bn (fun _ _ _ k1 k2 => ex_if_ne 83 dX12_heap_73 (by decide) k1 k2) (fun q => ?_) (fun q => ?_)
  · have hb24 := iq q hb
    refine Sx.o (fun _ _ _ k => ex_iload_n dX12_heap_83 rfl k) ?_
    obtain ⟨x26, e_x26, hb27⟩ := ob2 hb24
    refine sx_callS (dc := 0) (as := [.int v2]) (stq := [.int x26]) (by omega) dX12_heap_84 MX12_placeOf kX12_112 tX12_placeOf rfl rfl (Nat.le_of_ble_eq_true rfl) (Nat.le_of_ble_eq_true rfl) (Ref_placeOf_s e_x26) rfl ?_
    refine Sx.o (L' := [.ref v0, .int v1, .int v2, .int v3, .int x26, .retAddr 0]) (fun _ _ _ k => ex_istore dX12_heap_87 (by decide) k) ?_
    refine Sx.o (fun _ _ _ k => ex_aload_n dX12_heap_89 rfl rfl k) ?_
    obtain ⟨x28, e_x28, hb29⟩ := ob2 hb27
    refine Sx.o (fun _ _ _ k => op_getR fX12_24 dX12_heap_90 e_x28 k) ?_
    refine Sx.o (fun _ _ _ k => ex_iload dX12_heap_93 rfl k) ?_
    refine Sx.o (fun _ _ _ k => op_iconst (0 : Int32) dX12_heap_95 (by decide) k) ?_
    refine Sx.o (fun _ _ _ k => ex_iadd dX12_heap_96 k) ?_
    refine Sx.o (fun _ _ _ k => ex_iload_n dX12_heap_97 rfl k) ?_
    obtain ⟨h30, e_h30, hb31⟩ := ob2 hb29
    refine Sx.p (sI_q e_h30) (fun _ _ _ k => op_iast dX12_heap_98 e_h30 k) ?_
    refine Sx.o (fun _ _ _ k => ex_aload_n dX12_heap_99 rfl rfl k) ?_
    obtain ⟨x33, e_x33, hb34⟩ := ob2 hb31
    refine Sx.o (fun _ _ _ k => op_getR fX12_24 dX12_heap_100 e_x33 k) ?_
    refine Sx.o (fun _ _ _ k => ex_iload dX12_heap_103 rfl k) ?_
    refine Sx.o (fun _ _ _ k => op_iconst (1 : Int32) dX12_heap_105 (by decide) k) ?_
    refine Sx.o (fun _ _ _ k => ex_iadd dX12_heap_106 k) ?_
    refine Sx.o (fun _ _ _ k => op_iconst (0 : Int32) dX12_heap_107 (by decide) k) ?_
    obtain ⟨h35, e_h35, hb36⟩ := ob2 hb34
    refine Sx.p (sI_q e_h35) (fun _ _ _ k => op_iast dX12_heap_108 e_h35 k) ?_
    refine Sx.o (fun _ _ _ k => ex_aload_n dX12_heap_109 rfl rfl k) ?_
    obtain ⟨x38, e_x38, hb39⟩ := ob2 hb36
    refine Sx.o (fun _ _ _ k => op_getR fX12_24 dX12_heap_110 e_x38 k) ?_
    refine Sx.o (fun _ _ _ k => ex_iload dX12_heap_113 rfl k) ?_
    refine Sx.o (fun _ _ _ k => op_iconst (2 : Int32) dX12_heap_115 (by decide) k) ?_
    refine Sx.o (fun _ _ _ k => ex_iadd dX12_heap_116 k) ?_
    refine Sx.o (fun _ _ _ k => op_iconst (0 : Int32) dX12_heap_117 (by decide) k) ?_
    obtain ⟨h40, e_h40, hb41⟩ := ob2 hb39
    refine Sx.p (sI_q e_h40) (fun _ _ _ k => op_iast dX12_heap_118 e_h40 k) ?_
    refine Sx.o (fun _ _ _ k => op_iconst (0 : Int32) dX12_heap_119 (by decide) k) ?_
    refine Sx.o (L' := [.ref v0, .int v1, .int v2, .int v3, .int x26, .int (0 : Int32)]) (fun _ _ _ k => ex_istore dX12_heap_120 (by decide) k) ?_
    refine Sx.fg [true, true, true, false, true, true] ?_
    exact Ref_heap_122_s hb41
  · have hb25 := ip q hb
    refine Sx.o (fun _ _ _ k => ex_aload_n dX12_heap_76 rfl rfl k) ?_
    refine Sx.o (fun _ _ _ k => op_bipush (-6 : Int32) dX12_heap_77 (by decide) k) ?_
    obtain ⟨r43, e_r43, hb44⟩ := ob2 hb25
    refine sx_callV (dc := 0) (as := [.int (-6 : Int32)]) (stq := [.int r43.1]) (by omega) dX12_heap_79 MX12_refuses kX12_106 iX12_refuses sX12_refuses rfl rfl (Ref_refuses_o e_r43) rfl rfl (Nat.le_of_ble_eq_true rfl) (Nat.le_of_ble_eq_true rfl) (Ref_refuses_s e_r43) rfl ?_
    obtain rfl := Option.some.inj hb44
    exact Sx.r (fun _ _ _ k => ex_iret rfl dX12_heap_82 k)
set_option maxHeartbeats 1000000 in
set_option maxRecDepth 100000 in
theorem Ref_heap_72_q {v0 : Nat} {v1 : Int32} {v2 : Int32} {v3 : Int32} {h : am_H} {r : (Int32 × am_H)} (hb : Ref_heap_72 v0 v1 v2 v3 h = some r) : Eqs h r.2 := by
  unfold Ref_heap_72 at hb
  have w0 := Eqs.rf h
  by_cases q : v3 = (0 : Int32)
  · have hb25 := ip q hb
    obtain ⟨r43, e_r43, hb44⟩ := ob2 hb25
    have w45 := w0.tr (Ref_refuses_q e_r43)
    obtain rfl := Option.some.inj hb44
    exact w45
  · have hb24 := iq q hb
    obtain ⟨x26, e_x26, hb27⟩ := ob2 hb24
    obtain ⟨x28, e_x28, hb29⟩ := ob2 hb27
    obtain ⟨h30, e_h30, hb31⟩ := ob2 hb29
    have w32 := w0.tr (sI_q e_h30)
    obtain ⟨x33, e_x33, hb34⟩ := ob2 hb31
    obtain ⟨h35, e_h35, hb36⟩ := ob2 hb34
    have w37 := w32.tr (sI_q e_h35)
    obtain ⟨x38, e_x38, hb39⟩ := ob2 hb36
    obtain ⟨h40, e_h40, hb41⟩ := ob2 hb39
    have w42 := w37.tr (sI_q e_h40)
    exact w42.tr (Ref_heap_122_q hb41)
set_option maxHeartbeats 1000000 in
set_option maxRecDepth 100000 in
noncomputable def Ref_heap_42_b (g : (Nat × Int32 × Int32 × Int32 × Int32 × Nat × am_H) → Option (Int32 × am_H)) (v0 : Nat) (v1 : Int32) (v2 : Int32) (v3 : Int32) (v4 : Int32) (h : am_H) : Option (Int32 × am_H) := if v1 ≤ v4 then Ref_heap_72 v0 v1 v2 v3 h else if v3 = (0 : Int32) then Ref_heap_72 v0 v1 v2 v3 h else (gR h 12 v0 10).bind fun x50 => (aI h 1 x50 v4).bind fun x52 => (Ref_lies x52 (0 : Int32) (13 : Int32) h).bind fun x54 => g (42, v1, v2, x54, (v4 + (1 : Int32)), v0, h)
set_option maxHeartbeats 1000000 in
set_option maxRecDepth 100000 in
theorem Ref_heap_42_m {g g2 : (Nat × Int32 × Int32 × Int32 × Int32 × Nat × am_H) → Option (Int32 × am_H)} (hg : ∀ s, Le (g s) (g2 s)) (v0 : Nat) (v1 : Int32) (v2 : Int32) (v3 : Int32) (v4 : Int32) (h : am_H) : Le (Ref_heap_42_b g v0 v1 v2 v3 v4 h) (Ref_heap_42_b g2 v0 v1 v2 v3 v4 h) := by unfold Ref_heap_42_b; exact le_i (le_r _) (le_i (le_r _) (le_b (le_r _) fun x50 => le_b (le_r _) fun x52 => le_b (le_r _) fun x54 => hg _))
noncomputable def Ref_heap_42_F (g : (Nat × Int32 × Int32 × Int32 × Int32 × Nat × am_H) → Option (Int32 × am_H)) (s : (Nat × Int32 × Int32 × Int32 × Int32 × Nat × am_H)) : Option (Int32 × am_H) := if s.1 = 42 then Ref_heap_42_b g s.2.2.2.2.2.1 s.2.1 s.2.2.1 s.2.2.2.1 s.2.2.2.2.1 s.2.2.2.2.2.2 else none
theorem Ref_heap_42_M : Mn Ref_heap_42_F := fun g g2 hg s => by unfold Ref_heap_42_F; exact le_i (Ref_heap_42_m hg s.2.2.2.2.2.1 s.2.1 s.2.2.1 s.2.2.2.1 s.2.2.2.2.1 s.2.2.2.2.2.2) (le_r _)
def Ref_heap_42_P (s : (Nat × Int32 × Int32 × Int32 × Int32 × Nat × am_H)) (r : (Int32 × am_H)) : Prop := (s.1 = 42 → Sx 2 mX12_heap 42 [.ref s.2.2.2.2.2.1, .int s.2.1, .int s.2.2.1, .int s.2.2.2.1, .int s.2.2.2.2.1, .retAddr 0] [] s.2.2.2.2.2.2 (some (.int r.1)) r.2) ∧ True
set_option maxHeartbeats 1000000 in
set_option maxRecDepth 100000 in
theorem Ref_heap_42_t {g : (Nat × Int32 × Int32 × Int32 × Int32 × Nat × am_H) → Option (Int32 × am_H)} (hg : ∀ s r, g s = some r → Ref_heap_42_P s r) {v0 : Nat} {v1 : Int32} {v2 : Int32} {v3 : Int32} {v4 : Int32} {h : am_H} {r : (Int32 × am_H)} (hb : Ref_heap_42_b g v0 v1 v2 v3 v4 h = some r) : Sx 2 mX12_heap 42 [.ref v0, .int v1, .int v2, .int v3, .int v4, .retAddr 0] [] h (some (.int r.1)) r.2 := by
  unfold Ref_heap_42_b at hb
  refine Sx.o (fun _ _ _ k => ex_iload dX12_heap_42 rfl k) ?_
  refine Sx.o (fun _ _ _ k => ex_iload_n dX12_heap_44 rfl k) ?_
  refine Sx.b (fun _ _ _ k1 k2 => ex_icmp_ge 72 dX12_heap_45 (by decide) k1 k2) (fun q => ?_) (fun q => ?_)
  · have hb46 := ip q hb
    refine Sx.fg [true, true, true, true, false, true] ?_
    exact Ref_heap_72_s hb46
  · have hb47 := iq q hb
    refine Sx.o (fun _ _ _ k => ex_iload_n dX12_heap_48 rfl k) ?_
    refine Sx.b (fun _ _ _ k1 k2 => ex_if_eq 72 dX12_heap_49 (by decide) k1 k2) (fun q => ?_) (fun q => ?_)
    · have hb48 := ip q hb47
      refine Sx.fg [true, true, true, true, false, true] ?_
      exact Ref_heap_72_s hb48
    · have hb49 := iq q hb47
      refine Sx.o (fun _ _ _ k => ex_aload_n dX12_heap_52 rfl rfl k) ?_
      obtain ⟨x50, e_x50, hb51⟩ := ob2 hb49
      refine Sx.o (fun _ _ _ k => op_getR fX12_41 dX12_heap_53 e_x50 k) ?_
      refine Sx.o (fun _ _ _ k => ex_iload dX12_heap_56 rfl k) ?_
      obtain ⟨x52, e_x52, hb53⟩ := ob2 hb51
      refine Sx.o (fun _ _ _ k => op_bald dX12_heap_58 e_x52 k) ?_
      refine Sx.o (fun _ _ _ k => op_iconst (0 : Int32) dX12_heap_59 (by decide) k) ?_
      refine Sx.o (fun _ _ _ k => op_bipush (13 : Int32) dX12_heap_60 (by decide) k) ?_
      obtain ⟨x54, e_x54, hb55⟩ := ob2 hb53
      refine sx_callS (dc := 0) (as := [.int x52, .int (0 : Int32), .int (13 : Int32)]) (stq := [.int x54]) (by omega) dX12_heap_62 MX12_lies kX12_102 tX12_lies rfl rfl (Nat.le_of_ble_eq_true rfl) (Nat.le_of_ble_eq_true rfl) (Ref_lies_s e_x54) rfl ?_
      refine Sx.o (L' := [.ref v0, .int v1, .int v2, .int x54, .int v4, .retAddr 0]) (fun _ _ _ k => ex_istore_n dX12_heap_65 (by decide) k) ?_
      refine Sx.o (L' := [.ref v0, .int v1, .int v2, .int x54, .int (v4 + (1 : Int32)), .retAddr 0]) (fun _ _ _ k => op_iinc (1 : Int32) dX12_heap_66 (by decide) rfl (by decide) k) ?_
      refine Sx.o (fun _ _ _ k => ex_goto 42 dX12_heap_69 (by decide) k) ?_
      exact (hg _ _ hb55).1 rfl
theorem Ref_heap_42_T : ∀ s r, fx Ref_heap_42_F Ref_heap_42_M s = some r → Ref_heap_42_P s r := fx_ind Ref_heap_42_M Ref_heap_42_P (fun g hg s r hb => by
  unfold Ref_heap_42_F at hb
  exact ⟨fun q => Ref_heap_42_t hg (ip q hb), trivial⟩)
set_option maxHeartbeats 1000000 in
set_option maxRecDepth 100000 in
theorem Ref_heap_42_r {g : (Nat × Int32 × Int32 × Int32 × Int32 × Nat × am_H) → Option (Int32 × am_H)} (hg : ∀ s r, g s = some r → Eqs s.2.2.2.2.2.2 r.2) {v0 : Nat} {v1 : Int32} {v2 : Int32} {v3 : Int32} {v4 : Int32} {h : am_H} {r : (Int32 × am_H)} (hb : Ref_heap_42_b g v0 v1 v2 v3 v4 h = some r) : Eqs h r.2 := by
  unfold Ref_heap_42_b at hb
  have w0 := Eqs.rf h
  by_cases q : v1 ≤ v4
  · have hb46 := ip q hb
    exact w0.tr (Ref_heap_72_q hb46)
  · have hb47 := iq q hb
    by_cases q : v3 = (0 : Int32)
    · have hb48 := ip q hb47
      exact w0.tr (Ref_heap_72_q hb48)
    · have hb49 := iq q hb47
      obtain ⟨x50, e_x50, hb51⟩ := ob2 hb49
      obtain ⟨x52, e_x52, hb53⟩ := ob2 hb51
      obtain ⟨x54, e_x54, hb55⟩ := ob2 hb53
      exact w0.tr (hg _ _ hb55)
theorem Ref_heap_42_Q : ∀ s r, fx Ref_heap_42_F Ref_heap_42_M s = some r → Eqs s.2.2.2.2.2.2 r.2 := fx_ind Ref_heap_42_M (fun s r => Eqs s.2.2.2.2.2.2 r.2) (fun g hg s r hb => by
  unfold Ref_heap_42_F at hb
  by_cases q0 : s.1 = 42
  · exact Ref_heap_42_r hg (ip q0 hb)
  · have hb0 := iq q0 hb
    exact nomatch hb0)
noncomputable def Ref_heap_42 (v0 : Nat) (v1 : Int32) (v2 : Int32) (v3 : Int32) (v4 : Int32) (h : am_H) : Option (Int32 × am_H) := fx Ref_heap_42_F Ref_heap_42_M (42, v1, v2, v3, v4, v0, h)
set_option maxHeartbeats 1000000 in
set_option maxRecDepth 100000 in
theorem Ref_heap_42_e (v0 : Nat) (v1 : Int32) (v2 : Int32) (v3 : Int32) (v4 : Int32) (h : am_H) : Ref_heap_42 v0 v1 v2 v3 v4 h = (if v1 ≤ v4 then Ref_heap_72 v0 v1 v2 v3 h else if v3 = (0 : Int32) then Ref_heap_72 v0 v1 v2 v3 h else (gR h 12 v0 10).bind fun x50 => (aI h 1 x50 v4).bind fun x52 => (Ref_lies x52 (0 : Int32) (13 : Int32) h).bind fun x54 => Ref_heap_42 v0 v1 v2 x54 (v4 + (1 : Int32)) h) := (fx_eq Ref_heap_42_M (42, v1, v2, v3, v4, v0, h)).trans (if_pos rfl)
theorem Ref_heap_42_q {v0 : Nat} {v1 : Int32} {v2 : Int32} {v3 : Int32} {v4 : Int32} {h : am_H} {r : (Int32 × am_H)} (hb : Ref_heap_42 v0 v1 v2 v3 v4 h = some r) : Eqs h r.2 := Ref_heap_42_Q _ _ hb
theorem Ref_heap_42_s {v0 : Nat} {v1 : Int32} {v2 : Int32} {v3 : Int32} {v4 : Int32} {h : am_H} {r : (Int32 × am_H)} (hb : Ref_heap_42 v0 v1 v2 v3 v4 h = some r) : Sx 2 mX12_heap 42 [.ref v0, .int v1, .int v2, .int v3, .int v4, .retAddr 0] [] h (some (.int r.1)) r.2 := (Ref_heap_42_T _ _ hb).1 rfl
set_option maxHeartbeats 1000000 in
set_option maxRecDepth 100000 in
noncomputable def Ref_heap (v0 : Nat) (h : am_H) : Option (Int32 × am_H) := if isO h 12 v0 = true then (gI h 12 v0 12).bind fun x56 => (pV h 12 v0 12 (.int (0 : Int32))).bind fun h58 => (gR h58 12 v0 2).bind fun x61 => (aI h58 0 x61 (96 : Int32)).bind fun x63 => if x63 = (6 : Int32) then (Ref_refuses v0 (-5 : Int32) h58).bind fun r69 => some (r69.1, r69.2) else (Ref_lies x56 (1 : Int32) (13 : Int32) h58).bind fun x67 => Ref_heap_42 v0 x56 x63 x67 (0 : Int32) h58 else none
set_option maxHeartbeats 1000000 in
set_option maxRecDepth 100000 in
theorem Ref_heap_s {v0 : Nat} {h : am_H} {r : (Int32 × am_H)} (hb : Ref_heap v0 h = some r) : Sx 2 mX12_heap 0 (am_en [.ref v0] 6) [] h (some (.int r.1)) r.2 := by
  unfold Ref_heap at hb
  have hb := (iz hb).2
  show Sx 2 mX12_heap 0 [.ref v0, .retAddr 0, .retAddr 0, .retAddr 0, .retAddr 0, .retAddr 0] [] h (some (.int r.1)) r.2
  refine Sx.o (fun _ _ _ k => ex_aload_n dX12_heap_0 rfl rfl k) ?_
  obtain ⟨x56, e_x56, hb57⟩ := ob2 hb
  refine Sx.o (fun _ _ _ k => op_getI fX12_115 dX12_heap_1 e_x56 k) ?_
  refine Sx.o (L' := [.ref v0, .int x56, .retAddr 0, .retAddr 0, .retAddr 0, .retAddr 0]) (fun _ _ _ k => ex_istore_n dX12_heap_4 (by decide) k) ?_
  refine Sx.o (fun _ _ _ k => ex_aload_n dX12_heap_5 rfl rfl k) ?_
  refine Sx.o (fun _ _ _ k => op_iconst (0 : Int32) dX12_heap_6 (by decide) k) ?_
  obtain ⟨h58, e_h58, hb59⟩ := ob2 hb57
  refine Sx.p (pV_q e_h58) (fun _ _ _ k => op_put pX12_115 dX12_heap_7 e_h58 (fun _ => rfl) (fun _ => rfl) k) ?_
  refine Sx.o (fun _ _ _ k => ex_aload_n dX12_heap_10 rfl rfl k) ?_
  obtain ⟨x61, e_x61, hb62⟩ := ob2 hb59
  refine Sx.o (fun _ _ _ k => op_getR fX12_24 dX12_heap_11 e_x61 k) ?_
  refine Sx.o (fun _ _ _ k => op_bipush (96 : Int32) dX12_heap_14 (by decide) k) ?_
  obtain ⟨x63, e_x63, hb64⟩ := ob2 hb62
  refine Sx.o (fun _ _ _ k => op_iald dX12_heap_16 e_x63 k) ?_
  refine Sx.o (L' := [.ref v0, .int x56, .int x63, .retAddr 0, .retAddr 0, .retAddr 0]) (fun _ _ _ k => ex_istore_n dX12_heap_17 (by decide) k) ?_
  refine Sx.o (fun _ _ _ k => ex_iload_n dX12_heap_18 rfl k) ?_
  refine Sx.o (fun _ _ _ k => op_bipush (6 : Int32) dX12_heap_19 (by decide) k) ?_
  refine Sx.bn (fun _ _ _ k1 k2 => ex_icmp_ne 31 dX12_heap_21 (by decide) k1 k2) (fun q => ?_) (fun q => ?_)
  · have hb65 := iq q hb64
    refine Sx.o (fun _ _ _ k => ex_iload_n dX12_heap_31 rfl k) ?_
    refine Sx.o (fun _ _ _ k => op_iconst (1 : Int32) dX12_heap_32 (by decide) k) ?_
    refine Sx.o (fun _ _ _ k => op_bipush (13 : Int32) dX12_heap_33 (by decide) k) ?_
    obtain ⟨x67, e_x67, hb68⟩ := ob2 hb65
    refine sx_callS (dc := 0) (as := [.int x56, .int (1 : Int32), .int (13 : Int32)]) (stq := [.int x67]) (by omega) dX12_heap_35 MX12_lies kX12_102 tX12_lies rfl rfl (Nat.le_of_ble_eq_true rfl) (Nat.le_of_ble_eq_true rfl) (Ref_lies_s e_x67) rfl ?_
    refine Sx.o (L' := [.ref v0, .int x56, .int x63, .int x67, .retAddr 0, .retAddr 0]) (fun _ _ _ k => ex_istore_n dX12_heap_38 (by decide) k) ?_
    refine Sx.o (fun _ _ _ k => op_iconst (0 : Int32) dX12_heap_39 (by decide) k) ?_
    refine Sx.o (L' := [.ref v0, .int x56, .int x63, .int x67, .int (0 : Int32), .retAddr 0]) (fun _ _ _ k => ex_istore dX12_heap_40 (by decide) k) ?_
    exact Ref_heap_42_s hb68
  · have hb66 := ip q hb64
    refine Sx.o (fun _ _ _ k => ex_aload_n dX12_heap_24 rfl rfl k) ?_
    refine Sx.o (fun _ _ _ k => op_bipush (-5 : Int32) dX12_heap_25 (by decide) k) ?_
    obtain ⟨r69, e_r69, hb70⟩ := ob2 hb66
    refine sx_callV (dc := 0) (as := [.int (-5 : Int32)]) (stq := [.int r69.1]) (by omega) dX12_heap_27 MX12_refuses kX12_106 iX12_refuses sX12_refuses rfl rfl (Ref_refuses_o e_r69) rfl rfl (Nat.le_of_ble_eq_true rfl) (Nat.le_of_ble_eq_true rfl) (Ref_refuses_s e_r69) rfl ?_
    obtain rfl := Option.some.inj hb70
    exact Sx.r (fun _ _ _ k => ex_iret rfl dX12_heap_30 k)
set_option maxHeartbeats 1000000 in
set_option maxRecDepth 100000 in
theorem Ref_heap_q {v0 : Nat} {h : am_H} {r : (Int32 × am_H)} (hb : Ref_heap v0 h = some r) : Eqs h r.2 := by
  unfold Ref_heap at hb
  have hb := (iz hb).2
  have w0 := Eqs.rf h
  obtain ⟨x56, e_x56, hb57⟩ := ob2 hb
  obtain ⟨h58, e_h58, hb59⟩ := ob2 hb57
  have w60 := w0.tr (pV_q e_h58)
  obtain ⟨x61, e_x61, hb62⟩ := ob2 hb59
  obtain ⟨x63, e_x63, hb64⟩ := ob2 hb62
  by_cases q : x63 = (6 : Int32)
  · have hb66 := ip q hb64
    obtain ⟨r69, e_r69, hb70⟩ := ob2 hb66
    have w71 := w60.tr (Ref_refuses_q e_r69)
    obtain rfl := Option.some.inj hb70
    exact w71
  · have hb65 := iq q hb64
    obtain ⟨x67, e_x67, hb68⟩ := ob2 hb65
    exact w60.tr (Ref_heap_42_q hb68)
theorem Ref_heap_o {v0 : Nat} {h : am_H} {r : (Int32 × am_H)} (hb : Ref_heap v0 h = some r) : isO h 12 v0 = true := by
  unfold Ref_heap at hb
  exact (iz hb).1
