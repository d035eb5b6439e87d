/-! Tape: its methods as functions (by wip/whole/dec.py) -/
set_option maxHeartbeats 1000000 in
set_option maxRecDepth 100000 in
noncomputable def Tape_addFour_3_b (g : (Nat × Int32 × Int32 × Nat × am_H) → Option am_H) (v0 : Nat) (v1 : Int32) (v2 : Int32) (h : am_H) : Option am_H := if v2 < (0 : Int32) then some h else (gI h 8 v0 1).bind fun x3 => if (400 : Int32) ≤ x3 then g (40, v1, v2, v0, h) else (gR h 8 v0 0).bind fun x7 => (gI h 8 v0 1).bind fun x9 => (sB h x7 x9 ((Int32.toInt8 (v1 >>> (v2 &&& 31))).toInt32)).bind fun h11 => (gI h11 8 v0 1).bind fun x14 => (pV h11 8 v0 1 (.int (x14 + (1 : Int32)))).bind fun h16 => g (40, v1, v2, v0, h16)
set_option maxHeartbeats 1000000 in
set_option maxRecDepth 100000 in
theorem Tape_addFour_3_m {g g2 : (Nat × Int32 × Int32 × Nat × am_H) → Option am_H} (hg : ∀ s, Le (g s) (g2 s)) (v0 : Nat) (v1 : Int32) (v2 : Int32) (h : am_H) : Le (Tape_addFour_3_b g v0 v1 v2 h) (Tape_addFour_3_b g2 v0 v1 v2 h) := by unfold Tape_addFour_3_b; exact le_i (le_r _) (le_b (le_r _) fun x3 => le_i (hg _) (le_b (le_r _) fun x7 => le_b (le_r _) fun x9 => le_b (le_r _) fun h11 => le_b (le_r _) fun x14 => le_b (le_r _) fun h16 => hg _))
set_option maxHeartbeats 1000000 in
set_option maxRecDepth 100000 in
noncomputable def Tape_addFour_40_b (g : (Nat × Int32 × Int32 × Nat × am_H) → Option am_H) (v0 : Nat) (v1 : Int32) (v2 : Int32) (h : am_H) : Option am_H := g (3, v1, (v2 + (-8 : Int32)), v0, h)
set_option maxHeartbeats 1000000 in
set_option maxRecDepth 100000 in
theorem Tape_addFour_40_m {g g2 : (Nat × Int32 × Int32 × Nat × am_H) → Option am_H} (hg : ∀ s, Le (g s) (g2 s)) (v0 : Nat) (v1 : Int32) (v2 : Int32) (h : am_H) : Le (Tape_addFour_40_b g v0 v1 v2 h) (Tape_addFour_40_b g2 v0 v1 v2 h) := by unfold Tape_addFour_40_b; exact hg _
noncomputable def Tape_addFour_3_F (g : (Nat × Int32 × Int32 × Nat × am_H) → Option am_H) (s : (Nat × Int32 × Int32 × Nat × am_H)) : Option am_H := if s.1 = 3 then Tape_addFour_3_b g s.2.2.2.1 s.2.1 s.2.2.1 s.2.2.2.2 else if s.1 = 40 then Tape_addFour_40_b g s.2.2.2.1 s.2.1 s.2.2.1 s.2.2.2.2 else none
theorem Tape_addFour_3_M : Mn Tape_addFour_3_F := fun g g2 hg s => by unfold Tape_addFour_3_F; exact le_i (Tape_addFour_3_m hg s.2.2.2.1 s.2.1 s.2.2.1 s.2.2.2.2) (le_i (Tape_addFour_40_m hg s.2.2.2.1 s.2.1 s.2.2.1 s.2.2.2.2) (le_r _))
def Tape_addFour_3_P (s : (Nat × Int32 × Int32 × Nat × am_H)) (r : am_H) : Prop := (s.1 = 3 → Sx 0 mX8_addFour 3 [.ref s.2.2.2.1, .int s.2.1, .int s.2.2.1] [] s.2.2.2.2 none r) ∧ (s.1 = 40 → Sx 0 mX8_addFour 40 [.ref s.2.2.2.1, .int s.2.1, .int s.2.2.1] [] s.2.2.2.2 none r) ∧ True
set_option maxHeartbeats 1000000 in
set_option maxRecDepth 100000 in
theorem Tape_addFour_3_t {g : (Nat × Int32 × Int32 × Nat × am_H) → Option am_H} (hg : ∀ s r, g s = some r → Tape_addFour_3_P s r) {v0 : Nat} {v1 : Int32} {v2 : Int32} {h : am_H} {r : am_H} (hb : Tape_addFour_3_b g v0 v1 v2 h = some r) : Sx 0 mX8_addFour 3 [.ref v0, .int v1, .int v2] [] h none r := by
  unfold Tape_addFour_3_b at hb
  refine Sx.o (fun _ _ _ k => ex_iload_n dX8_addFour_3 rfl k) ?_
  refine Sx.b (fun _ _ _ k1 k2 => ex_if_lt 46 dX8_addFour_4 (by decide) k1 k2) (fun q => ?_) (fun q => ?_)
  · have hb1 := ip q hb
    obtain rfl := Option.some.inj hb1
    exact Sx.r (fun _ _ _ k => ex_vret rfl dX8_addFour_46 k)
  · have hb2 := iq q hb
    refine Sx.o (fun _ _ _ k => ex_aload_n dX8_addFour_7 rfl rfl k) ?_
    obtain ⟨x3, e_x3, hb4⟩ := ob2 hb2
    refine Sx.o (fun _ _ _ k => op_getI fX8_15 dX8_addFour_8 e_x3 k) ?_
    refine Sx.o (fun _ _ _ k => op_sipush (400 : Int32) dX8_addFour_11 (by decide) k) ?_
    refine Sx.b (fun _ _ _ k1 k2 => ex_icmp_ge 40 dX8_addFour_14 (by decide) k1 k2) (fun q => ?_) (fun q => ?_)
    · have hb5 := ip q hb4
      exact (hg _ _ hb5).2.1 rfl
    · have hb6 := iq q hb4
      refine Sx.o (fun _ _ _ k => ex_aload_n dX8_addFour_17 rfl rfl k) ?_
      obtain ⟨x7, e_x7, hb8⟩ := ob2 hb6
      refine Sx.o (fun _ _ _ k => op_getR fX8_9 dX8_addFour_18 e_x7 k) ?_
      refine Sx.o (fun _ _ _ k => ex_aload_n dX8_addFour_21 rfl rfl k) ?_
      obtain ⟨x9, e_x9, hb10⟩ := ob2 hb8
      refine Sx.o (fun _ _ _ k => op_getI fX8_15 dX8_addFour_22 e_x9 k) ?_
      refine Sx.o (fun _ _ _ k => ex_iload_n dX8_addFour_25 rfl k) ?_
      refine Sx.o (fun _ _ _ k => ex_iload_n dX8_addFour_26 rfl k) ?_
      refine Sx.o (fun _ _ _ k => ex_ishr dX8_addFour_27 k) ?_
      refine Sx.o (fun _ _ _ k => ex_i2b dX8_addFour_28 k) ?_
      obtain ⟨h11, e_h11, hb12⟩ := ob2 hb10
      refine Sx.p (sB_q e_h11) (fun _ _ _ k => op_bast dX8_addFour_29 e_h11 k) ?_
      refine Sx.o (fun _ _ _ k => ex_aload_n dX8_addFour_30 rfl rfl k) ?_
      refine Sx.o (fun _ _ _ k => ex_dup dX8_addFour_31 rfl k) ?_
      obtain ⟨x14, e_x14, hb15⟩ := ob2 hb12
      refine Sx.o (fun _ _ _ k => op_getI fX8_15 dX8_addFour_32 e_x14 k) ?_
      refine Sx.o (fun _ _ _ k => op_iconst (1 : Int32) dX8_addFour_35 (by decide) k) ?_
      refine Sx.o (fun _ _ _ k => ex_iadd dX8_addFour_36 k) ?_
      obtain ⟨h16, e_h16, hb17⟩ := ob2 hb15
      refine Sx.p (pV_q e_h16) (fun _ _ _ k => op_put pX8_15 dX8_addFour_37 e_h16 (fun _ => rfl) (fun _ => rfl) k) ?_
      exact (hg _ _ hb17).2.1 rfl
set_option maxHeartbeats 1000000 in
set_option maxRecDepth 100000 in
theorem Tape_addFour_40_t {g : (Nat × Int32 × Int32 × Nat × am_H) → Option am_H} (hg : ∀ s r, g s = some r → Tape_addFour_3_P s r) {v0 : Nat} {v1 : Int32} {v2 : Int32} {h : am_H} {r : am_H} (hb : Tape_addFour_40_b g v0 v1 v2 h = some r) : Sx 0 mX8_addFour 40 [.ref v0, .int v1, .int v2] [] h none r := by
  unfold Tape_addFour_40_b at hb
  refine Sx.o (L' := [.ref v0, .int v1, .int (v2 + (-8 : Int32))]) (fun _ _ _ k => op_iinc (-8 : Int32) dX8_addFour_40 (by decide) rfl (by decide) k) ?_
  refine Sx.o (fun _ _ _ k => ex_goto 3 dX8_addFour_43 (by decide) k) ?_
  exact (hg _ _ hb).1 rfl
theorem Tape_addFour_3_T : ∀ s r, fx Tape_addFour_3_F Tape_addFour_3_M s = some r → Tape_addFour_3_P s r := fx_ind Tape_addFour_3_M Tape_addFour_3_P (fun g hg s r hb => by
  unfold Tape_addFour_3_F at hb
  exact ⟨fun q => Tape_addFour_3_t hg (ip q hb), fun q => Tape_addFour_40_t hg (ip q (iq (by rw [q]; decide) hb)), trivial⟩)
set_option maxHeartbeats 1000000 in
set_option maxRecDepth 100000 in
theorem Tape_addFour_3_r {g : (Nat × Int32 × Int32 × Nat × am_H) → Option am_H} (hg : ∀ s r, g s = some r → Eqs s.2.2.2.2 r) {v0 : Nat} {v1 : Int32} {v2 : Int32} {h : am_H} {r : am_H} (hb : Tape_addFour_3_b g v0 v1 v2 h = some r) : Eqs h r := by
  unfold Tape_addFour_3_b at hb
  have w0 := Eqs.rf h
  by_cases q : v2 < (0 : Int32)
  · have hb1 := ip q hb
    obtain rfl := Option.some.inj hb1
    exact w0
  · have hb2 := iq q hb
    obtain ⟨x3, e_x3, hb4⟩ := ob2 hb2
    by_cases q : (400 : Int32) ≤ x3
    · have hb5 := ip q hb4
      exact w0.tr (hg _ _ hb5)
    · have hb6 := iq q hb4
      obtain ⟨x7, e_x7, hb8⟩ := ob2 hb6
      obtain ⟨x9, e_x9, hb10⟩ := ob2 hb8
      obtain ⟨h11, e_h11, hb12⟩ := ob2 hb10
      have w13 := w0.tr (sB_q e_h11)
      obtain ⟨x14, e_x14, hb15⟩ := ob2 hb12
      obtain ⟨h16, e_h16, hb17⟩ := ob2 hb15
      have w18 := w13.tr (pV_q e_h16)
      exact w18.tr (hg _ _ hb17)
set_option maxHeartbeats 1000000 in
set_option maxRecDepth 100000 in
theorem Tape_addFour_40_r {g : (Nat × Int32 × Int32 × Nat × am_H) → Option am_H} (hg : ∀ s r, g s = some r → Eqs s.2.2.2.2 r) {v0 : Nat} {v1 : Int32} {v2 : Int32} {h : am_H} {r : am_H} (hb : Tape_addFour_40_b g v0 v1 v2 h = some r) : Eqs h r := by
  unfold Tape_addFour_40_b at hb
  have w0 := Eqs.rf h
  exact w0.tr (hg _ _ hb)
theorem Tape_addFour_3_Q : ∀ s r, fx Tape_addFour_3_F Tape_addFour_3_M s = some r → Eqs s.2.2.2.2 r := fx_ind Tape_addFour_3_M (fun s r => Eqs s.2.2.2.2 r) (fun g hg s r hb => by
  unfold Tape_addFour_3_F at hb
  by_cases q0 : s.1 = 3
  · exact Tape_addFour_3_r hg (ip q0 hb)
  · have hb0 := iq q0 hb
    by_cases q1 : s.1 = 40
    · exact Tape_addFour_40_r hg (ip q1 hb0)
    · have hb1 := iq q1 hb0
      exact nomatch hb1)
noncomputable def Tape_addFour_3 (v0 : Nat) (v1 : Int32) (v2 : Int32) (h : am_H) : Option am_H := fx Tape_addFour_3_F Tape_addFour_3_M (3, v1, v2, v0, h)
noncomputable def Tape_addFour_40 (v0 : Nat) (v1 : Int32) (v2 : Int32) (h : am_H) : Option am_H := fx Tape_addFour_3_F Tape_addFour_3_M (40, v1, v2, v0, h)
set_option maxHeartbeats 1000000 in
set_option maxRecDepth 100000 in
theorem Tape_addFour_3_e (v0 : Nat) (v1 : Int32) (v2 : Int32) (h : am_H) : Tape_addFour_3 v0 v1 v2 h = (if v2 < (0 : Int32) then some h else (gI h 8 v0 1).bind fun x3 => if (400 : Int32) ≤ x3 then Tape_addFour_40 v0 v1 v2 h else (gR h 8 v0 0).bind fun x7 => (gI h 8 v0 1).bind fun x9 => (sB h x7 x9 ((Int32.toInt8 (v1 >>> (v2 &&& 31))).toInt32)).bind fun h11 => (gI h11 8 v0 1).bind fun x14 => (pV h11 8 v0 1 (.int (x14 + (1 : Int32)))).bind fun h16 => Tape_addFour_40 v0 v1 v2 h16) := (fx_eq Tape_addFour_3_M (3, v1, v2, v0, h)).trans (if_pos rfl)
theorem Tape_addFour_3_q {v0 : Nat} {v1 : Int32} {v2 : Int32} {h : am_H} {r : am_H} (hb : Tape_addFour_3 v0 v1 v2 h = some r) : Eqs h r := Tape_addFour_3_Q _ _ hb
theorem Tape_addFour_3_s {v0 : Nat} {v1 : Int32} {v2 : Int32} {h : am_H} {r : am_H} (hb : Tape_addFour_3 v0 v1 v2 h = some r) : Sx 0 mX8_addFour 3 [.ref v0, .int v1, .int v2] [] h none r := (Tape_addFour_3_T _ _ hb).1 rfl
set_option maxHeartbeats 1000000 in
set_option maxRecDepth 100000 in
theorem Tape_addFour_40_e (v0 : Nat) (v1 : Int32) (v2 : Int32) (h : am_H) : Tape_addFour_40 v0 v1 v2 h = (Tape_addFour_3 v0 v1 (v2 + (-8 : Int32)) h) := (fx_eq Tape_addFour_3_M (40, v1, v2, v0, h)).trans ((if_neg (show ¬ (40 : Nat) = 3 by decide)).trans (if_pos rfl))
theorem Tape_addFour_40_q {v0 : Nat} {v1 : Int32} {v2 : Int32} {h : am_H} {r : am_H} (hb : Tape_addFour_40 v0 v1 v2 h = some r) : Eqs h r := Tape_addFour_3_Q _ _ hb
theorem Tape_addFour_40_s {v0 : Nat} {v1 : Int32} {v2 : Int32} {h : am_H} {r : am_H} (hb : Tape_addFour_40 v0 v1 v2 h = some r) : Sx 0 mX8_addFour 40 [.ref v0, .int v1, .int v2] [] h none r := (Tape_addFour_3_T _ _ hb).2.1 rfl
set_option maxHeartbeats 1000000 in
set_option maxRecDepth 100000 in
noncomputable def Tape_addFour (v0 : Nat) (v1 : Int32) (h : am_H) : Option am_H := if isO h 8 v0 = true then Tape_addFour_3 v0 v1 (24 : Int32) h else none
set_option maxHeartbeats 1000000 in
set_option maxRecDepth 100000 in
theorem Tape_addFour_s {v0 : Nat} {v1 : Int32} {h : am_H} {r : am_H} (hb : Tape_addFour v0 v1 h = some r) : Sx 0 mX8_addFour 0 (am_en [.ref v0, .int v1] 3) [] h none r := by
  unfold Tape_addFour at hb
  have hb := (iz hb).2
  show Sx 0 mX8_addFour 0 [.ref v0, .int v1, .retAddr 0] [] h none r
  refine Sx.o (fun _ _ _ k => op_bipush (24 : Int32) dX8_addFour_0 (by decide) k) ?_
  refine Sx.o (L' := [.ref v0, .int v1, .int (24 : Int32)]) (fun _ _ _ k => ex_istore_n dX8_addFour_2 (by decide) k) ?_
  exact Tape_addFour_3_s hb
set_option maxHeartbeats 1000000 in
set_option maxRecDepth 100000 in
theorem Tape_addFour_q {v0 : Nat} {v1 : Int32} {h : am_H} {r : am_H} (hb : Tape_addFour v0 v1 h = some r) : Eqs h r := by
  unfold Tape_addFour at hb
  have hb := (iz hb).2
  have w0 := Eqs.rf h
  exact w0.tr (Tape_addFour_3_q hb)
theorem Tape_addFour_o {v0 : Nat} {v1 : Int32} {h : am_H} {r : am_H} (hb : Tape_addFour v0 v1 h = some r) : isO h 8 v0 = true := by
  unfold Tape_addFour at hb
  exact (iz hb).1
set_option maxHeartbeats 1000000 in
set_option maxRecDepth 100000 in
noncomputable def Tape_holdsCards_15_b (g : (Nat × Int32 × Int32 × Nat × am_H) → Option Int32) (v0 : Nat) (v1 : Int32) (v2 : Int32) (h : am_H) : Option Int32 := if v1 ≤ v2 then some (1 : Int32) else (gR h 8 v0 0).bind fun x3 => (aI h 1 x3 v2).bind fun x5 => if x5 < (0 : Int32) then some (0 : Int32) else (gR h 8 v0 0).bind fun x9 => (aI h 1 x9 v2).bind fun x11 => if x11 ≤ (13 : Int32) then g (15, v1, (v2 + (1 : Int32)), v0, h) else some (0 : Int32)
set_option maxHeartbeats 1000000 in
set_option maxRecDepth 100000 in
theorem Tape_holdsCards_15_m {g g2 : (Nat × Int32 × Int32 × Nat × am_H) → Option Int32} (hg : ∀ s, Le (g s) (g2 s)) (v0 : Nat) (v1 : Int32) (v2 : Int32) (h : am_H) : Le (Tape_holdsCards_15_b g v0 v1 v2 h) (Tape_holdsCards_15_b g2 v0 v1 v2 h) := by unfold Tape_holdsCards_15_b; exact le_i (le_r _) (le_b (le_r _) fun x3 => le_b (le_r _) fun x5 => le_i (le_r _) (le_b (le_r _) fun x9 => le_b (le_r _) fun x11 => le_i (hg _) (le_r _)))
noncomputable def Tape_holdsCards_15_F (g : (Nat × Int32 × Int32 × Nat × am_H) → Option Int32) (s : (Nat × Int32 × Int32 × Nat × am_H)) : Option Int32 := if s.1 = 15 then Tape_holdsCards_15_b g s.2.2.2.1 s.2.1 s.2.2.1 s.2.2.2.2 else none
theorem Tape_holdsCards_15_M : Mn Tape_holdsCards_15_F := fun g g2 hg s => by unfold Tape_holdsCards_15_F; exact le_i (Tape_holdsCards_15_m hg s.2.2.2.1 s.2.1 s.2.2.1 s.2.2.2.2) (le_r _)
def Tape_holdsCards_15_P (s : (Nat × Int32 × Int32 × Nat × am_H)) (r : Int32) : Prop := (s.1 = 15 → Sx 0 mX8_holdsCards 15 [.ref s.2.2.2.1, .int s.2.1, .int s.2.2.1] [] s.2.2.2.2 (some (.int r)) s.2.2.2.2) ∧ True
set_option maxHeartbeats 1000000 in
set_option maxRecDepth 100000 in
theorem Tape_holdsCards_15_t {g : (Nat × Int32 × Int32 × Nat × am_H) → Option Int32} (hg : ∀ s r, g s = some r → Tape_holdsCards_15_P s r) {v0 : Nat} {v1 : Int32} {v2 : Int32} {h : am_H} {r : Int32} (hb : Tape_holdsCards_15_b g v0 v1 v2 h = some r) : Sx 0 mX8_holdsCards 15 [.ref v0, .int v1, .int v2] [] h (some (.int r)) h := by
  unfold Tape_holdsCards_15_b at hb
  refine Sx.o (fun _ _ _ k => ex_iload_n dX8_holdsCards_15 rfl k) ?_
  refine Sx.o (fun _ _ _ k => ex_iload_n dX8_holdsCards_16 rfl k) ?_
  refine Sx.b (fun _ _ _ k1 k2 => ex_icmp_ge 48 dX8_holdsCards_17 (by decide) k1 k2) (fun q => ?_) (fun q => ?_)
  · have hb1 := ip q hb
    refine Sx.o (fun _ _ _ k => op_iconst (1 : Int32) dX8_holdsCards_48 (by decide) k) ?_
    obtain rfl := Option.some.inj hb1
    exact Sx.r (fun _ _ _ k => ex_zret rfl rfl dX8_holdsCards_49 k)
  · have hb2 := iq q hb
    refine Sx.o (fun _ _ _ k => ex_aload_n dX8_holdsCards_20 rfl rfl k) ?_
    obtain ⟨x3, e_x3, hb4⟩ := ob2 hb2
    refine Sx.o (fun _ _ _ k => op_getR fX8_9 dX8_holdsCards_21 e_x3 k) ?_
    refine Sx.o (fun _ _ _ k => ex_iload_n dX8_holdsCards_24 rfl k) ?_
    obtain ⟨x5, e_x5, hb6⟩ := ob2 hb4
    refine Sx.o (fun _ _ _ k => op_bald dX8_holdsCards_25 e_x5 k) ?_
    refine Sx.b (fun _ _ _ k1 k2 => ex_if_lt 40 dX8_holdsCards_26 (by decide) k1 k2) (fun q => ?_) (fun q => ?_)
    · have hb7 := ip q hb6
      refine Sx.o (fun _ _ _ k => op_iconst (0 : Int32) dX8_holdsCards_40 (by decide) k) ?_
      obtain rfl := Option.some.inj hb7
      exact Sx.r (fun _ _ _ k => ex_zret rfl rfl dX8_holdsCards_41 k)
    · have hb8 := iq q hb6
      refine Sx.o (fun _ _ _ k => ex_aload_n dX8_holdsCards_29 rfl rfl k) ?_
      obtain ⟨x9, e_x9, hb10⟩ := ob2 hb8
      refine Sx.o (fun _ _ _ k => op_getR fX8_9 dX8_holdsCards_30 e_x9 k) ?_
      refine Sx.o (fun _ _ _ k => ex_iload_n dX8_holdsCards_33 rfl k) ?_
      obtain ⟨x11, e_x11, hb12⟩ := ob2 hb10
      refine Sx.o (fun _ _ _ k => op_bald dX8_holdsCards_34 e_x11 k) ?_
      refine Sx.o (fun _ _ _ k => op_bipush (13 : Int32) dX8_holdsCards_35 (by decide) k) ?_
      refine Sx.b (fun _ _ _ k1 k2 => ex_icmp_le 42 dX8_holdsCards_37 (by decide) k1 k2) (fun q => ?_) (fun q => ?_)
      · have hb13 := ip q hb12
        refine Sx.o (L' := [.ref v0, .int v1, .int (v2 + (1 : Int32))]) (fun _ _ _ k => op_iinc (1 : Int32) dX8_holdsCards_42 (by decide) rfl (by decide) k) ?_
        refine Sx.o (fun _ _ _ k => ex_goto 15 dX8_holdsCards_45 (by decide) k) ?_
        exact (hg _ _ hb13).1 rfl
      · have hb14 := iq q hb12
        refine Sx.o (fun _ _ _ k => op_iconst (0 : Int32) dX8_holdsCards_40 (by decide) k) ?_
        obtain rfl := Option.some.inj hb14
        exact Sx.r (fun _ _ _ k => ex_zret rfl rfl dX8_holdsCards_41 k)
theorem Tape_holdsCards_15_T : ∀ s r, fx Tape_holdsCards_15_F Tape_holdsCards_15_M s = some r → Tape_holdsCards_15_P s r := fx_ind Tape_holdsCards_15_M Tape_holdsCards_15_P (fun g hg s r hb => by
  unfold Tape_holdsCards_15_F at hb
  exact ⟨fun q => Tape_holdsCards_15_t hg (ip q hb), trivial⟩)
noncomputable def Tape_holdsCards_15 (v0 : Nat) (v1 : Int32) (v2 : Int32) (h : am_H) : Option Int32 := fx Tape_holdsCards_15_F Tape_holdsCards_15_M (15, v1, v2, v0, h)
set_option maxHeartbeats 1000000 in
set_option maxRecDepth 100000 in
theorem Tape_holdsCards_15_e (v0 : Nat) (v1 : Int32) (v2 : Int32) (h : am_H) : Tape_holdsCards_15 v0 v1 v2 h = (if v1 ≤ v2 then some (1 : Int32) else (gR h 8 v0 0).bind fun x3 => (aI h 1 x3 v2).bind fun x5 => if x5 < (0 : Int32) then some (0 : Int32) else (gR h 8 v0 0).bind fun x9 => (aI h 1 x9 v2).bind fun x11 => if x11 ≤ (13 : Int32) then Tape_holdsCards_15 v0 v1 (v2 + (1 : Int32)) h else some (0 : Int32)) := (fx_eq Tape_holdsCards_15_M (15, v1, v2, v0, h)).trans (if_pos rfl)
theorem Tape_holdsCards_15_s {v0 : Nat} {v1 : Int32} {v2 : Int32} {h : am_H} {r : Int32} (hb : Tape_holdsCards_15 v0 v1 v2 h = some r) : Sx 0 mX8_holdsCards 15 [.ref v0, .int v1, .int v2] [] h (some (.int r)) h := (Tape_holdsCards_15_T _ _ hb).1 rfl
set_option maxHeartbeats 1000000 in
set_option maxRecDepth 100000 in
noncomputable def Tape_holdsCards (v0 : Nat) (v1 : Int32) (h : am_H) : Option Int32 := if isO h 8 v0 = true then if v1 < (1 : Int32) then some (0 : Int32) else if v1 ≤ (13 : Int32) then Tape_holdsCards_15 v0 v1 (0 : Int32) h else some (0 : Int32) else none
set_option maxHeartbeats 1000000 in
set_option maxRecDepth 100000 in
theorem Tape_holdsCards_s {v0 : Nat} {v1 : Int32} {h : am_H} {r : Int32} (hb : Tape_holdsCards v0 v1 h = some r) : Sx 0 mX8_holdsCards 0 (am_en [.ref v0, .int v1] 3) [] h (some (.int r)) h := by
  unfold Tape_holdsCards at hb
  have hb := (iz hb).2
  show Sx 0 mX8_holdsCards 0 [.ref v0, .int v1, .retAddr 0] [] h (some (.int r)) h
  refine Sx.o (fun _ _ _ k => ex_iload_n dX8_holdsCards_0 rfl k) ?_
  refine Sx.o (fun _ _ _ k => op_iconst (1 : Int32) dX8_holdsCards_1 (by decide) k) ?_
  refine Sx.b (fun _ _ _ k1 k2 => ex_icmp_lt 11 dX8_holdsCards_2 (by decide) k1 k2) (fun q => ?_) (fun q => ?_)
  · have hb15 := ip q hb
    refine Sx.o (fun _ _ _ k => op_iconst (0 : Int32) dX8_holdsCards_11 (by decide) k) ?_
    obtain rfl := Option.some.inj hb15
    exact Sx.r (fun _ _ _ k => ex_zret rfl rfl dX8_holdsCards_12 k)
  · have hb16 := iq q hb
    refine Sx.o (fun _ _ _ k => ex_iload_n dX8_holdsCards_5 rfl k) ?_
    refine Sx.o (fun _ _ _ k => op_bipush (13 : Int32) dX8_holdsCards_6 (by decide) k) ?_
    refine Sx.b (fun _ _ _ k1 k2 => ex_icmp_le 13 dX8_holdsCards_8 (by decide) k1 k2) (fun q => ?_) (fun q => ?_)
    · have hb17 := ip q hb16
      refine Sx.o (fun _ _ _ k => op_iconst (0 : Int32) dX8_holdsCards_13 (by decide) k) ?_
      refine Sx.o (L' := [.ref v0, .int v1, .int (0 : Int32)]) (fun _ _ _ k => ex_istore_n dX8_holdsCards_14 (by decide) k) ?_
      exact Tape_holdsCards_15_s hb17
    · have hb18 := iq q hb16
      refine Sx.o (fun _ _ _ k => op_iconst (0 : Int32) dX8_holdsCards_11 (by decide) k) ?_
      obtain rfl := Option.some.inj hb18
      exact Sx.r (fun _ _ _ k => ex_zret rfl rfl dX8_holdsCards_12 k)
theorem Tape_holdsCards_o {v0 : Nat} {v1 : Int32} {h : am_H} {r : Int32} (hb : Tape_holdsCards v0 v1 h = some r) : isO h 8 v0 = true := by
  unfold Tape_holdsCards at hb
  exact (iz hb).1
set_option maxHeartbeats 1000000 in
set_option maxRecDepth 100000 in
noncomputable def Tape_init (v0 : Nat) (h : am_H) : Option am_H := if isO h 8 v0 = true then (nA h 1 (400 : Int32)).bind fun h1 => (pV h1 8 v0 0 (.ref (List.length h))).bind fun h3 => some h3 else none
set_option maxHeartbeats 1000000 in
set_option maxRecDepth 100000 in
theorem Tape_init_s {v0 : Nat} {h : am_H} {r : am_H} (hb : Tape_init v0 h = some r) : Sx 1 mX8_init 0 (am_en [.ref v0] 1) [] h none r := by
  unfold Tape_init at hb
  have hb := (iz hb).2
  show Sx 1 mX8_init 0 [.ref v0] [] h none r
  refine Sx.o (fun _ _ _ k => ex_aload_n dX8_init_0 rfl rfl k) ?_
  refine Sx.o (fun _ _ _ k => op_obj (by omega) dX8_init_1 kX8_3 (Nat.le_of_ble_eq_true rfl) k) ?_
  refine Sx.o (fun _ _ _ k => ex_aload_n dX8_init_4 rfl rfl k) ?_
  refine Sx.o (fun _ _ _ k => op_sipush (400 : Int32) dX8_init_5 (by decide) k) ?_
  obtain ⟨h1, e_h1, hb2⟩ := ob2 hb
  refine sx_newa (t := 1) (fun _ _ _ N c1 c2 c3 kk => ex_newa1 a_byte dX8_init_8 c1 c2 c3 kk) e_h1 ?_
  obtain ⟨h3, e_h3, hb4⟩ := ob2 hb2
  refine Sx.p (pV_q e_h3) (fun _ _ _ k => op_putF pX8_9 (fun r hr => by cases hr; rfl) rfl dX8_init_10 e_h3 (fun _ => rfl) (fun _ => rfl) k) ?_
  obtain rfl := Option.some.inj hb4
  exact Sx.r (fun _ _ _ k => ex_vret rfl dX8_init_13 k)
theorem Tape_init_o {v0 : Nat} {h : am_H} {r : am_H} (hb : Tape_init v0 h = some r) : isO h 8 v0 = true := by
  unfold Tape_init at hb
  exact (iz hb).1
set_option maxHeartbeats 1000000 in
set_option maxRecDepth 100000 in
noncomputable def Tape_go_174_b (g : (Nat × Int32 × Int32 × Nat × am_H) → Option am_H) (v0 : Nat) (v4 : Int32) (v5 : Int32) (h : am_H) : Option am_H := (gI h 8 v0 2).bind fun x1 => if x1 = (3 : Int32) then some h else (gI h 8 v0 4).bind fun x5 => (gI h 8 v0 1).bind fun x7 => if x7 ≤ x5 then some h else (gR h 8 v0 0).bind fun x11 => (gI h 8 v0 4).bind fun x13 => (aI h 1 x11 x13).bind fun x15 => if x15 < v4 then some h else (gR h 8 v0 0).bind fun x19 => (gI h 8 v0 4).bind fun x21 => (aI h 1 x19 x21).bind fun x23 => if v5 < x23 then some h else (gI h 8 v0 4).bind fun x27 => (pV h 8 v0 4 (.int (x27 + (1 : Int32)))).bind fun h29 => g (174, v4, v5, v0, h29)
set_option maxHeartbeats 1000000 in
set_option maxRecDepth 100000 in
theorem Tape_go_174_m {g g2 : (Nat × Int32 × Int32 × Nat × am_H) → Option am_H} (hg : ∀ s, Le (g s) (g2 s)) (v0 : Nat) (v4 : Int32) (v5 : Int32) (h : am_H) : Le (Tape_go_174_b g v0 v4 v5 h) (Tape_go_174_b g2 v0 v4 v5 h) := by unfold Tape_go_174_b; exact le_b (le_r _) fun x1 => le_i (le_r _) (le_b (le_r _) fun x5 => le_b (le_r _) fun x7 => le_i (le_r _) (le_b (le_r _) fun x11 => le_b (le_r _) fun x13 => le_b (le_r _) fun x15 => le_i (le_r _) (le_b (le_r _) fun x19 => le_b (le_r _) fun x21 => le_b (le_r _) fun x23 => le_i (le_r _) (le_b (le_r _) fun x27 => le_b (le_r _) fun h29 => hg _))))
noncomputable def Tape_go_174_F (g : (Nat × Int32 × Int32 × Nat × am_H) → Option am_H) (s : (Nat × Int32 × Int32 × Nat × am_H)) : Option am_H := if s.1 = 174 then Tape_go_174_b g s.2.2.2.1 s.2.1 s.2.2.1 s.2.2.2.2 else none
theorem Tape_go_174_M : Mn Tape_go_174_F := fun g g2 hg s => by unfold Tape_go_174_F; exact le_i (Tape_go_174_m hg s.2.2.2.1 s.2.1 s.2.2.1 s.2.2.2.2) (le_r _)
def Tape_go_174_P (s : (Nat × Int32 × Int32 × Nat × am_H)) (r : am_H) : Prop := (s.1 = 174 → Sx 0 mX8_go 174 [.ref s.2.2.2.1, .retAddr 0, .retAddr 0, .retAddr 0, .int s.2.1, .int s.2.2.1] [] s.2.2.2.2 none r) ∧ True
set_option maxHeartbeats 1000000 in
set_option maxRecDepth 100000 in
theorem Tape_go_174_t {g : (Nat × Int32 × Int32 × Nat × am_H) → Option am_H} (hg : ∀ s r, g s = some r → Tape_go_174_P s r) {v0 : Nat} {v4 : Int32} {v5 : Int32} {h : am_H} {r : am_H} (hb : Tape_go_174_b g v0 v4 v5 h = some r) : Sx 0 mX8_go 174 [.ref v0, .retAddr 0, .retAddr 0, .retAddr 0, .int v4, .int v5] [] h none r := by
  unfold Tape_go_174_b at hb
  refine Sx.o (fun _ _ _ k => ex_aload_n dX8_go_174 rfl rfl k) ?_
  obtain ⟨x1, e_x1, hb2⟩ := ob2 hb
  refine Sx.o (fun _ _ _ k => op_getI fX8_28 dX8_go_175 e_x1 k) ?_
  refine Sx.o (fun _ _ _ k => op_iconst (3 : Int32) dX8_go_178 (by decide) k) ?_
  refine Sx.b (fun _ _ _ k1 k2 => ex_icmp_eq 234 dX8_go_179 (by decide) k1 k2) (fun q => ?_) (fun q => ?_)
  · have hb3 := ip q hb2
    obtain rfl := Option.some.inj hb3
    exact Sx.r (fun _ _ _ k => ex_vret rfl dX8_go_234 k)
  · have hb4 := iq q hb2
    refine Sx.o (fun _ _ _ k => ex_aload_n dX8_go_182 rfl rfl k) ?_
    obtain ⟨x5, e_x5, hb6⟩ := ob2 hb4
    refine Sx.o (fun _ _ _ k => op_getI fX8_19 dX8_go_183 e_x5 k) ?_
    refine Sx.o (fun _ _ _ k => ex_aload_n dX8_go_186 rfl rfl k) ?_
    obtain ⟨x7, e_x7, hb8⟩ := ob2 hb6
    refine Sx.o (fun _ _ _ k => op_getI fX8_15 dX8_go_187 e_x7 k) ?_
    refine Sx.b (fun _ _ _ k1 k2 => ex_icmp_ge 234 dX8_go_190 (by decide) k1 k2) (fun q => ?_) (fun q => ?_)
    · have hb9 := ip q hb8
      obtain rfl := Option.some.inj hb9
      exact Sx.r (fun _ _ _ k => ex_vret rfl dX8_go_234 k)
    · have hb10 := iq q hb8
      refine Sx.o (fun _ _ _ k => ex_aload_n dX8_go_193 rfl rfl k) ?_
      obtain ⟨x11, e_x11, hb12⟩ := ob2 hb10
      refine Sx.o (fun _ _ _ k => op_getR fX8_9 dX8_go_194 e_x11 k) ?_
      refine Sx.o (fun _ _ _ k => ex_aload_n dX8_go_197 rfl rfl k) ?_
      obtain ⟨x13, e_x13, hb14⟩ := ob2 hb12
      refine Sx.o (fun _ _ _ k => op_getI fX8_19 dX8_go_198 e_x13 k) ?_
      obtain ⟨x15, e_x15, hb16⟩ := ob2 hb14
      refine Sx.o (fun _ _ _ k => op_bald dX8_go_201 e_x15 k) ?_
      refine Sx.o (fun _ _ _ k => ex_iload dX8_go_202 rfl k) ?_
      refine Sx.b (fun _ _ _ k1 k2 => ex_icmp_lt 234 dX8_go_204 (by decide) k1 k2) (fun q => ?_) (fun q => ?_)
      · have hb17 := ip q hb16
        obtain rfl := Option.some.inj hb17
        exact Sx.r (fun _ _ _ k => ex_vret rfl dX8_go_234 k)
      · have hb18 := iq q hb16
        refine Sx.o (fun _ _ _ k => ex_aload_n dX8_go_207 rfl rfl k) ?_
        obtain ⟨x19, e_x19, hb20⟩ := ob2 hb18
        refine Sx.o (fun _ _ _ k => op_getR fX8_9 dX8_go_208 e_x19 k) ?_
        refine Sx.o (fun _ _ _ k => ex_aload_n dX8_go_211 rfl rfl k) ?_
        obtain ⟨x21, e_x21, hb22⟩ := ob2 hb20
        refine Sx.o (fun _ _ _ k => op_getI fX8_19 dX8_go_212 e_x21 k) ?_
        obtain ⟨x23, e_x23, hb24⟩ := ob2 hb22
        refine Sx.o (fun _ _ _ k => op_bald dX8_go_215 e_x23 k) ?_
        refine Sx.o (fun _ _ _ k => ex_iload dX8_go_216 rfl k) ?_
        refine Sx.b (fun _ _ _ k1 k2 => ex_icmp_gt 234 dX8_go_218 (by decide) k1 k2) (fun q => ?_) (fun q => ?_)
        · have hb25 := ip q hb24
          obtain rfl := Option.some.inj hb25
          exact Sx.r (fun _ _ _ k => ex_vret rfl dX8_go_234 k)
        · have hb26 := iq q hb24
          refine Sx.o (fun _ _ _ k => ex_aload_n dX8_go_221 rfl rfl k) ?_
          refine Sx.o (fun _ _ _ k => ex_dup dX8_go_222 rfl k) ?_
          obtain ⟨x27, e_x27, hb28⟩ := ob2 hb26
          refine Sx.o (fun _ _ _ k => op_getI fX8_19 dX8_go_223 e_x27 k) ?_
          refine Sx.o (fun _ _ _ k => op_iconst (1 : Int32) dX8_go_226 (by decide) k) ?_
          refine Sx.o (fun _ _ _ k => ex_iadd dX8_go_227 k) ?_
          obtain ⟨h29, e_h29, hb30⟩ := ob2 hb28
          refine Sx.p (pV_q e_h29) (fun _ _ _ k => op_put pX8_19 dX8_go_228 e_h29 (fun _ => rfl) (fun _ => rfl) k) ?_
          refine Sx.o (fun _ _ _ k => ex_goto 174 dX8_go_231 (by decide) k) ?_
          exact (hg _ _ hb30).1 rfl
theorem Tape_go_174_T : ∀ s r, fx Tape_go_174_F Tape_go_174_M s = some r → Tape_go_174_P s r := fx_ind Tape_go_174_M Tape_go_174_P (fun g hg s r hb => by
  unfold Tape_go_174_F at hb
  exact ⟨fun q => Tape_go_174_t hg (ip q hb), trivial⟩)
set_option maxHeartbeats 1000000 in
set_option maxRecDepth 100000 in
theorem Tape_go_174_r {g : (Nat × Int32 × Int32 × Nat × am_H) → Option am_H} (hg : ∀ s r, g s = some r → Eqs s.2.2.2.2 r) {v0 : Nat} {v4 : Int32} {v5 : Int32} {h : am_H} {r : am_H} (hb : Tape_go_174_b g v0 v4 v5 h = some r) : Eqs h r := by
  unfold Tape_go_174_b at hb
  have w0 := Eqs.rf h
  obtain ⟨x1, e_x1, hb2⟩ := ob2 hb
  by_cases q : x1 = (3 : Int32)
  · have hb3 := ip q hb2
    obtain rfl := Option.some.inj hb3
    exact w0
  · have hb4 := iq q hb2
    obtain ⟨x5, e_x5, hb6⟩ := ob2 hb4
    obtain ⟨x7, e_x7, hb8⟩ := ob2 hb6
    by_cases q : x7 ≤ x5
    · have hb9 := ip q hb8
      obtain rfl := Option.some.inj hb9
      exact w0
    · have hb10 := iq q hb8
      obtain ⟨x11, e_x11, hb12⟩ := ob2 hb10
      obtain ⟨x13, e_x13, hb14⟩ := ob2 hb12
      obtain ⟨x15, e_x15, hb16⟩ := ob2 hb14
      by_cases q : x15 < v4
      · have hb17 := ip q hb16
        obtain rfl := Option.some.inj hb17
        exact w0
      · have hb18 := iq q hb16
        obtain ⟨x19, e_x19, hb20⟩ := ob2 hb18
        obtain ⟨x21, e_x21, hb22⟩ := ob2 hb20
        obtain ⟨x23, e_x23, hb24⟩ := ob2 hb22
        by_cases q : v5 < x23
        · have hb25 := ip q hb24
          obtain rfl := Option.some.inj hb25
          exact w0
        · have hb26 := iq q hb24
          obtain ⟨x27, e_x27, hb28⟩ := ob2 hb26
          obtain ⟨h29, e_h29, hb30⟩ := ob2 hb28
          have w31 := w0.tr (pV_q e_h29)
          exact w31.tr (hg _ _ hb30)
theorem Tape_go_174_Q : ∀ s r, fx Tape_go_174_F Tape_go_174_M s = some r → Eqs s.2.2.2.2 r := fx_ind Tape_go_174_M (fun s r => Eqs s.2.2.2.2 r) (fun g hg s r hb => by
  unfold Tape_go_174_F at hb
  by_cases q0 : s.1 = 174
  · exact Tape_go_174_r hg (ip q0 hb)
  · have hb0 := iq q0 hb
    exact nomatch hb0)
noncomputable def Tape_go_174 (v0 : Nat) (v4 : Int32) (v5 : Int32) (h : am_H) : Option am_H := fx Tape_go_174_F Tape_go_174_M (174, v4, v5, v0, h)
set_option maxHeartbeats 1000000 in
set_option maxRecDepth 100000 in
theorem Tape_go_174_e (v0 : Nat) (v4 : Int32) (v5 : Int32) (h : am_H) : Tape_go_174 v0 v4 v5 h = ((gI h 8 v0 2).bind fun x1 => if x1 = (3 : Int32) then some h else (gI h 8 v0 4).bind fun x5 => (gI h 8 v0 1).bind fun x7 => if x7 ≤ x5 then some h else (gR h 8 v0 0).bind fun x11 => (gI h 8 v0 4).bind fun x13 => (aI h 1 x11 x13).bind fun x15 => if x15 < v4 then some h else (gR h 8 v0 0).bind fun x19 => (gI h 8 v0 4).bind fun x21 => (aI h 1 x19 x21).bind fun x23 => if v5 < x23 then some h else (gI h 8 v0 4).bind fun x27 => (pV h 8 v0 4 (.int (x27 + (1 : Int32)))).bind fun h29 => Tape_go_174 v0 v4 v5 h29) := (fx_eq Tape_go_174_M (174, v4, v5, v0, h)).trans (if_pos rfl)
theorem Tape_go_174_q {v0 : Nat} {v4 : Int32} {v5 : Int32} {h : am_H} {r : am_H} (hb : Tape_go_174 v0 v4 v5 h = some r) : Eqs h r := Tape_go_174_Q _ _ hb
theorem Tape_go_174_s {v0 : Nat} {v4 : Int32} {v5 : Int32} {h : am_H} {r : am_H} (hb : Tape_go_174 v0 v4 v5 h = some r) : Sx 0 mX8_go 174 [.ref v0, .retAddr 0, .retAddr 0, .retAddr 0, .int v4, .int v5] [] h none r := (Tape_go_174_T _ _ hb).1 rfl
set_option maxHeartbeats 1000000 in
set_option maxRecDepth 100000 in
noncomputable def Tape_go_162 (v0 : Nat) (v4 : Int32) (s0 : Int32) (h : am_H) : Option am_H := (gI h 8 v0 3).bind fun x32 => (pV h 8 v0 4 (.int (x32 + (1 : Int32)))).bind fun h34 => Tape_go_174 v0 v4 s0 h34
set_option maxHeartbeats 1000000 in
set_option maxRecDepth 100000 in
theorem Tape_go_162_s {v0 : Nat} {v4 : Int32} {s0 : Int32} {h : am_H} {r : am_H} (hb : Tape_go_162 v0 v4 s0 h = some r) : Sx 0 mX8_go 162 [.ref v0, .retAddr 0, .retAddr 0, .retAddr 0, .int v4, .retAddr 0] [.int s0] h none r := by
  unfold Tape_go_162 at hb
  refine Sx.o (L' := [.ref v0, .retAddr 0, .retAddr 0, .retAddr 0, .int v4, .int s0]) (fun _ _ _ k => ex_istore dX8_go_162 (by decide) k) ?_
  refine Sx.o (fun _ _ _ k => ex_aload_n dX8_go_164 rfl rfl k) ?_
  refine Sx.o (fun _ _ _ k => ex_aload_n dX8_go_165 rfl rfl k) ?_
  obtain ⟨x32, e_x32, hb33⟩ := ob2 hb
  refine Sx.o (fun _ _ _ k => op_getI fX8_25 dX8_go_166 e_x32 k) ?_
  refine Sx.o (fun _ _ _ k => op_iconst (1 : Int32) dX8_go_169 (by decide) k) ?_
  refine Sx.o (fun _ _ _ k => ex_iadd dX8_go_170 k) ?_
  obtain ⟨h34, e_h34, hb35⟩ := ob2 hb33
  refine Sx.p (pV_q e_h34) (fun _ _ _ k => op_put pX8_19 dX8_go_171 e_h34 (fun _ => rfl) (fun _ => rfl) k) ?_
  exact Tape_go_174_s hb35
set_option maxHeartbeats 1000000 in
set_option maxRecDepth 100000 in
theorem Tape_go_162_q {v0 : Nat} {v4 : Int32} {s0 : Int32} {h : am_H} {r : am_H} (hb : Tape_go_162 v0 v4 s0 h = some r) : Eqs h r := by
  unfold Tape_go_162 at hb
  have w0 := Eqs.rf h
  obtain ⟨x32, e_x32, hb33⟩ := ob2 hb
  obtain ⟨h34, e_h34, hb35⟩ := ob2 hb33
  have w36 := w0.tr (pV_q e_h34)
  exact w36.tr (Tape_go_174_q hb35)
set_option maxHeartbeats 1000000 in
set_option maxRecDepth 100000 in
noncomputable def Tape_go_149 (v0 : Nat) (v2 : Int32) (s0 : Int32) (h : am_H) : Option am_H := if v2 = (0 : Int32) then Tape_go_162 v0 s0 (57 : Int32) h else Tape_go_162 v0 s0 (122 : Int32) h
set_option maxHeartbeats 1000000 in
set_option maxRecDepth 100000 in
theorem Tape_go_149_s {v0 : Nat} {v2 : Int32} {s0 : Int32} {h : am_H} {r : am_H} (hb : Tape_go_149 v0 v2 s0 h = some r) : Sx 0 mX8_go 149 [.ref v0, .retAddr 0, .int v2, .retAddr 0, .retAddr 0, .retAddr 0] [.int s0] h none r := by
  unfold Tape_go_149 at hb
  refine Sx.o (L' := [.ref v0, .retAddr 0, .int v2, .retAddr 0, .int s0, .retAddr 0]) (fun _ _ _ k => ex_istore dX8_go_149 (by decide) k) ?_
  refine Sx.o (fun _ _ _ k => ex_iload_n dX8_go_151 rfl k) ?_
  refine Sx.b (fun _ _ _ k1 k2 => ex_if_eq 160 dX8_go_152 (by decide) k1 k2) (fun q => ?_) (fun q => ?_)
  · have hb37 := ip q hb
    refine Sx.o (fun _ _ _ k => op_bipush (57 : Int32) dX8_go_160 (by decide) k) ?_
    refine Sx.fg [true, true, false, true, true, true] ?_
    exact Tape_go_162_s hb37
  · have hb38 := iq q hb
    refine Sx.o (fun _ _ _ k => op_bipush (122 : Int32) dX8_go_155 (by decide) k) ?_
    refine Sx.o (fun _ _ _ k => ex_goto 162 dX8_go_157 (by decide) k) ?_
    refine Sx.fg [true, true, false, true, true, true] ?_
    exact Tape_go_162_s hb38
set_option maxHeartbeats 1000000 in
set_option maxRecDepth 100000 in
theorem Tape_go_149_q {v0 : Nat} {v2 : Int32} {s0 : Int32} {h : am_H} {r : am_H} (hb : Tape_go_149 v0 v2 s0 h = some r) : Eqs h r := by
  unfold Tape_go_149 at hb
  have w0 := Eqs.rf h
  by_cases q : v2 = (0 : Int32)
  · have hb37 := ip q hb
    exact w0.tr (Tape_go_162_q hb37)
  · have hb38 := iq q hb
    exact w0.tr (Tape_go_162_q hb38)
set_option maxHeartbeats 1000000 in
set_option maxRecDepth 100000 in
noncomputable def Tape_go_135 (v0 : Nat) (v2 : Int32) (s0 : Int32) (s1 : Nat) (h : am_H) : Option am_H := (pV h 8 s1 2 (.int s0)).bind fun h39 => if v2 = (0 : Int32) then Tape_go_149 v0 v2 (48 : Int32) h39 else Tape_go_149 v0 v2 (97 : Int32) h39
set_option maxHeartbeats 1000000 in
set_option maxRecDepth 100000 in
theorem Tape_go_135_s {v0 : Nat} {v2 : Int32} {s0 : Int32} {s1 : Nat} {h : am_H} {r : am_H} (hb : Tape_go_135 v0 v2 s0 s1 h = some r) : Sx 0 mX8_go 135 [.ref v0, .retAddr 0, .int v2, .retAddr 0, .retAddr 0, .retAddr 0] [.int s0, .ref s1] h none r := by
  unfold Tape_go_135 at hb
  obtain ⟨h39, e_h39, hb40⟩ := ob2 hb
  refine Sx.p (pV_q e_h39) (fun _ _ _ k => op_put pX8_28 dX8_go_135 e_h39 (fun _ => rfl) (fun _ => rfl) k) ?_
  refine Sx.o (fun _ _ _ k => ex_iload_n dX8_go_138 rfl k) ?_
  refine Sx.b (fun _ _ _ k1 k2 => ex_if_eq 147 dX8_go_139 (by decide) k1 k2) (fun q => ?_) (fun q => ?_)
  · have hb42 := ip q hb40
    refine Sx.o (fun _ _ _ k => op_bipush (48 : Int32) dX8_go_147 (by decide) k) ?_
    exact Tape_go_149_s hb42
  · have hb43 := iq q hb40
    refine Sx.o (fun _ _ _ k => op_bipush (97 : Int32) dX8_go_142 (by decide) k) ?_
    refine Sx.o (fun _ _ _ k => ex_goto 149 dX8_go_144 (by decide) k) ?_
    exact Tape_go_149_s hb43
set_option maxHeartbeats 1000000 in
set_option maxRecDepth 100000 in
theorem Tape_go_135_q {v0 : Nat} {v2 : Int32} {s0 : Int32} {s1 : Nat} {h : am_H} {r : am_H} (hb : Tape_go_135 v0 v2 s0 s1 h = some r) : Eqs h r := by
  unfold Tape_go_135 at hb
  have w0 := Eqs.rf h
  obtain ⟨h39, e_h39, hb40⟩ := ob2 hb
  have w41 := w0.tr (pV_q e_h39)
  by_cases q : v2 = (0 : Int32)
  · have hb42 := ip q hb40
    exact w41.tr (Tape_go_149_q hb42)
  · have hb43 := iq q hb40
    exact w41.tr (Tape_go_149_q hb43)
set_option maxHeartbeats 1000000 in
set_option maxRecDepth 100000 in
noncomputable def Tape_go_116 (v0 : Nat) (v2 : Int32) (s0 : Int32) (h : am_H) : Option am_H := if v2 = (0 : Int32) then if s0 = (0 : Int32) then Tape_go_135 v0 v2 (3 : Int32) v0 h else Tape_go_135 v0 v2 (2 : Int32) v0 h else Tape_go_135 v0 v2 (1 : Int32) v0 h
set_option maxHeartbeats 1000000 in
set_option maxRecDepth 100000 in
theorem Tape_go_116_s {v0 : Nat} {v2 : Int32} {s0 : Int32} {h : am_H} {r : am_H} (hb : Tape_go_116 v0 v2 s0 h = some r) : Sx 0 mX8_go 116 [.ref v0, .retAddr 0, .int v2, .retAddr 0, .retAddr 0, .retAddr 0] [.int s0] h none r := by
  unfold Tape_go_116 at hb
  refine Sx.o (L' := [.ref v0, .retAddr 0, .int v2, .int s0, .retAddr 0, .retAddr 0]) (fun _ _ _ k => ex_istore_n dX8_go_116 (by decide) k) ?_
  refine Sx.o (fun _ _ _ k => ex_aload_n dX8_go_117 rfl rfl k) ?_
  refine Sx.o (fun _ _ _ k => ex_iload_n dX8_go_118 rfl k) ?_
  refine Sx.b (fun _ _ _ k1 k2 => ex_if_eq 126 dX8_go_119 (by decide) k1 k2) (fun q => ?_) (fun q => ?_)
  · have hb44 := ip q hb
    refine Sx.o (fun _ _ _ k => ex_iload_n dX8_go_126 rfl k) ?_
    refine Sx.b (fun _ _ _ k1 k2 => ex_if_eq 134 dX8_go_127 (by decide) k1 k2) (fun q => ?_) (fun q => ?_)
    · have hb46 := ip q hb44
      refine Sx.o (fun _ _ _ k => op_iconst (3 : Int32) dX8_go_134 (by decide) k) ?_
      refine Sx.fg [true, true, true, false, true, true] ?_
      exact Tape_go_135_s hb46
    · have hb47 := iq q hb44
      refine Sx.o (fun _ _ _ k => op_iconst (2 : Int32) dX8_go_130 (by decide) k) ?_
      refine Sx.o (fun _ _ _ k => ex_goto 135 dX8_go_131 (by decide) k) ?_
      refine Sx.fg [true, true, true, false, true, true] ?_
      exact Tape_go_135_s hb47
  · have hb45 := iq q hb
    refine Sx.o (fun _ _ _ k => op_iconst (1 : Int32) dX8_go_122 (by decide) k) ?_
    refine Sx.o (fun _ _ _ k => ex_goto 135 dX8_go_123 (by decide) k) ?_
    refine Sx.fg [true, true, true, false, true, true] ?_
    exact Tape_go_135_s hb45
set_option maxHeartbeats 1000000 in
set_option maxRecDepth 100000 in
theorem Tape_go_116_q {v0 : Nat} {v2 : Int32} {s0 : Int32} {h : am_H} {r : am_H} (hb : Tape_go_116 v0 v2 s0 h = some r) : Eqs h r := by
  unfold Tape_go_116 at hb
  have w0 := Eqs.rf h
  by_cases q : v2 = (0 : Int32)
  · have hb44 := ip q hb
    by_cases q : s0 = (0 : Int32)
    · have hb46 := ip q hb44
      exact w0.tr (Tape_go_135_q hb46)
    · have hb47 := iq q hb44
      exact w0.tr (Tape_go_135_q hb47)
  · have hb45 := iq q hb
    exact w0.tr (Tape_go_135_q hb45)
set_option maxHeartbeats 1000000 in
set_option maxRecDepth 100000 in
noncomputable def Tape_go_115 (v0 : Nat) (v2 : Int32) (h : am_H) : Option am_H := Tape_go_116 v0 v2 (0 : Int32) h
set_option maxHeartbeats 1000000 in
set_option maxRecDepth 100000 in
theorem Tape_go_115_s {v0 : Nat} {v2 : Int32} {h : am_H} {r : am_H} (hb : Tape_go_115 v0 v2 h = some r) : Sx 0 mX8_go 115 [.ref v0, .retAddr 0, .int v2, .retAddr 0, .retAddr 0, .retAddr 0] [] h none r := by
  unfold Tape_go_115 at hb
  refine Sx.o (fun _ _ _ k => op_iconst (0 : Int32) dX8_go_115 (by decide) k) ?_
  exact Tape_go_116_s hb
set_option maxHeartbeats 1000000 in
set_option maxRecDepth 100000 in
theorem Tape_go_115_q {v0 : Nat} {v2 : Int32} {h : am_H} {r : am_H} (hb : Tape_go_115 v0 v2 h = some r) : Eqs h r := by
  unfold Tape_go_115 at hb
  have w0 := Eqs.rf h
  exact w0.tr (Tape_go_116_q hb)
set_option maxHeartbeats 1000000 in
set_option maxRecDepth 100000 in
noncomputable def Tape_go_98 (v0 : Nat) (v1 : Int32) (s0 : Int32) (h : am_H) : Option am_H := if v1 < (48 : Int32) then Tape_go_115 v0 s0 h else if (57 : Int32) < v1 then Tape_go_115 v0 s0 h else Tape_go_116 v0 s0 (1 : Int32) h
set_option maxHeartbeats 1000000 in
set_option maxRecDepth 100000 in
theorem Tape_go_98_s {v0 : Nat} {v1 : Int32} {s0 : Int32} {h : am_H} {r : am_H} (hb : Tape_go_98 v0 v1 s0 h = some r) : Sx 0 mX8_go 98 [.ref v0, .int v1, .retAddr 0, .retAddr 0, .retAddr 0, .retAddr 0] [.int s0] h none r := by
  unfold Tape_go_98 at hb
  refine Sx.o (L' := [.ref v0, .int v1, .int s0, .retAddr 0, .retAddr 0, .retAddr 0]) (fun _ _ _ k => ex_istore_n dX8_go_98 (by decide) k) ?_
  refine Sx.o (fun _ _ _ k => ex_iload_n dX8_go_99 rfl k) ?_
  refine Sx.o (fun _ _ _ k => op_bipush (48 : Int32) dX8_go_100 (by decide) k) ?_
  refine Sx.b (fun _ _ _ k1 k2 => ex_icmp_lt 115 dX8_go_102 (by decide) k1 k2) (fun q => ?_) (fun q => ?_)
  · have hb48 := ip q hb
    refine Sx.fg [true, false, true, true, true, true] ?_
    exact Tape_go_115_s hb48
  · have hb49 := iq q hb
    refine Sx.o (fun _ _ _ k => ex_iload_n dX8_go_105 rfl k) ?_
    refine Sx.o (fun _ _ _ k => op_bipush (57 : Int32) dX8_go_106 (by decide) k) ?_
    refine Sx.b (fun _ _ _ k1 k2 => ex_icmp_gt 115 dX8_go_108 (by decide) k1 k2) (fun q => ?_) (fun q => ?_)
    · have hb50 := ip q hb49
      refine Sx.fg [true, false, true, true, true, true] ?_
      exact Tape_go_115_s hb50
    · have hb51 := iq q hb49
      refine Sx.o (fun _ _ _ k => op_iconst (1 : Int32) dX8_go_111 (by decide) k) ?_
      refine Sx.o (fun _ _ _ k => ex_goto 116 dX8_go_112 (by decide) k) ?_
      refine Sx.fg [true, false, true, true, true, true] ?_
      exact Tape_go_116_s hb51
set_option maxHeartbeats 1000000 in
set_option maxRecDepth 100000 in
theorem Tape_go_98_q {v0 : Nat} {v1 : Int32} {s0 : Int32} {h : am_H} {r : am_H} (hb : Tape_go_98 v0 v1 s0 h = some r) : Eqs h r := by
  unfold Tape_go_98 at hb
  have w0 := Eqs.rf h
  by_cases q : v1 < (48 : Int32)
  · have hb48 := ip q hb
    exact w0.tr (Tape_go_115_q hb48)
  · have hb49 := iq q hb
    by_cases q : (57 : Int32) < v1
    · have hb50 := ip q hb49
      exact w0.tr (Tape_go_115_q hb50)
    · have hb51 := iq q hb49
      exact w0.tr (Tape_go_116_q hb51)
set_option maxHeartbeats 1000000 in
set_option maxRecDepth 100000 in
noncomputable def Tape_go_97 (v0 : Nat) (v1 : Int32) (h : am_H) : Option am_H := Tape_go_98 v0 v1 (0 : Int32) h
set_option maxHeartbeats 1000000 in
set_option maxRecDepth 100000 in
theorem Tape_go_97_s {v0 : Nat} {v1 : Int32} {h : am_H} {r : am_H} (hb : Tape_go_97 v0 v1 h = some r) : Sx 0 mX8_go 97 [.ref v0, .int v1, .retAddr 0, .retAddr 0, .retAddr 0, .retAddr 0] [] h none r := by
  unfold Tape_go_97 at hb
  refine Sx.o (fun _ _ _ k => op_iconst (0 : Int32) dX8_go_97 (by decide) k) ?_
  exact Tape_go_98_s hb
set_option maxHeartbeats 1000000 in
set_option maxRecDepth 100000 in
theorem Tape_go_97_q {v0 : Nat} {v1 : Int32} {h : am_H} {r : am_H} (hb : Tape_go_97 v0 v1 h = some r) : Eqs h r := by
  unfold Tape_go_97 at hb
  have w0 := Eqs.rf h
  exact w0.tr (Tape_go_98_q hb)
set_option maxHeartbeats 1000000 in
set_option maxRecDepth 100000 in
noncomputable def Tape_go_46 (v0 : Nat) (h : am_H) : Option am_H := (gI h 8 v0 3).bind fun x52 => (gI h 8 v0 1).bind fun x54 => if x52 < x54 then (gR h 8 v0 0).bind fun x58 => (gI h 8 v0 3).bind fun x60 => (aI h 1 x58 x60).bind fun x62 => if x62 < (97 : Int32) then Tape_go_97 v0 x62 h else if (122 : Int32) < x62 then Tape_go_97 v0 x62 h else Tape_go_98 v0 x62 (1 : Int32) h else (pV h 8 v0 2 (.int (4 : Int32))).bind fun h68 => (gI h68 8 v0 3).bind fun x71 => (pV h68 8 v0 4 (.int x71)).bind fun h73 => some h73
set_option maxHeartbeats 1000000 in
set_option maxRecDepth 100000 in
theorem Tape_go_46_s {v0 : Nat} {h : am_H} {r : am_H} (hb : Tape_go_46 v0 h = some r) : Sx 0 mX8_go 46 [.ref v0, .retAddr 0, .retAddr 0, .retAddr 0, .retAddr 0, .retAddr 0] [] h none r := by
  unfold Tape_go_46 at hb
  refine Sx.o (fun _ _ _ k => ex_aload_n dX8_go_46 rfl rfl k) ?_
  obtain ⟨x52, e_x52, hb53⟩ := ob2 hb
  refine Sx.o (fun _ _ _ k => op_getI fX8_25 dX8_go_47 e_x52 k) ?_
  refine Sx.o (fun _ _ _ k => ex_aload_n dX8_go_50 rfl rfl k) ?_
  obtain ⟨x54, e_x54, hb55⟩ := ob2 hb53
  refine Sx.o (fun _ _ _ k => op_getI fX8_15 dX8_go_51 e_x54 k) ?_
  refine Sx.b (fun _ _ _ k1 k2 => ex_icmp_lt 71 dX8_go_54 (by decide) k1 k2) (fun q => ?_) (fun q => ?_)
  · have hb56 := ip q hb55
    refine Sx.o (fun _ _ _ k => ex_aload_n dX8_go_71 rfl rfl k) ?_
    obtain ⟨x58, e_x58, hb59⟩ := ob2 hb56
    refine Sx.o (fun _ _ _ k => op_getR fX8_9 dX8_go_72 e_x58 k) ?_
    refine Sx.o (fun _ _ _ k => ex_aload_n dX8_go_75 rfl rfl k) ?_
    obtain ⟨x60, e_x60, hb61⟩ := ob2 hb59
    refine Sx.o (fun _ _ _ k => op_getI fX8_25 dX8_go_76 e_x60 k) ?_
    obtain ⟨x62, e_x62, hb63⟩ := ob2 hb61
    refine Sx.o (fun _ _ _ k => op_bald dX8_go_79 e_x62 k) ?_
    refine Sx.o (L' := [.ref v0, .int x62, .retAddr 0, .retAddr 0, .retAddr 0, .retAddr 0]) (fun _ _ _ k => ex_istore_n dX8_go_80 (by decide) k) ?_
    refine Sx.o (fun _ _ _ k => ex_iload_n dX8_go_81 rfl k) ?_
    refine Sx.o (fun _ _ _ k => op_bipush (97 : Int32) dX8_go_82 (by decide) k) ?_
    refine Sx.b (fun _ _ _ k1 k2 => ex_icmp_lt 97 dX8_go_84 (by decide) k1 k2) (fun q => ?_) (fun q => ?_)
    · have hb64 := ip q hb63
      exact Tape_go_97_s hb64
    · have hb65 := iq q hb63
      refine Sx.o (fun _ _ _ k => ex_iload_n dX8_go_87 rfl k) ?_
      refine Sx.o (fun _ _ _ k => op_bipush (122 : Int32) dX8_go_88 (by decide) k) ?_
      refine Sx.b (fun _ _ _ k1 k2 => ex_icmp_gt 97 dX8_go_90 (by decide) k1 k2) (fun q => ?_) (fun q => ?_)
      · have hb66 := ip q hb65
        exact Tape_go_97_s hb66
      · have hb67 := iq q hb65
        refine Sx.o (fun _ _ _ k => op_iconst (1 : Int32) dX8_go_93 (by decide) k) ?_
        refine Sx.o (fun _ _ _ k => ex_goto 98 dX8_go_94 (by decide) k) ?_
        exact Tape_go_98_s hb67
  · have hb57 := iq q hb55
    refine Sx.o (fun _ _ _ k => ex_aload_n dX8_go_57 rfl rfl k) ?_
    refine Sx.o (fun _ _ _ k => op_iconst (4 : Int32) dX8_go_58 (by decide) k) ?_
    obtain ⟨h68, e_h68, hb69⟩ := ob2 hb57
    refine Sx.p (pV_q e_h68) (fun _ _ _ k => op_put pX8_28 dX8_go_59 e_h68 (fun _ => rfl) (fun _ => rfl) k) ?_
    refine Sx.o (fun _ _ _ k => ex_aload_n dX8_go_62 rfl rfl k) ?_
    refine Sx.o (fun _ _ _ k => ex_aload_n dX8_go_63 rfl rfl k) ?_
    obtain ⟨x71, e_x71, hb72⟩ := ob2 hb69
    refine Sx.o (fun _ _ _ k => op_getI fX8_25 dX8_go_64 e_x71 k) ?_
    obtain ⟨h73, e_h73, hb74⟩ := ob2 hb72
    refine Sx.p (pV_q e_h73) (fun _ _ _ k => op_put pX8_19 dX8_go_67 e_h73 (fun _ => rfl) (fun _ => rfl) k) ?_
    obtain rfl := Option.some.inj hb74
    exact Sx.r (fun _ _ _ k => ex_vret rfl dX8_go_70 k)
set_option maxHeartbeats 1000000 in
set_option maxRecDepth 100000 in
theorem Tape_go_46_q {v0 : Nat} {h : am_H} {r : am_H} (hb : Tape_go_46 v0 h = some r) : Eqs h r := by
  unfold Tape_go_46 at hb
  have w0 := Eqs.rf h
  obtain ⟨x52, e_x52, hb53⟩ := ob2 hb
  obtain ⟨x54, e_x54, hb55⟩ := ob2 hb53
  by_cases q : x52 < x54
  · have hb56 := ip q hb55
    obtain ⟨x58, e_x58, hb59⟩ := ob2 hb56
    obtain ⟨x60, e_x60, hb61⟩ := ob2 hb59
    obtain ⟨x62, e_x62, hb63⟩ := ob2 hb61
    by_cases q : x62 < (97 : Int32)
    · have hb64 := ip q hb63
      exact w0.tr (Tape_go_97_q hb64)
    · have hb65 := iq q hb63
      by_cases q : (122 : Int32) < x62
      · have hb66 := ip q hb65
        exact w0.tr (Tape_go_97_q hb66)
      · have hb67 := iq q hb65
        exact w0.tr (Tape_go_98_q hb67)
  · have hb57 := iq q hb55
    obtain ⟨h68, e_h68, hb69⟩ := ob2 hb57
    have w70 := w0.tr (pV_q e_h68)
    obtain ⟨x71, e_x71, hb72⟩ := ob2 hb69
    obtain ⟨h73, e_h73, hb74⟩ := ob2 hb72
    have w75 := w70.tr (pV_q e_h73)
    obtain rfl := Option.some.inj hb74
    exact w75
set_option maxHeartbeats 1000000 in
set_option maxRecDepth 100000 in
noncomputable def Tape_go_8_b (g : (Nat × Nat × am_H) → Option am_H) (v0 : Nat) (h : am_H) : Option am_H := (gI h 8 v0 3).bind fun x76 => (gI h 8 v0 1).bind fun x78 => if x78 ≤ x76 then Tape_go_46 v0 h else (gR h 8 v0 0).bind fun x82 => (gI h 8 v0 3).bind fun x84 => (aI h 1 x82 x84).bind fun x86 => if x86 = (32 : Int32) then (gI h 8 v0 3).bind fun x90 => (pV h 8 v0 3 (.int (x90 + (1 : Int32)))).bind fun h92 => g (8, v0, h92) else Tape_go_46 v0 h
set_option maxHeartbeats 1000000 in
set_option maxRecDepth 100000 in
theorem Tape_go_8_m {g g2 : (Nat × Nat × am_H) → Option am_H} (hg : ∀ s, Le (g s) (g2 s)) (v0 : Nat) (h : am_H) : Le (Tape_go_8_b g v0 h) (Tape_go_8_b g2 v0 h) := by unfold Tape_go_8_b; exact le_b (le_r _) fun x76 => le_b (le_r _) fun x78 => le_i (le_r _) (le_b (le_r _) fun x82 => le_b (le_r _) fun x84 => le_b (le_r _) fun x86 => le_i (le_b (le_r _) fun x90 => le_b (le_r _) fun h92 => hg _) (le_r _))
noncomputable def Tape_go_8_F (g : (Nat × Nat × am_H) → Option am_H) (s : (Nat × Nat × am_H)) : Option am_H := if s.1 = 8 then Tape_go_8_b g s.2.1 s.2.2 else none
theorem Tape_go_8_M : Mn Tape_go_8_F := fun g g2 hg s => by unfold Tape_go_8_F; exact le_i (Tape_go_8_m hg s.2.1 s.2.2) (le_r _)
def Tape_go_8_P (s : (Nat × Nat × am_H)) (r : am_H) : Prop := (s.1 = 8 → Sx 0 mX8_go 8 [.ref s.2.1, .retAddr 0, .retAddr 0, .retAddr 0, .retAddr 0, .retAddr 0] [] s.2.2 none r) ∧ True
set_option maxHeartbeats 1000000 in
set_option maxRecDepth 100000 in
theorem Tape_go_8_t {g : (Nat × Nat × am_H) → Option am_H} (hg : ∀ s r, g s = some r → Tape_go_8_P s r) {v0 : Nat} {h : am_H} {r : am_H} (hb : Tape_go_8_b g v0 h = some r) : Sx 0 mX8_go 8 [.ref v0, .retAddr 0, .retAddr 0, .retAddr 0, .retAddr 0, .retAddr 0] [] h none r := by
  unfold Tape_go_8_b at hb
  refine Sx.o (fun _ _ _ k => ex_aload_n dX8_go_8 rfl rfl k) ?_
  obtain ⟨x76, e_x76, hb77⟩ := ob2 hb
  refine Sx.o (fun _ _ _ k => op_getI fX8_25 dX8_go_9 e_x76 k) ?_
  refine Sx.o (fun _ _ _ k => ex_aload_n dX8_go_12 rfl rfl k) ?_
  obtain ⟨x78, e_x78, hb79⟩ := ob2 hb77
  refine Sx.o (fun _ _ _ k => op_getI fX8_15 dX8_go_13 e_x78 k) ?_
  refine Sx.b (fun _ _ _ k1 k2 => ex_icmp_ge 46 dX8_go_16 (by decide) k1 k2) (fun q => ?_) (fun q => ?_)
  · have hb80 := ip q hb79
    exact Tape_go_46_s hb80
  · have hb81 := iq q hb79
    refine Sx.o (fun _ _ _ k => ex_aload_n dX8_go_19 rfl rfl k) ?_
    obtain ⟨x82, e_x82, hb83⟩ := ob2 hb81
    refine Sx.o (fun _ _ _ k => op_getR fX8_9 dX8_go_20 e_x82 k) ?_
    refine Sx.o (fun _ _ _ k => ex_aload_n dX8_go_23 rfl rfl k) ?_
    obtain ⟨x84, e_x84, hb85⟩ := ob2 hb83
    refine Sx.o (fun _ _ _ k => op_getI fX8_25 dX8_go_24 e_x84 k) ?_
    obtain ⟨x86, e_x86, hb87⟩ := ob2 hb85
    refine Sx.o (fun _ _ _ k => op_bald dX8_go_27 e_x86 k) ?_
    refine Sx.o (fun _ _ _ k => op_bipush (32 : Int32) dX8_go_28 (by decide) k) ?_
    refine Sx.bn (fun _ _ _ k1 k2 => ex_icmp_ne 46 dX8_go_30 (by decide) k1 k2) (fun q => ?_) (fun q => ?_)
    · have hb88 := iq q hb87
      exact Tape_go_46_s hb88
    · have hb89 := ip q hb87
      refine Sx.o (fun _ _ _ k => ex_aload_n dX8_go_33 rfl rfl k) ?_
      refine Sx.o (fun _ _ _ k => ex_dup dX8_go_34 rfl k) ?_
      obtain ⟨x90, e_x90, hb91⟩ := ob2 hb89
      refine Sx.o (fun _ _ _ k => op_getI fX8_25 dX8_go_35 e_x90 k) ?_
      refine Sx.o (fun _ _ _ k => op_iconst (1 : Int32) dX8_go_38 (by decide) k) ?_
      refine Sx.o (fun _ _ _ k => ex_iadd dX8_go_39 k) ?_
      obtain ⟨h92, e_h92, hb93⟩ := ob2 hb91
      refine Sx.p (pV_q e_h92) (fun _ _ _ k => op_put pX8_25 dX8_go_40 e_h92 (fun _ => rfl) (fun _ => rfl) k) ?_
      refine Sx.o (fun _ _ _ k => ex_goto 8 dX8_go_43 (by decide) k) ?_
      exact (hg _ _ hb93).1 rfl
theorem Tape_go_8_T : ∀ s r, fx Tape_go_8_F Tape_go_8_M s = some r → Tape_go_8_P s r := fx_ind Tape_go_8_M Tape_go_8_P (fun g hg s r hb => by
  unfold Tape_go_8_F at hb
  exact ⟨fun q => Tape_go_8_t hg (ip q hb), trivial⟩)
set_option maxHeartbeats 1000000 in
set_option maxRecDepth 100000 in
theorem Tape_go_8_r {g : (Nat × Nat × am_H) → Option am_H} (hg : ∀ s r, g s = some r → Eqs s.2.2 r) {v0 : Nat} {h : am_H} {r : am_H} (hb : Tape_go_8_b g v0 h = some r) : Eqs h r := by
  unfold Tape_go_8_b at hb
  have w0 := Eqs.rf h
  obtain ⟨x76, e_x76, hb77⟩ := ob2 hb
  obtain ⟨x78, e_x78, hb79⟩ := ob2 hb77
  by_cases q : x78 ≤ x76
  · have hb80 := ip q hb79
    exact w0.tr (Tape_go_46_q hb80)
  · have hb81 := iq q hb79
    obtain ⟨x82, e_x82, hb83⟩ := ob2 hb81
    obtain ⟨x84, e_x84, hb85⟩ := ob2 hb83
    obtain ⟨x86, e_x86, hb87⟩ := ob2 hb85
    by_cases q : x86 = (32 : Int32)
    · have hb89 := ip q hb87
      obtain ⟨x90, e_x90, hb91⟩ := ob2 hb89
      obtain ⟨h92, e_h92, hb93⟩ := ob2 hb91
      have w94 := w0.tr (pV_q e_h92)
      exact w94.tr (hg _ _ hb93)
    · have hb88 := iq q hb87
      exact w0.tr (Tape_go_46_q hb88)
theorem Tape_go_8_Q : ∀ s r, fx Tape_go_8_F Tape_go_8_M s = some r → Eqs s.2.2 r := fx_ind Tape_go_8_M (fun s r => Eqs s.2.2 r) (fun g hg s r hb => by
  unfold Tape_go_8_F at hb
  by_cases q0 : s.1 = 8
  · exact Tape_go_8_r hg (ip q0 hb)
  · have hb0 := iq q0 hb
    exact nomatch hb0)
noncomputable def Tape_go_8 (v0 : Nat) (h : am_H) : Option am_H := fx Tape_go_8_F Tape_go_8_M (8, v0, h)
set_option maxHeartbeats 1000000 in
set_option maxRecDepth 100000 in
theorem Tape_go_8_e (v0 : Nat) (h : am_H) : Tape_go_8 v0 h = ((gI h 8 v0 3).bind fun x76 => (gI h 8 v0 1).bind fun x78 => if x78 ≤ x76 then Tape_go_46 v0 h else (gR h 8 v0 0).bind fun x82 => (gI h 8 v0 3).bind fun x84 => (aI h 1 x82 x84).bind fun x86 => if x86 = (32 : Int32) then (gI h 8 v0 3).bind fun x90 => (pV h 8 v0 3 (.int (x90 + (1 : Int32)))).bind fun h92 => Tape_go_8 v0 h92 else Tape_go_46 v0 h) := (fx_eq Tape_go_8_M (8, v0, h)).trans (if_pos rfl)
theorem Tape_go_8_q {v0 : Nat} {h : am_H} {r : am_H} (hb : Tape_go_8 v0 h = some r) : Eqs h r := Tape_go_8_Q _ _ hb
theorem Tape_go_8_s {v0 : Nat} {h : am_H} {r : am_H} (hb : Tape_go_8 v0 h = some r) : Sx 0 mX8_go 8 [.ref v0, .retAddr 0, .retAddr 0, .retAddr 0, .retAddr 0, .retAddr 0] [] h none r := (Tape_go_8_T _ _ hb).1 rfl
set_option maxHeartbeats 1000000 in
set_option maxRecDepth 100000 in
noncomputable def Tape_go (v0 : Nat) (h : am_H) : Option am_H := if isO h 8 v0 = true then (gI h 8 v0 4).bind fun x95 => (pV h 8 v0 3 (.int x95)).bind fun h97 => Tape_go_8 v0 h97 else none
set_option maxHeartbeats 1000000 in
set_option maxRecDepth 100000 in
theorem Tape_go_s {v0 : Nat} {h : am_H} {r : am_H} (hb : Tape_go v0 h = some r) : Sx 0 mX8_go 0 (am_en [.ref v0] 6) [] h none r := by
  unfold Tape_go at hb
  have hb := (iz hb).2
  show Sx 0 mX8_go 0 [.ref v0, .retAddr 0, .retAddr 0, .retAddr 0, .retAddr 0, .retAddr 0] [] h none r
  refine Sx.o (fun _ _ _ k => ex_aload_n dX8_go_0 rfl rfl k) ?_
  refine Sx.o (fun _ _ _ k => ex_aload_n dX8_go_1 rfl rfl k) ?_
  obtain ⟨x95, e_x95, hb96⟩ := ob2 hb
  refine Sx.o (fun _ _ _ k => op_getI fX8_19 dX8_go_2 e_x95 k) ?_
  obtain ⟨h97, e_h97, hb98⟩ := ob2 hb96
  refine Sx.p (pV_q e_h97) (fun _ _ _ k => op_put pX8_25 dX8_go_5 e_h97 (fun _ => rfl) (fun _ => rfl) k) ?_
  exact Tape_go_8_s hb98
set_option maxHeartbeats 1000000 in
set_option maxRecDepth 100000 in
theorem Tape_go_q {v0 : Nat} {h : am_H} {r : am_H} (hb : Tape_go v0 h = some r) : Eqs h r := by
  unfold Tape_go at hb
  have hb := (iz hb).2
  have w0 := Eqs.rf h
  obtain ⟨x95, e_x95, hb96⟩ := ob2 hb
  obtain ⟨h97, e_h97, hb98⟩ := ob2 hb96
  have w99 := w0.tr (pV_q e_h97)
  exact w99.tr (Tape_go_8_q hb98)
theorem Tape_go_o {v0 : Nat} {h : am_H} {r : am_H} (hb : Tape_go v0 h = some r) : isO h 8 v0 = true := by
  unfold Tape_go at hb
  exact (iz hb).1
set_option maxHeartbeats 1000000 in
set_option maxRecDepth 100000 in
noncomputable def Tape_among_22_b (g : (Nat × Int32 × Int32 × Int32 × Int32 × Nat × Nat × am_H) → Option Int32) (v0 : Nat) (v1 : Nat) (v2 : Int32) (v3 : Int32) (v4 : Int32) (v5 : Int32) (h : am_H) : Option Int32 := (Str_length v1 h).bind fun x1 => if x1 < v5 then some (-1 : Int32) else (gI h 8 v0 2).bind fun x5 => if x5 = (1 : Int32) then (Str_length v1 h).bind fun x9 => if v5 = x9 then g (59, v2, v3, v4, v5, v0, v1, h) else (Str_charAt v1 v5 h).bind fun x13 => if x13 = (32 : Int32) then g (59, v2, v3, v4, v5, v0, v1, h) else (gI h 8 v0 3).bind fun x17 => if v4 = (0 : Int32) then g (150, v2, v3, v5, 0, v0, v1, h) else (gI h 8 v0 4).bind fun x21 => if x21 ≤ ((x17 + v5) - v3) then g (150, v2, v3, v5, 0, v0, v1, h) else (gI h 8 v0 1).bind fun x25 => if x25 ≤ ((x17 + v5) - v3) then g (150, v2, v3, v5, 0, v0, v1, h) else (gR h 8 v0 0).bind fun x29 => (aI h 1 x29 ((x17 + v5) - v3)).bind fun x31 => (Str_charAt v1 v5 h).bind fun x33 => if x31 = x33 then g (151, v2, v3, v5, (1 : Int32), v0, v1, h) else g (150, v2, v3, v5, 0, v0, v1, h) else some (-1 : Int32)
set_option maxHeartbeats 1000000 in
set_option maxRecDepth 100000 in
theorem Tape_among_22_m {g g2 : (Nat × Int32 × Int32 × Int32 × Int32 × Nat × Nat × am_H) → Option Int32} (hg : ∀ s, Le (g s) (g2 s)) (v0 : Nat) (v1 : Nat) (v2 : Int32) (v3 : Int32) (v4 : Int32) (v5 : Int32) (h : am_H) : Le (Tape_among_22_b g v0 v1 v2 v3 v4 v5 h) (Tape_among_22_b g2 v0 v1 v2 v3 v4 v5 h) := by unfold Tape_among_22_b; exact le_b (le_r _) fun x1 => le_i (le_r _) (le_b (le_r _) fun x5 => le_i (le_b (le_r _) fun x9 => le_i (hg _) (le_b (le_r _) fun x13 => le_i (hg _) (le_b (le_r _) fun x17 => le_i (hg _) (le_b (le_r _) fun x21 => le_i (hg _) (le_b (le_r _) fun x25 => le_i (hg _) (le_b (le_r _) fun x29 => le_b (le_r _) fun x31 => le_b (le_r _) fun x33 => le_i (hg _) (hg _))))))) (le_r _))
set_option maxHeartbeats 1000000 in
set_option maxRecDepth 100000 in
noncomputable def Tape_among_59_b (g : (Nat × Int32 × Int32 × Int32 × Int32 × Nat × Nat × am_H) → Option Int32) (v0 : Nat) (v1 : Nat) (v2 : Int32) (v3 : Int32) (v4 : Int32) (v5 : Int32) (h : am_H) : Option Int32 := if v4 = (0 : Int32) then g (82, v2, v5, 0, 0, v0, v1, h) else (gI h 8 v0 4).bind fun x39 => (gI h 8 v0 3).bind fun x41 => if (v5 - v3) = (x39 - x41) then some v2 else g (82, v2, v5, 0, 0, v0, v1, h)
set_option maxHeartbeats 1000000 in
set_option maxRecDepth 100000 in
theorem Tape_among_59_m {g g2 : (Nat × Int32 × Int32 × Int32 × Int32 × Nat × Nat × am_H) → Option Int32} (hg : ∀ s, Le (g s) (g2 s)) (v0 : Nat) (v1 : Nat) (v2 : Int32) (v3 : Int32) (v4 : Int32) (v5 : Int32) (h : am_H) : Le (Tape_among_59_b g v0 v1 v2 v3 v4 v5 h) (Tape_among_59_b g2 v0 v1 v2 v3 v4 v5 h) := by unfold Tape_among_59_b; exact le_i (hg _) (le_b (le_r _) fun x39 => le_b (le_r _) fun x41 => le_i (le_r _) (hg _))
set_option maxHeartbeats 1000000 in
set_option maxRecDepth 100000 in
noncomputable def Tape_among_82_b (g : (Nat × Int32 × Int32 × Int32 × Int32 × Nat × Nat × am_H) → Option Int32) (v0 : Nat) (v1 : Nat) (v2 : Int32) (v5 : Int32) (h : am_H) : Option Int32 := g (153, (v2 + (1 : Int32)), (v5 + (1 : Int32)), (1 : Int32), v5, v0, v1, h)
set_option maxHeartbeats 1000000 in
set_option maxRecDepth 100000 in
theorem Tape_among_82_m {g g2 : (Nat × Int32 × Int32 × Int32 × Int32 × Nat × Nat × am_H) → Option Int32} (hg : ∀ s, Le (g s) (g2 s)) (v0 : Nat) (v1 : Nat) (v2 : Int32) (v5 : Int32) (h : am_H) : Le (Tape_among_82_b g v0 v1 v2 v5 h) (Tape_among_82_b g2 v0 v1 v2 v5 h) := by unfold Tape_among_82_b; exact hg _
set_option maxHeartbeats 1000000 in
set_option maxRecDepth 100000 in
noncomputable def Tape_among_150_b (g : (Nat × Int32 × Int32 × Int32 × Int32 × Nat × Nat × am_H) → Option Int32) (v0 : Nat) (v1 : Nat) (v2 : Int32) (v3 : Int32) (v5 : Int32) (h : am_H) : Option Int32 := g (151, v2, v3, v5, (0 : Int32), v0, v1, h)
set_option maxHeartbeats 1000000 in
set_option maxRecDepth 100000 in
theorem Tape_among_150_m {g g2 : (Nat × Int32 × Int32 × Int32 × Int32 × Nat × Nat × am_H) → Option Int32} (hg : ∀ s, Le (g s) (g2 s)) (v0 : Nat) (v1 : Nat) (v2 : Int32) (v3 : Int32) (v5 : Int32) (h : am_H) : Le (Tape_among_150_b g v0 v1 v2 v3 v5 h) (Tape_among_150_b g2 v0 v1 v2 v3 v5 h) := by unfold Tape_among_150_b; exact hg _
set_option maxHeartbeats 1000000 in
set_option maxRecDepth 100000 in
noncomputable def Tape_among_151_b (g : (Nat × Int32 × Int32 × Int32 × Int32 × Nat × Nat × am_H) → Option Int32) (v0 : Nat) (v1 : Nat) (v2 : Int32) (v3 : Int32) (v5 : Int32) (s0 : Int32) (h : am_H) : Option Int32 := g (153, v2, v3, s0, v5, v0, v1, h)
set_option maxHeartbeats 1000000 in
set_option maxRecDepth 100000 in
theorem Tape_among_151_m {g g2 : (Nat × Int32 × Int32 × Int32 × Int32 × Nat × Nat × am_H) → Option Int32} (hg : ∀ s, Le (g s) (g2 s)) (v0 : Nat) (v1 : Nat) (v2 : Int32) (v3 : Int32) (v5 : Int32) (s0 : Int32) (h : am_H) : Le (Tape_among_151_b g v0 v1 v2 v3 v5 s0 h) (Tape_among_151_b g2 v0 v1 v2 v3 v5 s0 h) := by unfold Tape_among_151_b; exact hg _
set_option maxHeartbeats 1000000 in
set_option maxRecDepth 100000 in
noncomputable def Tape_among_153_b (g : (Nat × Int32 × Int32 × Int32 × Int32 × Nat × Nat × am_H) → Option Int32) (v0 : Nat) (v1 : Nat) (v2 : Int32) (v3 : Int32) (v4 : Int32) (v5 : Int32) (h : am_H) : Option Int32 := g (22, v2, v3, v4, (v5 + (1 : Int32)), v0, v1, h)
set_option maxHeartbeats 1000000 in
set_option maxRecDepth 100000 in
theorem Tape_among_153_m {g g2 : (Nat × Int32 × Int32 × Int32 × Int32 × Nat × Nat × am_H) → Option Int32} (hg : ∀ s, Le (g s) (g2 s)) (v0 : Nat) (v1 : Nat) (v2 : Int32) (v3 : Int32) (v4 : Int32) (v5 : Int32) (h : am_H) : Le (Tape_among_153_b g v0 v1 v2 v3 v4 v5 h) (Tape_among_153_b g2 v0 v1 v2 v3 v4 v5 h) := by unfold Tape_among_153_b; exact hg _
noncomputable def Tape_among_22_F (g : (Nat × Int32 × Int32 × Int32 × Int32 × Nat × Nat × am_H) → Option Int32) (s : (Nat × Int32 × Int32 × Int32 × Int32 × Nat × Nat × am_H)) : Option Int32 := if s.1 = 22 then Tape_among_22_b g s.2.2.2.2.2.1 s.2.2.2.2.2.2.1 s.2.1 s.2.2.1 s.2.2.2.1 s.2.2.2.2.1 s.2.2.2.2.2.2.2 else if s.1 = 59 then Tape_among_59_b g s.2.2.2.2.2.1 s.2.2.2.2.2.2.1 s.2.1 s.2.2.1 s.2.2.2.1 s.2.2.2.2.1 s.2.2.2.2.2.2.2 else if s.1 = 82 then Tape_among_82_b g s.2.2.2.2.2.1 s.2.2.2.2.2.2.1 s.2.1 s.2.2.1 s.2.2.2.2.2.2.2 else if s.1 = 150 then Tape_among_150_b g s.2.2.2.2.2.1 s.2.2.2.2.2.2.1 s.2.1 s.2.2.1 s.2.2.2.1 s.2.2.2.2.2.2.2 else if s.1 = 151 then Tape_among_151_b g s.2.2.2.2.2.1 s.2.2.2.2.2.2.1 s.2.1 s.2.2.1 s.2.2.2.1 s.2.2.2.2.1 s.2.2.2.2.2.2.2 else if s.1 = 153 then Tape_among_153_b g s.2.2.2.2.2.1 s.2.2.2.2.2.2.1 s.2.1 s.2.2.1 s.2.2.2.1 s.2.2.2.2.1 s.2.2.2.2.2.2.2 else none
theorem Tape_among_22_M : Mn Tape_among_22_F := fun g g2 hg s => by unfold Tape_among_22_F; exact le_i (Tape_among_22_m hg s.2.2.2.2.2.1 s.2.2.2.2.2.2.1 s.2.1 s.2.2.1 s.2.2.2.1 s.2.2.2.2.1 s.2.2.2.2.2.2.2) (le_i (Tape_among_59_m hg s.2.2.2.2.2.1 s.2.2.2.2.2.2.1 s.2.1 s.2.2.1 s.2.2.2.1 s.2.2.2.2.1 s.2.2.2.2.2.2.2) (le_i (Tape_among_82_m hg s.2.2.2.2.2.1 s.2.2.2.2.2.2.1 s.2.1 s.2.2.1 s.2.2.2.2.2.2.2) (le_i (Tape_among_150_m hg s.2.2.2.2.2.1 s.2.2.2.2.2.2.1 s.2.1 s.2.2.1 s.2.2.2.1 s.2.2.2.2.2.2.2) (le_i (Tape_among_151_m hg s.2.2.2.2.2.1 s.2.2.2.2.2.2.1 s.2.1 s.2.2.1 s.2.2.2.1 s.2.2.2.2.1 s.2.2.2.2.2.2.2) (le_i (Tape_among_153_m hg s.2.2.2.2.2.1 s.2.2.2.2.2.2.1 s.2.1 s.2.2.1 s.2.2.2.1 s.2.2.2.2.1 s.2.2.2.2.2.2.2) (le_r _))))))
def Tape_among_22_P (s : (Nat × Int32 × Int32 × Int32 × Int32 × Nat × Nat × am_H)) (r : Int32) : Prop := (s.1 = 22 → Sx 4 mX8_among 22 [.ref s.2.2.2.2.2.1, am_s s.2.2.2.2.2.2.1, .int s.2.1, .int s.2.2.1, .int s.2.2.2.1, .int s.2.2.2.2.1, .retAddr 0] [] s.2.2.2.2.2.2.2 (some (.int r)) s.2.2.2.2.2.2.2) ∧ (s.1 = 59 → Sx 4 mX8_among 59 [.ref s.2.2.2.2.2.1, am_s s.2.2.2.2.2.2.1, .int s.2.1, .int s.2.2.1, .int s.2.2.2.1, .int s.2.2.2.2.1, .retAddr 0] [] s.2.2.2.2.2.2.2 (some (.int r)) s.2.2.2.2.2.2.2) ∧ (s.1 = 82 → Sx 4 mX8_among 82 [.ref s.2.2.2.2.2.1, am_s s.2.2.2.2.2.2.1, .int s.2.1, .retAddr 0, .retAddr 0, .int s.2.2.1, .retAddr 0] [] s.2.2.2.2.2.2.2 (some (.int r)) s.2.2.2.2.2.2.2) ∧ (s.1 = 150 → Sx 4 mX8_among 150 [.ref s.2.2.2.2.2.1, am_s s.2.2.2.2.2.2.1, .int s.2.1, .int s.2.2.1, .retAddr 0, .int s.2.2.2.1, .retAddr 0] [] s.2.2.2.2.2.2.2 (some (.int r)) s.2.2.2.2.2.2.2) ∧ (s.1 = 151 → Sx 4 mX8_among 151 [.ref s.2.2.2.2.2.1, am_s s.2.2.2.2.2.2.1, .int s.2.1, .int s.2.2.1, .retAddr 0, .int s.2.2.2.1, .retAddr 0] [.int s.2.2.2.2.1] s.2.2.2.2.2.2.2 (some (.int r)) s.2.2.2.2.2.2.2) ∧ (s.1 = 153 → Sx 4 mX8_among 153 [.ref s.2.2.2.2.2.1, am_s s.2.2.2.2.2.2.1, .int s.2.1, .int s.2.2.1, .int s.2.2.2.1, .int s.2.2.2.2.1, .retAddr 0] [] s.2.2.2.2.2.2.2 (some (.int r)) s.2.2.2.2.2.2.2) ∧ True
set_option maxHeartbeats 1000000 in
set_option maxRecDepth 100000 in
theorem Tape_among_22_t {g : (Nat × Int32 × Int32 × Int32 × Int32 × Nat × Nat × am_H) → Option Int32} (hg : ∀ s r, g s = some r → Tape_among_22_P s r) {v0 : Nat} {v1 : Nat} {v2 : Int32} {v3 : Int32} {v4 : Int32} {v5 : Int32} {h : am_H} {r : Int32} (hb : Tape_among_22_b g v0 v1 v2 v3 v4 v5 h = some r) : Sx 4 mX8_among 22 [.ref v0, am_s v1, .int v2, .int v3, .int v4, .int v5, .retAddr 0] [] h (some (.int r)) h := by
  unfold Tape_among_22_b at hb
  refine Sx.o (fun _ _ _ k => ex_iload dX8_among_22 rfl k) ?_
  refine Sx.o (fun _ _ _ k => ex_aload_n dX8_among_24 rfl rfl k) ?_
  obtain ⟨x1, e_x1, hb2⟩ := ob2 hb
  refine sx_callX (as := []) (stq := [.int x1, .int v5]) (Str_length_o e_x1) (by omega) dX8_among_25 MJ0_length_8abf5 kX8_35 iJ0_length_8abf5 sJ0_length_8abf5 rfl rfl rfl (Nat.le_of_ble_eq_true rfl) (Nat.le_of_ble_eq_true rfl) (Str_length_s e_x1) rfl ?_
  refine Sx.b (fun _ _ _ k1 k2 => ex_icmp_gt 159 dX8_among_28 (by decide) k1 k2) (fun q => ?_) (fun q => ?_)
  · have hb3 := ip q hb2
    refine Sx.o (fun _ _ _ k => op_iconst (-1 : Int32) dX8_among_159 (by decide) k) ?_
    obtain rfl := Option.some.inj hb3
    exact Sx.r (fun _ _ _ k => ex_iret rfl dX8_among_160 k)
  · have hb4 := iq q hb2
    refine Sx.o (fun _ _ _ k => ex_aload_n dX8_among_31 rfl rfl k) ?_
    obtain ⟨x5, e_x5, hb6⟩ := ob2 hb4
    refine Sx.o (fun _ _ _ k => op_getI fX8_28 dX8_among_32 e_x5 k) ?_
    refine Sx.o (fun _ _ _ k => op_iconst (1 : Int32) dX8_among_35 (by decide) k) ?_
    refine Sx.bn (fun _ _ _ k1 k2 => ex_icmp_ne 159 dX8_among_36 (by decide) k1 k2) (fun q => ?_) (fun q => ?_)
    · have hb7 := iq q hb6
      refine Sx.o (fun _ _ _ k => op_iconst (-1 : Int32) dX8_among_159 (by decide) k) ?_
      obtain rfl := Option.some.inj hb7
      exact Sx.r (fun _ _ _ k => ex_iret rfl dX8_among_160 k)
    · have hb8 := ip q hb6
      refine Sx.o (fun _ _ _ k => ex_iload dX8_among_39 rfl k) ?_
      refine Sx.o (fun _ _ _ k => ex_aload_n dX8_among_41 rfl rfl k) ?_
      obtain ⟨x9, e_x9, hb10⟩ := ob2 hb8
      refine sx_callX (as := []) (stq := [.int x9, .int v5]) (Str_length_o e_x9) (by omega) dX8_among_42 MJ0_length_8abf5 kX8_35 iJ0_length_8abf5 sJ0_length_8abf5 rfl rfl rfl (Nat.le_of_ble_eq_true rfl) (Nat.le_of_ble_eq_true rfl) (Str_length_s e_x9) rfl ?_
      refine Sx.b (fun _ _ _ k1 k2 => ex_icmp_eq 59 dX8_among_45 (by decide) k1 k2) (fun q => ?_) (fun q => ?_)
      · have hb11 := ip q hb10
        exact (hg _ _ hb11).2.1 rfl
      · have hb12 := iq q hb10
        refine Sx.o (fun _ _ _ k => ex_aload_n dX8_among_48 rfl rfl k) ?_
        refine Sx.o (fun _ _ _ k => ex_iload dX8_among_49 rfl k) ?_
        obtain ⟨x13, e_x13, hb14⟩ := ob2 hb12
        refine sx_callX (as := [.int v5]) (stq := [.int x13]) (Str_charAt_o e_x13) (by omega) dX8_among_51 MJ0_charAt_5068e kX8_40 iJ0_charAt_5068e sJ0_charAt_5068e rfl rfl rfl (Nat.le_of_ble_eq_true rfl) (Nat.le_of_ble_eq_true rfl) (Str_charAt_s e_x13) rfl ?_
        refine Sx.o (fun _ _ _ k => op_bipush (32 : Int32) dX8_among_54 (by decide) k) ?_
        refine Sx.bn (fun _ _ _ k1 k2 => ex_icmp_ne 96 dX8_among_56 (by decide) k1 k2) (fun q => ?_) (fun q => ?_)
        · have hb15 := iq q hb14
          refine Sx.o (fun _ _ _ k => ex_aload_n dX8_among_96 rfl rfl k) ?_
          obtain ⟨x17, e_x17, hb18⟩ := ob2 hb15
          refine Sx.o (fun _ _ _ k => op_getI fX8_25 dX8_among_97 e_x17 k) ?_
          refine Sx.o (fun _ _ _ k => ex_iload dX8_among_100 rfl k) ?_
          refine Sx.o (fun _ _ _ k => ex_iadd dX8_among_102 k) ?_
          refine Sx.o (fun _ _ _ k => ex_iload_n dX8_among_103 rfl k) ?_
          refine Sx.o (fun _ _ _ k => ex_isub dX8_among_104 k) ?_
          refine Sx.o (L' := [.ref v0, am_s v1, .int v2, .int v3, .int v4, .int v5, .int ((x17 + v5) - v3)]) (fun _ _ _ k => ex_istore dX8_among_105 (by decide) k) ?_
          refine Sx.o (fun _ _ _ k => ex_iload dX8_among_107 rfl k) ?_
          refine Sx.b (fun _ _ _ k1 k2 => ex_if_eq 150 dX8_among_109 (by decide) k1 k2) (fun q => ?_) (fun q => ?_)
          · have hb19 := ip q hb18
            refine Sx.fg [true, true, true, true, false, true, false] ?_
            exact (hg _ _ hb19).2.2.2.1 rfl
          · have hb20 := iq q hb18
            refine Sx.o (fun _ _ _ k => ex_iload dX8_among_112 rfl k) ?_
            refine Sx.o (fun _ _ _ k => ex_aload_n dX8_among_114 rfl rfl k) ?_
            obtain ⟨x21, e_x21, hb22⟩ := ob2 hb20
            refine Sx.o (fun _ _ _ k => op_getI fX8_19 dX8_among_115 e_x21 k) ?_
            refine Sx.b (fun _ _ _ k1 k2 => ex_icmp_ge 150 dX8_among_118 (by decide) k1 k2) (fun q => ?_) (fun q => ?_)
            · have hb23 := ip q hb22
              refine Sx.fg [true, true, true, true, false, true, false] ?_
              exact (hg _ _ hb23).2.2.2.1 rfl
            · have hb24 := iq q hb22
              refine Sx.o (fun _ _ _ k => ex_iload dX8_among_121 rfl k) ?_
              refine Sx.o (fun _ _ _ k => ex_aload_n dX8_among_123 rfl rfl k) ?_
              obtain ⟨x25, e_x25, hb26⟩ := ob2 hb24
              refine Sx.o (fun _ _ _ k => op_getI fX8_15 dX8_among_124 e_x25 k) ?_
              refine Sx.b (fun _ _ _ k1 k2 => ex_icmp_ge 150 dX8_among_127 (by decide) k1 k2) (fun q => ?_) (fun q => ?_)
              · have hb27 := ip q hb26
                refine Sx.fg [true, true, true, true, false, true, false] ?_
                exact (hg _ _ hb27).2.2.2.1 rfl
              · have hb28 := iq q hb26
                refine Sx.o (fun _ _ _ k => ex_aload_n dX8_among_130 rfl rfl k) ?_
                obtain ⟨x29, e_x29, hb30⟩ := ob2 hb28
                refine Sx.o (fun _ _ _ k => op_getR fX8_9 dX8_among_131 e_x29 k) ?_
                refine Sx.o (fun _ _ _ k => ex_iload dX8_among_134 rfl k) ?_
                obtain ⟨x31, e_x31, hb32⟩ := ob2 hb30
                refine Sx.o (fun _ _ _ k => op_bald dX8_among_136 e_x31 k) ?_
                refine Sx.o (fun _ _ _ k => ex_aload_n dX8_among_137 rfl rfl k) ?_
                refine Sx.o (fun _ _ _ k => ex_iload dX8_among_138 rfl k) ?_
                obtain ⟨x33, e_x33, hb34⟩ := ob2 hb32
                refine sx_callX (as := [.int v5]) (stq := [.int x33, .int x31]) (Str_charAt_o e_x33) (by omega) dX8_among_140 MJ0_charAt_5068e kX8_40 iJ0_charAt_5068e sJ0_charAt_5068e rfl rfl rfl (Nat.le_of_ble_eq_true rfl) (Nat.le_of_ble_eq_true rfl) (Str_charAt_s e_x33) rfl ?_
                refine Sx.bn (fun _ _ _ k1 k2 => ex_icmp_ne 150 dX8_among_143 (by decide) k1 k2) (fun q => ?_) (fun q => ?_)
                · have hb35 := iq q hb34
                  refine Sx.fg [true, true, true, true, false, true, false] ?_
                  exact (hg _ _ hb35).2.2.2.1 rfl
                · have hb36 := ip q hb34
                  refine Sx.o (fun _ _ _ k => op_iconst (1 : Int32) dX8_among_146 (by decide) k) ?_
                  refine Sx.o (fun _ _ _ k => ex_goto 151 dX8_among_147 (by decide) k) ?_
                  refine Sx.fg [true, true, true, true, false, true, false] ?_
                  exact (hg _ _ hb36).2.2.2.2.1 rfl
        · have hb16 := ip q hb14
          exact (hg _ _ hb16).2.1 rfl
set_option maxHeartbeats 1000000 in
set_option maxRecDepth 100000 in
theorem Tape_among_59_t {g : (Nat × Int32 × Int32 × Int32 × Int32 × Nat × Nat × am_H) → Option Int32} (hg : ∀ s r, g s = some r → Tape_among_22_P s r) {v0 : Nat} {v1 : Nat} {v2 : Int32} {v3 : Int32} {v4 : Int32} {v5 : Int32} {h : am_H} {r : Int32} (hb : Tape_among_59_b g v0 v1 v2 v3 v4 v5 h = some r) : Sx 4 mX8_among 59 [.ref v0, am_s v1, .int v2, .int v3, .int v4, .int v5, .retAddr 0] [] h (some (.int r)) h := by
  unfold Tape_among_59_b at hb
  refine Sx.o (fun _ _ _ k => ex_iload dX8_among_59 rfl k) ?_
  refine Sx.b (fun _ _ _ k1 k2 => ex_if_eq 82 dX8_among_61 (by decide) k1 k2) (fun q => ?_) (fun q => ?_)
  · have hb37 := ip q hb
    refine Sx.fg [true, true, true, false, false, true, true] ?_
    exact (hg _ _ hb37).2.2.1 rfl
  · have hb38 := iq q hb
    refine Sx.o (fun _ _ _ k => ex_iload dX8_among_64 rfl k) ?_
    refine Sx.o (fun _ _ _ k => ex_iload_n dX8_among_66 rfl k) ?_
    refine Sx.o (fun _ _ _ k => ex_isub dX8_among_67 k) ?_
    refine Sx.o (fun _ _ _ k => ex_aload_n dX8_among_68 rfl rfl k) ?_
    obtain ⟨x39, e_x39, hb40⟩ := ob2 hb38
    refine Sx.o (fun _ _ _ k => op_getI fX8_19 dX8_among_69 e_x39 k) ?_
    refine Sx.o (fun _ _ _ k => ex_aload_n dX8_among_72 rfl rfl k) ?_
    obtain ⟨x41, e_x41, hb42⟩ := ob2 hb40
    refine Sx.o (fun _ _ _ k => op_getI fX8_25 dX8_among_73 e_x41 k) ?_
    refine Sx.o (fun _ _ _ k => ex_isub dX8_among_76 k) ?_
    refine Sx.bn (fun _ _ _ k1 k2 => ex_icmp_ne 82 dX8_among_77 (by decide) k1 k2) (fun q => ?_) (fun q => ?_)
    · have hb43 := iq q hb42
      refine Sx.fg [true, true, true, false, false, true, true] ?_
      exact (hg _ _ hb43).2.2.1 rfl
    · have hb44 := ip q hb42
      refine Sx.o (fun _ _ _ k => ex_iload_n dX8_among_80 rfl k) ?_
      obtain rfl := Option.some.inj hb44
      exact Sx.r (fun _ _ _ k => ex_iret rfl dX8_among_81 k)
set_option maxHeartbeats 1000000 in
set_option maxRecDepth 100000 in
theorem Tape_among_82_t {g : (Nat × Int32 × Int32 × Int32 × Int32 × Nat × Nat × am_H) → Option Int32} (hg : ∀ s r, g s = some r → Tape_among_22_P s r) {v0 : Nat} {v1 : Nat} {v2 : Int32} {v5 : Int32} {h : am_H} {r : Int32} (hb : Tape_among_82_b g v0 v1 v2 v5 h = some r) : Sx 4 mX8_among 82 [.ref v0, am_s v1, .int v2, .retAddr 0, .retAddr 0, .int v5, .retAddr 0] [] h (some (.int r)) h := by
  unfold Tape_among_82_b at hb
  refine Sx.o (L' := [.ref v0, am_s v1, .int (v2 + (1 : Int32)), .retAddr 0, .retAddr 0, .int v5, .retAddr 0]) (fun _ _ _ k => op_iinc (1 : Int32) dX8_among_82 (by decide) rfl (by decide) k) ?_
  refine Sx.o (fun _ _ _ k => ex_iload dX8_among_85 rfl k) ?_
  refine Sx.o (fun _ _ _ k => op_iconst (1 : Int32) dX8_among_87 (by decide) k) ?_
  refine Sx.o (fun _ _ _ k => ex_iadd dX8_among_88 k) ?_
  refine Sx.o (L' := [.ref v0, am_s v1, .int (v2 + (1 : Int32)), .int (v5 + (1 : Int32)), .retAddr 0, .int v5, .retAddr 0]) (fun _ _ _ k => ex_istore_n dX8_among_89 (by decide) k) ?_
  refine Sx.o (fun _ _ _ k => op_iconst (1 : Int32) dX8_among_90 (by decide) k) ?_
  refine Sx.o (L' := [.ref v0, am_s v1, .int (v2 + (1 : Int32)), .int (v5 + (1 : Int32)), .int (1 : Int32), .int v5, .retAddr 0]) (fun _ _ _ k => ex_istore dX8_among_91 (by decide) k) ?_
  refine Sx.o (fun _ _ _ k => ex_goto 153 dX8_among_93 (by decide) k) ?_
  exact (hg _ _ hb).2.2.2.2.2.1 rfl
set_option maxHeartbeats 1000000 in
set_option maxRecDepth 100000 in
theorem Tape_among_150_t {g : (Nat × Int32 × Int32 × Int32 × Int32 × Nat × Nat × am_H) → Option Int32} (hg : ∀ s r, g s = some r → Tape_among_22_P s r) {v0 : Nat} {v1 : Nat} {v2 : Int32} {v3 : Int32} {v5 : Int32} {h : am_H} {r : Int32} (hb : Tape_among_150_b g v0 v1 v2 v3 v5 h = some r) : Sx 4 mX8_among 150 [.ref v0, am_s v1, .int v2, .int v3, .retAddr 0, .int v5, .retAddr 0] [] h (some (.int r)) h := by
  unfold Tape_among_150_b at hb
  refine Sx.o (fun _ _ _ k => op_iconst (0 : Int32) dX8_among_150 (by decide) k) ?_
  exact (hg _ _ hb).2.2.2.2.1 rfl
set_option maxHeartbeats 1000000 in
set_option maxRecDepth 100000 in
theorem Tape_among_151_t {g : (Nat × Int32 × Int32 × Int32 × Int32 × Nat × Nat × am_H) → Option Int32} (hg : ∀ s r, g s = some r → Tape_among_22_P s r) {v0 : Nat} {v1 : Nat} {v2 : Int32} {v3 : Int32} {v5 : Int32} {s0 : Int32} {h : am_H} {r : Int32} (hb : Tape_among_151_b g v0 v1 v2 v3 v5 s0 h = some r) : Sx 4 mX8_among 151 [.ref v0, am_s v1, .int v2, .int v3, .retAddr 0, .int v5, .retAddr 0] [.int s0] h (some (.int r)) h := by
  unfold Tape_among_151_b at hb
  refine Sx.o (L' := [.ref v0, am_s v1, .int v2, .int v3, .int s0, .int v5, .retAddr 0]) (fun _ _ _ k => ex_istore dX8_among_151 (by decide) k) ?_
  exact (hg _ _ hb).2.2.2.2.2.1 rfl
set_option maxHeartbeats 1000000 in
set_option maxRecDepth 100000 in
theorem Tape_among_153_t {g : (Nat × Int32 × Int32 × Int32 × Int32 × Nat × Nat × am_H) → Option Int32} (hg : ∀ s r, g s = some r → Tape_among_22_P s r) {v0 : Nat} {v1 : Nat} {v2 : Int32} {v3 : Int32} {v4 : Int32} {v5 : Int32} {h : am_H} {r : Int32} (hb : Tape_among_153_b g v0 v1 v2 v3 v4 v5 h = some r) : Sx 4 mX8_among 153 [.ref v0, am_s v1, .int v2, .int v3, .int v4, .int v5, .retAddr 0] [] h (some (.int r)) h := by
  unfold Tape_among_153_b at hb
  refine Sx.o (L' := [.ref v0, am_s v1, .int v2, .int v3, .int v4, .int (v5 + (1 : Int32)), .retAddr 0]) (fun _ _ _ k => op_iinc (1 : Int32) dX8_among_153 (by decide) rfl (by decide) k) ?_
  refine Sx.o (fun _ _ _ k => ex_goto 22 dX8_among_156 (by decide) k) ?_
  exact (hg _ _ hb).1 rfl
theorem Tape_among_22_T : ∀ s r, fx Tape_among_22_F Tape_among_22_M s = some r → Tape_among_22_P s r := fx_ind Tape_among_22_M Tape_among_22_P (fun g hg s r hb => by
  unfold Tape_among_22_F at hb
  exact ⟨fun q => Tape_among_22_t hg (ip q hb), fun q => Tape_among_59_t hg (ip q (iq (by rw [q]; decide) hb)), fun q => Tape_among_82_t hg (ip q (iq (by rw [q]; decide) (iq (by rw [q]; decide) hb))), fun q => Tape_among_150_t hg (ip q (iq (by rw [q]; decide) (iq (by rw [q]; decide) (iq (by rw [q]; decide) hb)))), fun q => Tape_among_151_t hg (ip q (iq (by rw [q]; decide) (iq (by rw [q]; decide) (iq (by rw [q]; decide) (iq (by rw [q]; decide) hb))))), fun q => Tape_among_153_t hg (ip q (iq (by rw [q]; decide) (iq (by rw [q]; decide) (iq (by rw [q]; decide) (iq (by rw [q]; decide) (iq (by rw [q]; decide) hb)))))), trivial⟩)
noncomputable def Tape_among_22 (v0 : Nat) (v1 : Nat) (v2 : Int32) (v3 : Int32) (v4 : Int32) (v5 : Int32) (h : am_H) : Option Int32 := fx Tape_among_22_F Tape_among_22_M (22, v2, v3, v4, v5, v0, v1, h)
noncomputable def Tape_among_59 (v0 : Nat) (v1 : Nat) (v2 : Int32) (v3 : Int32) (v4 : Int32) (v5 : Int32) (h : am_H) : Option Int32 := fx Tape_among_22_F Tape_among_22_M (59, v2, v3, v4, v5, v0, v1, h)
noncomputable def Tape_among_82 (v0 : Nat) (v1 : Nat) (v2 : Int32) (v5 : Int32) (h : am_H) : Option Int32 := fx Tape_among_22_F Tape_among_22_M (82, v2, v5, 0, 0, v0, v1, h)
noncomputable def Tape_among_150 (v0 : Nat) (v1 : Nat) (v2 : Int32) (v3 : Int32) (v5 : Int32) (h : am_H) : Option Int32 := fx Tape_among_22_F Tape_among_22_M (150, v2, v3, v5, 0, v0, v1, h)
noncomputable def Tape_among_151 (v0 : Nat) (v1 : Nat) (v2 : Int32) (v3 : Int32) (v5 : Int32) (s0 : Int32) (h : am_H) : Option Int32 := fx Tape_among_22_F Tape_among_22_M (151, v2, v3, v5, s0, v0, v1, h)
noncomputable def Tape_among_153 (v0 : Nat) (v1 : Nat) (v2 : Int32) (v3 : Int32) (v4 : Int32) (v5 : Int32) (h : am_H) : Option Int32 := fx Tape_among_22_F Tape_among_22_M (153, v2, v3, v4, v5, v0, v1, h)
set_option maxHeartbeats 1000000 in
set_option maxRecDepth 100000 in
theorem Tape_among_22_e (v0 : Nat) (v1 : Nat) (v2 : Int32) (v3 : Int32) (v4 : Int32) (v5 : Int32) (h : am_H) : Tape_among_22 v0 v1 v2 v3 v4 v5 h = ((Str_length v1 h).bind fun x1 => if x1 < v5 then some (-1 : Int32) else (gI h 8 v0 2).bind fun x5 => if x5 = (1 : Int32) then (Str_length v1 h).bind fun x9 => if v5 = x9 then Tape_among_59 v0 v1 v2 v3 v4 v5 h else (Str_charAt v1 v5 h).bind fun x13 => if x13 = (32 : Int32) then Tape_among_59 v0 v1 v2 v3 v4 v5 h else (gI h 8 v0 3).bind fun x17 => if v4 = (0 : Int32) then Tape_among_150 v0 v1 v2 v3 v5 h else (gI h 8 v0 4).bind fun x21 => if x21 ≤ ((x17 + v5) - v3) then Tape_among_150 v0 v1 v2 v3 v5 h else (gI h 8 v0 1).bind fun x25 => if x25 ≤ ((x17 + v5) - v3) then Tape_among_150 v0 v1 v2 v3 v5 h else (gR h 8 v0 0).bind fun x29 => (aI h 1 x29 ((x17 + v5) - v3)).bind fun x31 => (Str_charAt v1 v5 h).bind fun x33 => if x31 = x33 then Tape_among_151 v0 v1 v2 v3 v5 (1 : Int32) h else Tape_among_150 v0 v1 v2 v3 v5 h else some (-1 : Int32)) := (fx_eq Tape_among_22_M (22, v2, v3, v4, v5, v0, v1, h)).trans (if_pos rfl)
theorem Tape_among_22_s {v0 : Nat} {v1 : Nat} {v2 : Int32} {v3 : Int32} {v4 : Int32} {v5 : Int32} {h : am_H} {r : Int32} (hb : Tape_among_22 v0 v1 v2 v3 v4 v5 h = some r) : Sx 4 mX8_among 22 [.ref v0, am_s v1, .int v2, .int v3, .int v4, .int v5, .retAddr 0] [] h (some (.int r)) h := (Tape_among_22_T _ _ hb).1 rfl
set_option maxHeartbeats 1000000 in
set_option maxRecDepth 100000 in
theorem Tape_among_59_e (v0 : Nat) (v1 : Nat) (v2 : Int32) (v3 : Int32) (v4 : Int32) (v5 : Int32) (h : am_H) : Tape_among_59 v0 v1 v2 v3 v4 v5 h = (if v4 = (0 : Int32) then Tape_among_82 v0 v1 v2 v5 h else (gI h 8 v0 4).bind fun x39 => (gI h 8 v0 3).bind fun x41 => if (v5 - v3) = (x39 - x41) then some v2 else Tape_among_82 v0 v1 v2 v5 h) := (fx_eq Tape_among_22_M (59, v2, v3, v4, v5, v0, v1, h)).trans ((if_neg (show ¬ (59 : Nat) = 22 by decide)).trans (if_pos rfl))
theorem Tape_among_59_s {v0 : Nat} {v1 : Nat} {v2 : Int32} {v3 : Int32} {v4 : Int32} {v5 : Int32} {h : am_H} {r : Int32} (hb : Tape_among_59 v0 v1 v2 v3 v4 v5 h = some r) : Sx 4 mX8_among 59 [.ref v0, am_s v1, .int v2, .int v3, .int v4, .int v5, .retAddr 0] [] h (some (.int r)) h := (Tape_among_22_T _ _ hb).2.1 rfl
set_option maxHeartbeats 1000000 in
set_option maxRecDepth 100000 in
theorem Tape_among_82_e (v0 : Nat) (v1 : Nat) (v2 : Int32) (v5 : Int32) (h : am_H) : Tape_among_82 v0 v1 v2 v5 h = (Tape_among_153 v0 v1 (v2 + (1 : Int32)) (v5 + (1 : Int32)) (1 : Int32) v5 h) := (fx_eq Tape_among_22_M (82, v2, v5, 0, 0, v0, v1, h)).trans ((if_neg (show ¬ (82 : Nat) = 22 by decide)).trans ((if_neg (show ¬ (82 : Nat) = 59 by decide)).trans (if_pos rfl)))
theorem Tape_among_82_s {v0 : Nat} {v1 : Nat} {v2 : Int32} {v5 : Int32} {h : am_H} {r : Int32} (hb : Tape_among_82 v0 v1 v2 v5 h = some r) : Sx 4 mX8_among 82 [.ref v0, am_s v1, .int v2, .retAddr 0, .retAddr 0, .int v5, .retAddr 0] [] h (some (.int r)) h := (Tape_among_22_T _ _ hb).2.2.1 rfl
set_option maxHeartbeats 1000000 in
set_option maxRecDepth 100000 in
theorem Tape_among_150_e (v0 : Nat) (v1 : Nat) (v2 : Int32) (v3 : Int32) (v5 : Int32) (h : am_H) : Tape_among_150 v0 v1 v2 v3 v5 h = (Tape_among_151 v0 v1 v2 v3 v5 (0 : Int32) h) := (fx_eq Tape_among_22_M (150, v2, v3, v5, 0, v0, v1, h)).trans ((if_neg (show ¬ (150 : Nat) = 22 by decide)).trans ((if_neg (show ¬ (150 : Nat) = 59 by decide)).trans ((if_neg (show ¬ (150 : Nat) = 82 by decide)).trans (if_pos rfl))))
theorem Tape_among_150_s {v0 : Nat} {v1 : Nat} {v2 : Int32} {v3 : Int32} {v5 : Int32} {h : am_H} {r : Int32} (hb : Tape_among_150 v0 v1 v2 v3 v5 h = some r) : Sx 4 mX8_among 150 [.ref v0, am_s v1, .int v2, .int v3, .retAddr 0, .int v5, .retAddr 0] [] h (some (.int r)) h := (Tape_among_22_T _ _ hb).2.2.2.1 rfl
set_option maxHeartbeats 1000000 in
set_option maxRecDepth 100000 in
theorem Tape_among_151_e (v0 : Nat) (v1 : Nat) (v2 : Int32) (v3 : Int32) (v5 : Int32) (s0 : Int32) (h : am_H) : Tape_among_151 v0 v1 v2 v3 v5 s0 h = (Tape_among_153 v0 v1 v2 v3 s0 v5 h) := (fx_eq Tape_among_22_M (151, v2, v3, v5, s0, v0, v1, h)).trans ((if_neg (show ¬ (151 : Nat) = 22 by decide)).trans ((if_neg (show ¬ (151 : Nat) = 59 by decide)).trans ((if_neg (show ¬ (151 : Nat) = 82 by decide)).trans ((if_neg (show ¬ (151 : Nat) = 150 by decide)).trans (if_pos rfl)))))
theorem Tape_among_151_s {v0 : Nat} {v1 : Nat} {v2 : Int32} {v3 : Int32} {v5 : Int32} {s0 : Int32} {h : am_H} {r : Int32} (hb : Tape_among_151 v0 v1 v2 v3 v5 s0 h = some r) : Sx 4 mX8_among 151 [.ref v0, am_s v1, .int v2, .int v3, .retAddr 0, .int v5, .retAddr 0] [.int s0] h (some (.int r)) h := (Tape_among_22_T _ _ hb).2.2.2.2.1 rfl
set_option maxHeartbeats 1000000 in
set_option maxRecDepth 100000 in
theorem Tape_among_153_e (v0 : Nat) (v1 : Nat) (v2 : Int32) (v3 : Int32) (v4 : Int32) (v5 : Int32) (h : am_H) : Tape_among_153 v0 v1 v2 v3 v4 v5 h = (Tape_among_22 v0 v1 v2 v3 v4 (v5 + (1 : Int32)) h) := (fx_eq Tape_among_22_M (153, v2, v3, v4, v5, v0, v1, h)).trans ((if_neg (show ¬ (153 : Nat) = 22 by decide)).trans ((if_neg (show ¬ (153 : Nat) = 59 by decide)).trans ((if_neg (show ¬ (153 : Nat) = 82 by decide)).trans ((if_neg (show ¬ (153 : Nat) = 150 by decide)).trans ((if_neg (show ¬ (153 : Nat) = 151 by decide)).trans (if_pos rfl))))))
theorem Tape_among_153_s {v0 : Nat} {v1 : Nat} {v2 : Int32} {v3 : Int32} {v4 : Int32} {v5 : Int32} {h : am_H} {r : Int32} (hb : Tape_among_153 v0 v1 v2 v3 v4 v5 h = some r) : Sx 4 mX8_among 153 [.ref v0, am_s v1, .int v2, .int v3, .int v4, .int v5, .retAddr 0] [] h (some (.int r)) h := (Tape_among_22_T _ _ hb).2.2.2.2.2.1 rfl
set_option maxHeartbeats 1000000 in
set_option maxRecDepth 100000 in
noncomputable def Tape_among_17 (v0 : Nat) (v1 : Nat) (v2 : Int32) (v3 : Int32) (s0 : Int32) (h : am_H) : Option Int32 := Tape_among_22 v0 v1 v2 v3 s0 (0 : Int32) h
set_option maxHeartbeats 1000000 in
set_option maxRecDepth 100000 in
theorem Tape_among_17_s {v0 : Nat} {v1 : Nat} {v2 : Int32} {v3 : Int32} {s0 : Int32} {h : am_H} {r : Int32} (hb : Tape_among_17 v0 v1 v2 v3 s0 h = some r) : Sx 4 mX8_among 17 [.ref v0, am_s v1, .int v2, .int v3, .retAddr 0, .retAddr 0, .retAddr 0] [.int s0] h (some (.int r)) h := by
  unfold Tape_among_17 at hb
  refine Sx.o (L' := [.ref v0, am_s v1, .int v2, .int v3, .int s0, .retAddr 0, .retAddr 0]) (fun _ _ _ k => ex_istore dX8_among_17 (by decide) k) ?_
  refine Sx.o (fun _ _ _ k => op_iconst (0 : Int32) dX8_among_19 (by decide) k) ?_
  refine Sx.o (L' := [.ref v0, am_s v1, .int v2, .int v3, .int s0, .int (0 : Int32), .retAddr 0]) (fun _ _ _ k => ex_istore dX8_among_20 (by decide) k) ?_
  exact Tape_among_22_s hb
set_option maxHeartbeats 1000000 in
set_option maxRecDepth 100000 in
noncomputable def Tape_among (v0 : Nat) (v1 : Nat) (h : am_H) : Option Int32 := if isO h 8 v0 = true then (gI h 8 v0 2).bind fun x45 => if x45 = (1 : Int32) then Tape_among_17 v0 v1 (0 : Int32) (0 : Int32) (1 : Int32) h else Tape_among_17 v0 v1 (0 : Int32) (0 : Int32) (0 : Int32) h else none
set_option maxHeartbeats 1000000 in
set_option maxRecDepth 100000 in
theorem Tape_among_s {v0 : Nat} {v1 : Nat} {h : am_H} {r : Int32} (hb : Tape_among v0 v1 h = some r) : Sx 4 mX8_among 0 (am_en [.ref v0, am_s v1] 7) [] h (some (.int r)) h := by
  unfold Tape_among at hb
  have hb := (iz hb).2
  show Sx 4 mX8_among 0 [.ref v0, am_s v1, .retAddr 0, .retAddr 0, .retAddr 0, .retAddr 0, .retAddr 0] [] h (some (.int r)) h
  refine Sx.o (fun _ _ _ k => op_iconst (0 : Int32) dX8_among_0 (by decide) k) ?_
  refine Sx.o (L' := [.ref v0, am_s v1, .int (0 : Int32), .retAddr 0, .retAddr 0, .retAddr 0, .retAddr 0]) (fun _ _ _ k => ex_istore_n dX8_among_1 (by decide) k) ?_
  refine Sx.o (fun _ _ _ k => op_iconst (0 : Int32) dX8_among_2 (by decide) k) ?_
  refine Sx.o (L' := [.ref v0, am_s v1, .int (0 : Int32), .int (0 : Int32), .retAddr 0, .retAddr 0, .retAddr 0]) (fun _ _ _ k => ex_istore_n dX8_among_3 (by decide) k) ?_
  refine Sx.o (fun _ _ _ k => ex_aload_n dX8_among_4 rfl rfl k) ?_
  obtain ⟨x45, e_x45, hb46⟩ := ob2 hb
  refine Sx.o (fun _ _ _ k => op_getI fX8_28 dX8_among_5 e_x45 k) ?_
  refine Sx.o (fun _ _ _ k => op_iconst (1 : Int32) dX8_among_8 (by decide) k) ?_
  refine Sx.bn (fun _ _ _ k1 k2 => ex_icmp_ne 16 dX8_among_9 (by decide) k1 k2) (fun q => ?_) (fun q => ?_)
  · have hb47 := iq q hb46
    refine Sx.o (fun _ _ _ k => op_iconst (0 : Int32) dX8_among_16 (by decide) k) ?_
    exact Tape_among_17_s hb47
  · have hb48 := ip q hb46
    refine Sx.o (fun _ _ _ k => op_iconst (1 : Int32) dX8_among_12 (by decide) k) ?_
    refine Sx.o (fun _ _ _ k => ex_goto 17 dX8_among_13 (by decide) k) ?_
    exact Tape_among_17_s hb48
theorem Tape_among_o {v0 : Nat} {v1 : Nat} {h : am_H} {r : Int32} (hb : Tape_among v0 v1 h = some r) : isO h 8 v0 = true := by
  unfold Tape_among at hb
  exact (iz hb).1
set_option maxHeartbeats 1000000 in
set_option maxRecDepth 100000 in
noncomputable def Tape_isWord (v0 : Nat) (v1 : Nat) (h : am_H) : Option Int32 := if isO h 8 v0 = true then (Tape_among v0 v1 h).bind fun x1 => if x1 = (0 : Int32) then some (1 : Int32) else some (0 : Int32) else none
set_option maxHeartbeats 1000000 in
set_option maxRecDepth 100000 in
theorem Tape_isWord_s {v0 : Nat} {v1 : Nat} {h : am_H} {r : Int32} (hb : Tape_isWord v0 v1 h = some r) : Sx 5 mX8_isWord 0 (am_en [.ref v0, am_s v1] 2) [] h (some (.int r)) h := by
  unfold Tape_isWord at hb
  have hb := (iz hb).2
  show Sx 5 mX8_isWord 0 [.ref v0, am_s v1] [] h (some (.int r)) h
  refine Sx.o (fun _ _ _ k => ex_aload_n dX8_isWord_0 rfl rfl k) ?_
  refine Sx.o (fun _ _ _ k => ex_aload_n dX8_isWord_1 rfl rfl k) ?_
  obtain ⟨x1, e_x1, hb2⟩ := ob2 hb
  refine sx_callV (dc := 4) (as := [am_s v1]) (stq := [.int x1]) (by omega) dX8_isWord_2 MX8_among kX8_31 iX8_among sX8_among rfl rfl (Tape_among_o e_x1) rfl rfl (Nat.le_of_ble_eq_true rfl) (Nat.le_of_ble_eq_true rfl) (Tape_among_s e_x1) rfl ?_
  refine Sx.bn (fun _ _ _ k1 k2 => ex_if_ne 12 dX8_isWord_5 (by decide) k1 k2) (fun q => ?_) (fun q => ?_)
  · have hb3 := iq q hb2
    refine Sx.o (fun _ _ _ k => op_iconst (0 : Int32) dX8_isWord_12 (by decide) k) ?_
    obtain rfl := Option.some.inj hb3
    exact Sx.r (fun _ _ _ k => ex_zret rfl rfl dX8_isWord_13 k)
  · have hb4 := ip q hb2
    refine Sx.o (fun _ _ _ k => op_iconst (1 : Int32) dX8_isWord_8 (by decide) k) ?_
    refine Sx.o (fun _ _ _ k => ex_goto 13 dX8_isWord_9 (by decide) k) ?_
    obtain rfl := Option.some.inj hb4
    exact Sx.r (fun _ _ _ k => ex_zret rfl rfl dX8_isWord_13 k)
theorem Tape_isWord_o {v0 : Nat} {v1 : Nat} {h : am_H} {r : Int32} (hb : Tape_isWord v0 v1 h = some r) : isO h 8 v0 = true := by
  unfold Tape_isWord at hb
  exact (iz hb).1
set_option maxHeartbeats 1000000 in
set_option maxRecDepth 100000 in
noncomputable def Tape_isSign (v0 : Nat) (v1 : Int32) (h : am_H) : Option Int32 := if isO h 8 v0 = true then (gI h 8 v0 2).bind fun x1 => if x1 = (3 : Int32) then (gI h 8 v0 3).bind fun x5 => (gI h 8 v0 1).bind fun x7 => if x7 ≤ x5 then some (0 : Int32) else (gR h 8 v0 0).bind fun x11 => (gI h 8 v0 3).bind fun x13 => (aI h 1 x11 x13).bind fun x15 => if x15 = v1 then some (1 : Int32) else some (0 : Int32) else some (0 : Int32) else none
set_option maxHeartbeats 1000000 in
set_option maxRecDepth 100000 in
theorem Tape_isSign_s {v0 : Nat} {v1 : Int32} {h : am_H} {r : Int32} (hb : Tape_isSign v0 v1 h = some r) : Sx 0 mX8_isSign 0 (am_en [.ref v0, .int v1] 2) [] h (some (.int r)) h := by
  unfold Tape_isSign at hb
  have hb := (iz hb).2
  show Sx 0 mX8_isSign 0 [.ref v0, .int v1] [] h (some (.int r)) h
  refine Sx.o (fun _ _ _ k => ex_aload_n dX8_isSign_0 rfl rfl k) ?_
  obtain ⟨x1, e_x1, hb2⟩ := ob2 hb
  refine Sx.o (fun _ _ _ k => op_getI fX8_28 dX8_isSign_1 e_x1 k) ?_
  refine Sx.o (fun _ _ _ k => op_iconst (3 : Int32) dX8_isSign_4 (by decide) k) ?_
  refine Sx.bn (fun _ _ _ k1 k2 => ex_icmp_ne 36 dX8_isSign_5 (by decide) k1 k2) (fun q => ?_) (fun q => ?_)
  · have hb3 := iq q hb2
    refine Sx.o (fun _ _ _ k => op_iconst (0 : Int32) dX8_isSign_36 (by decide) k) ?_
    obtain rfl := Option.some.inj hb3
    exact Sx.r (fun _ _ _ k => ex_zret rfl rfl dX8_isSign_37 k)
  · have hb4 := ip q hb2
    refine Sx.o (fun _ _ _ k => ex_aload_n dX8_isSign_8 rfl rfl k) ?_
    obtain ⟨x5, e_x5, hb6⟩ := ob2 hb4
    refine Sx.o (fun _ _ _ k => op_getI fX8_25 dX8_isSign_9 e_x5 k) ?_
    refine Sx.o (fun _ _ _ k => ex_aload_n dX8_isSign_12 rfl rfl k) ?_
    obtain ⟨x7, e_x7, hb8⟩ := ob2 hb6
    refine Sx.o (fun _ _ _ k => op_getI fX8_15 dX8_isSign_13 e_x7 k) ?_
    refine Sx.b (fun _ _ _ k1 k2 => ex_icmp_ge 36 dX8_isSign_16 (by decide) k1 k2) (fun q => ?_) (fun q => ?_)
    · have hb9 := ip q hb8
      refine Sx.o (fun _ _ _ k => op_iconst (0 : Int32) dX8_isSign_36 (by decide) k) ?_
      obtain rfl := Option.some.inj hb9
      exact Sx.r (fun _ _ _ k => ex_zret rfl rfl dX8_isSign_37 k)
    · have hb10 := iq q hb8
      refine Sx.o (fun _ _ _ k => ex_aload_n dX8_isSign_19 rfl rfl k) ?_
      obtain ⟨x11, e_x11, hb12⟩ := ob2 hb10
      refine Sx.o (fun _ _ _ k => op_getR fX8_9 dX8_isSign_20 e_x11 k) ?_
      refine Sx.o (fun _ _ _ k => ex_aload_n dX8_isSign_23 rfl rfl k) ?_
      obtain ⟨x13, e_x13, hb14⟩ := ob2 hb12
      refine Sx.o (fun _ _ _ k => op_getI fX8_25 dX8_isSign_24 e_x13 k) ?_
      obtain ⟨x15, e_x15, hb16⟩ := ob2 hb14
      refine Sx.o (fun _ _ _ k => op_bald dX8_isSign_27 e_x15 k) ?_
      refine Sx.o (fun _ _ _ k => ex_iload_n dX8_isSign_28 rfl k) ?_
      refine Sx.bn (fun _ _ _ k1 k2 => ex_icmp_ne 36 dX8_isSign_29 (by decide) k1 k2) (fun q => ?_) (fun q => ?_)
      · have hb17 := iq q hb16
        refine Sx.o (fun _ _ _ k => op_iconst (0 : Int32) dX8_isSign_36 (by decide) k) ?_
        obtain rfl := Option.some.inj hb17
        exact Sx.r (fun _ _ _ k => ex_zret rfl rfl dX8_isSign_37 k)
      · have hb18 := ip q hb16
        refine Sx.o (fun _ _ _ k => op_iconst (1 : Int32) dX8_isSign_32 (by decide) k) ?_
        refine Sx.o (fun _ _ _ k => ex_goto 37 dX8_isSign_33 (by decide) k) ?_
        obtain rfl := Option.some.inj hb18
        exact Sx.r (fun _ _ _ k => ex_zret rfl rfl dX8_isSign_37 k)
theorem Tape_isSign_o {v0 : Nat} {v1 : Int32} {h : am_H} {r : Int32} (hb : Tape_isSign v0 v1 h = some r) : isO h 8 v0 = true := by
  unfold Tape_isSign at hb
  exact (iz hb).1
set_option maxHeartbeats 1000000 in
set_option maxRecDepth 100000 in
noncomputable def Tape_number_17_b (g : (Nat × Int32 × Int32 × Nat × am_H) → Option Int32) (v0 : Nat) (v1 : Int32) (v2 : Int32) (h : am_H) : Option Int32 := (gI h 8 v0 4).bind fun x1 => if x1 ≤ v2 then some v1 else (gI h 8 v0 1).bind fun x5 => if x5 ≤ v2 then some v1 else (gR h 8 v0 0).bind fun x9 => (aI h 1 x9 v2).bind fun x11 => g (17, (if (1001 : Int32) < ((v1 * (10 : Int32)) + x11) - (48 : Int32) then (1001 : Int32) else ((v1 * (10 : Int32)) + x11) - (48 : Int32)), (v2 + (1 : Int32)), v0, h)
set_option maxHeartbeats 1000000 in
set_option maxRecDepth 100000 in
theorem Tape_number_17_m {g g2 : (Nat × Int32 × Int32 × Nat × am_H) → Option Int32} (hg : ∀ s, Le (g s) (g2 s)) (v0 : Nat) (v1 : Int32) (v2 : Int32) (h : am_H) : Le (Tape_number_17_b g v0 v1 v2 h) (Tape_number_17_b g2 v0 v1 v2 h) := by unfold Tape_number_17_b; exact le_b (le_r _) fun x1 => le_i (le_r _) (le_b (le_r _) fun x5 => le_i (le_r _) (le_b (le_r _) fun x9 => le_b (le_r _) fun x11 => hg _))
noncomputable def Tape_number_17_F (g : (Nat × Int32 × Int32 × Nat × am_H) → Option Int32) (s : (Nat × Int32 × Int32 × Nat × am_H)) : Option Int32 := if s.1 = 17 then Tape_number_17_b g s.2.2.2.1 s.2.1 s.2.2.1 s.2.2.2.2 else none
theorem Tape_number_17_M : Mn Tape_number_17_F := fun g g2 hg s => by unfold Tape_number_17_F; exact le_i (Tape_number_17_m hg s.2.2.2.1 s.2.1 s.2.2.1 s.2.2.2.2) (le_r _)
def Tape_number_17_P (s : (Nat × Int32 × Int32 × Nat × am_H)) (r : Int32) : Prop := (s.1 = 17 → Sx 1 mX8_number 17 [.ref s.2.2.2.1, .int s.2.1, .int s.2.2.1] [] s.2.2.2.2 (some (.int r)) s.2.2.2.2) ∧ True
set_option maxHeartbeats 1000000 in
set_option maxRecDepth 100000 in
theorem Tape_number_17_t {g : (Nat × Int32 × Int32 × Nat × am_H) → Option Int32} (hg : ∀ s r, g s = some r → Tape_number_17_P s r) {v0 : Nat} {v1 : Int32} {v2 : Int32} {h : am_H} {r : Int32} (hb : Tape_number_17_b g v0 v1 v2 h = some r) : Sx 1 mX8_number 17 [.ref v0, .int v1, .int v2] [] h (some (.int r)) h := by
  unfold Tape_number_17_b at hb
  refine Sx.o (fun _ _ _ k => ex_iload_n dX8_number_17 rfl k) ?_
  refine Sx.o (fun _ _ _ k => ex_aload_n dX8_number_18 rfl rfl k) ?_
  obtain ⟨x1, e_x1, hb2⟩ := ob2 hb
  refine Sx.o (fun _ _ _ k => op_getI fX8_19 dX8_number_19 e_x1 k) ?_
  refine Sx.b (fun _ _ _ k1 k2 => ex_icmp_ge 60 dX8_number_22 (by decide) k1 k2) (fun q => ?_) (fun q => ?_)
  · have hb3 := ip q hb2
    refine Sx.o (fun _ _ _ k => ex_iload_n dX8_number_60 rfl k) ?_
    obtain rfl := Option.some.inj hb3
    exact Sx.r (fun _ _ _ k => ex_iret rfl dX8_number_61 k)
  · have hb4 := iq q hb2
    refine Sx.o (fun _ _ _ k => ex_iload_n dX8_number_25 rfl k) ?_
    refine Sx.o (fun _ _ _ k => ex_aload_n dX8_number_26 rfl rfl k) ?_
    obtain ⟨x5, e_x5, hb6⟩ := ob2 hb4
    refine Sx.o (fun _ _ _ k => op_getI fX8_15 dX8_number_27 e_x5 k) ?_
    refine Sx.b (fun _ _ _ k1 k2 => ex_icmp_ge 60 dX8_number_30 (by decide) k1 k2) (fun q => ?_) (fun q => ?_)
    · have hb7 := ip q hb6
      refine Sx.o (fun _ _ _ k => ex_iload_n dX8_number_60 rfl k) ?_
      obtain rfl := Option.some.inj hb7
      exact Sx.r (fun _ _ _ k => ex_iret rfl dX8_number_61 k)
    · have hb8 := iq q hb6
      refine Sx.o (fun _ _ _ k => ex_iload_n dX8_number_33 rfl k) ?_
      refine Sx.o (fun _ _ _ k => op_bipush (10 : Int32) dX8_number_34 (by decide) k) ?_
      refine Sx.o (fun _ _ _ k => ex_imul dX8_number_36 k) ?_
      refine Sx.o (fun _ _ _ k => ex_aload_n dX8_number_37 rfl rfl k) ?_
      obtain ⟨x9, e_x9, hb10⟩ := ob2 hb8
      refine Sx.o (fun _ _ _ k => op_getR fX8_9 dX8_number_38 e_x9 k) ?_
      refine Sx.o (fun _ _ _ k => ex_iload_n dX8_number_41 rfl k) ?_
      obtain ⟨x11, e_x11, hb12⟩ := ob2 hb10
      refine Sx.o (fun _ _ _ k => op_bald dX8_number_42 e_x11 k) ?_
      refine Sx.o (fun _ _ _ k => ex_iadd dX8_number_43 k) ?_
      refine Sx.o (fun _ _ _ k => op_bipush (48 : Int32) dX8_number_44 (by decide) k) ?_
      refine Sx.o (fun _ _ _ k => ex_isub dX8_number_46 k) ?_
      refine Sx.o (fun _ _ _ k => op_sipush (1001 : Int32) dX8_number_47 (by decide) k) ?_
      refine Sx.o (fun _ _ _ k => op_mmin (by omega) dX8_number_50 kX8_44 (Nat.le_of_ble_eq_true rfl) k) ?_
      refine Sx.o (L' := [.ref v0, .int (if (1001 : Int32) < ((v1 * (10 : Int32)) + x11) - (48 : Int32) then (1001 : Int32) else ((v1 * (10 : Int32)) + x11) - (48 : Int32)), .int v2]) (fun _ _ _ k => ex_istore_n dX8_number_53 (by decide) k) ?_
      refine Sx.o (L' := [.ref v0, .int (if (1001 : Int32) < ((v1 * (10 : Int32)) + x11) - (48 : Int32) then (1001 : Int32) else ((v1 * (10 : Int32)) + x11) - (48 : Int32)), .int (v2 + (1 : Int32))]) (fun _ _ _ k => op_iinc (1 : Int32) dX8_number_54 (by decide) rfl (by decide) k) ?_
      refine Sx.o (fun _ _ _ k => ex_goto 17 dX8_number_57 (by decide) k) ?_
      exact (hg _ _ hb12).1 rfl
theorem Tape_number_17_T : ∀ s r, fx Tape_number_17_F Tape_number_17_M s = some r → Tape_number_17_P s r := fx_ind Tape_number_17_M Tape_number_17_P (fun g hg s r hb => by
  unfold Tape_number_17_F at hb
  exact ⟨fun q => Tape_number_17_t hg (ip q hb), trivial⟩)
noncomputable def Tape_number_17 (v0 : Nat) (v1 : Int32) (v2 : Int32) (h : am_H) : Option Int32 := fx Tape_number_17_F Tape_number_17_M (17, v1, v2, v0, h)
set_option maxHeartbeats 1000000 in
set_option maxRecDepth 100000 in
theorem Tape_number_17_e (v0 : Nat) (v1 : Int32) (v2 : Int32) (h : am_H) : Tape_number_17 v0 v1 v2 h = ((gI h 8 v0 4).bind fun x1 => if x1 ≤ v2 then some v1 else (gI h 8 v0 1).bind fun x5 => if x5 ≤ v2 then some v1 else (gR h 8 v0 0).bind fun x9 => (aI h 1 x9 v2).bind fun x11 => Tape_number_17 v0 (if (1001 : Int32) < ((v1 * (10 : Int32)) + x11) - (48 : Int32) then (1001 : Int32) else ((v1 * (10 : Int32)) + x11) - (48 : Int32)) (v2 + (1 : Int32)) h) := (fx_eq Tape_number_17_M (17, v1, v2, v0, h)).trans (if_pos rfl)
theorem Tape_number_17_s {v0 : Nat} {v1 : Int32} {v2 : Int32} {h : am_H} {r : Int32} (hb : Tape_number_17 v0 v1 v2 h = some r) : Sx 1 mX8_number 17 [.ref v0, .int v1, .int v2] [] h (some (.int r)) h := (Tape_number_17_T _ _ hb).1 rfl
set_option maxHeartbeats 1000000 in
set_option maxRecDepth 100000 in
noncomputable def Tape_number (v0 : Nat) (h : am_H) : Option Int32 := if isO h 8 v0 = true then (gI h 8 v0 2).bind fun x13 => if x13 = (2 : Int32) then (gI h 8 v0 3).bind fun x17 => Tape_number_17 v0 (0 : Int32) x17 h else some (-1 : Int32) else none
set_option maxHeartbeats 1000000 in
set_option maxRecDepth 100000 in
theorem Tape_number_s {v0 : Nat} {h : am_H} {r : Int32} (hb : Tape_number v0 h = some r) : Sx 1 mX8_number 0 (am_en [.ref v0] 3) [] h (some (.int r)) h := by
  unfold Tape_number at hb
  have hb := (iz hb).2
  show Sx 1 mX8_number 0 [.ref v0, .retAddr 0, .retAddr 0] [] h (some (.int r)) h
  refine Sx.o (fun _ _ _ k => ex_aload_n dX8_number_0 rfl rfl k) ?_
  obtain ⟨x13, e_x13, hb14⟩ := ob2 hb
  refine Sx.o (fun _ _ _ k => op_getI fX8_28 dX8_number_1 e_x13 k) ?_
  refine Sx.o (fun _ _ _ k => op_iconst (2 : Int32) dX8_number_4 (by decide) k) ?_
  refine Sx.b (fun _ _ _ k1 k2 => ex_icmp_eq 10 dX8_number_5 (by decide) k1 k2) (fun q => ?_) (fun q => ?_)
  · have hb15 := ip q hb14
    refine Sx.o (fun _ _ _ k => op_iconst (0 : Int32) dX8_number_10 (by decide) k) ?_
    refine Sx.o (L' := [.ref v0, .int (0 : Int32), .retAddr 0]) (fun _ _ _ k => ex_istore_n dX8_number_11 (by decide) k) ?_
    refine Sx.o (fun _ _ _ k => ex_aload_n dX8_number_12 rfl rfl k) ?_
    obtain ⟨x17, e_x17, hb18⟩ := ob2 hb15
    refine Sx.o (fun _ _ _ k => op_getI fX8_25 dX8_number_13 e_x17 k) ?_
    refine Sx.o (L' := [.ref v0, .int (0 : Int32), .int x17]) (fun _ _ _ k => ex_istore_n dX8_number_16 (by decide) k) ?_
    exact Tape_number_17_s hb18
  · have hb16 := iq q hb14
    refine Sx.o (fun _ _ _ k => op_iconst (-1 : Int32) dX8_number_8 (by decide) k) ?_
    obtain rfl := Option.some.inj hb16
    exact Sx.r (fun _ _ _ k => ex_iret rfl dX8_number_9 k)
theorem Tape_number_o {v0 : Nat} {h : am_H} {r : Int32} (hb : Tape_number v0 h = some r) : isO h 8 v0 = true := by
  unfold Tape_number at hb
  exact (iz hb).1
set_option maxHeartbeats 1000000 in
set_option maxRecDepth 100000 in
noncomputable def Tape_rewind (v0 : Nat) (h : am_H) : Option am_H := if isO h 8 v0 = true then (pV h 8 v0 4 (.int (0 : Int32))).bind fun h1 => (Tape_go v0 h1).bind fun h4 => some h4 else none
set_option maxHeartbeats 1000000 in
set_option maxRecDepth 100000 in
theorem Tape_rewind_s {v0 : Nat} {h : am_H} {r : am_H} (hb : Tape_rewind v0 h = some r) : Sx 1 mX8_rewind 0 (am_en [.ref v0] 1) [] h none r := by
  unfold Tape_rewind at hb
  have hb := (iz hb).2
  show Sx 1 mX8_rewind 0 [.ref v0] [] h none r
  refine Sx.o (fun _ _ _ k => ex_aload_n dX8_rewind_0 rfl rfl k) ?_
  refine Sx.o (fun _ _ _ k => op_iconst (0 : Int32) dX8_rewind_1 (by decide) k) ?_
  obtain ⟨h1, e_h1, hb2⟩ := ob2 hb
  refine Sx.p (pV_q e_h1) (fun _ _ _ k => op_put pX8_19 dX8_rewind_2 e_h1 (fun _ => rfl) (fun _ => rfl) k) ?_
  refine Sx.o (fun _ _ _ k => ex_aload_n dX8_rewind_5 rfl rfl k) ?_
  obtain ⟨h4, e_h4, hb5⟩ := ob2 hb2
  refine sx_callV (dc := 0) (as := []) (stq := []) (by omega) dX8_rewind_6 MX8_go kX8_22 iX8_go sX8_go rfl rfl (Tape_go_o e_h4) rfl rfl (Nat.le_of_ble_eq_true rfl) (Nat.le_of_ble_eq_true rfl) (Tape_go_s e_h4) rfl ?_
  obtain rfl := Option.some.inj hb5
  exact Sx.r (fun _ _ _ k => ex_vret rfl dX8_rewind_9 k)
set_option maxHeartbeats 1000000 in
set_option maxRecDepth 100000 in
theorem Tape_rewind_q {v0 : Nat} {h : am_H} {r : am_H} (hb : Tape_rewind v0 h = some r) : Eqs h r := by
  unfold Tape_rewind at hb
  have hb := (iz hb).2
  have w0 := Eqs.rf h
  obtain ⟨h1, e_h1, hb2⟩ := ob2 hb
  have w3 := w0.tr (pV_q e_h1)
  obtain ⟨h4, e_h4, hb5⟩ := ob2 hb2
  have w6 := w3.tr (Tape_go_q e_h4)
  obtain rfl := Option.some.inj hb5
  exact w6
theorem Tape_rewind_o {v0 : Nat} {h : am_H} {r : am_H} (hb : Tape_rewind v0 h = some r) : isO h 8 v0 = true := by
  unfold Tape_rewind at hb
  exact (iz hb).1
