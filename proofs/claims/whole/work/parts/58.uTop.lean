/-! Top: its methods as functions (by wip/whole/dec.py) -/
set_option maxHeartbeats 1000000 in
set_option maxRecDepth 100000 in
noncomputable def Top_after_78 (v0 : Nat) (v3 : Int32) (h : am_H) : Option (Int32 × am_H) := (gR h 11 v0 11).bind fun x1 => (Row_card x1 v3 h).bind fun x3 => some (x3, h)
set_option maxHeartbeats 1000000 in
set_option maxRecDepth 100000 in
theorem Top_after_78_s {v0 : Nat} {v3 : Int32} {h : am_H} {r : (Int32 × am_H)} (hb : Top_after_78 v0 v3 h = some r) : Sx 4 mX11_after 78 [.ref v0, .retAddr 0, .retAddr 0, .int v3, .retAddr 0, .retAddr 0] [] h (some (.int r.1)) r.2 := by
  unfold Top_after_78 at hb
  refine Sx.o (fun _ _ _ k => ex_aload_n dX11_after_78 rfl rfl k) ?_
  obtain ⟨x1, e_x1, hb2⟩ := ob2 hb
  refine Sx.o (fun _ _ _ k => op_getR fX11_93 dX11_after_79 e_x1 k) ?_
  refine Sx.o (fun _ _ _ k => ex_iload_n dX11_after_82 rfl k) ?_
  obtain ⟨x3, e_x3, hb4⟩ := ob2 hb2
  refine sx_callV (dc := 0) (as := [.int v3]) (stq := [.int x3]) (by omega) dX11_after_83 MX4_card kX11_164 iX4_card sX4_card rfl rfl (Row_card_o e_x3) rfl rfl (Nat.le_of_ble_eq_true rfl) (Nat.le_of_ble_eq_true rfl) (Row_card_s e_x3) rfl ?_
  obtain rfl := Option.some.inj hb4
  exact Sx.r (fun _ _ _ k => ex_iret rfl dX11_after_86 k)
set_option maxHeartbeats 1000000 in
set_option maxRecDepth 100000 in
theorem Top_after_78_q {v0 : Nat} {v3 : Int32} {h : am_H} {r : (Int32 × am_H)} (hb : Top_after_78 v0 v3 h = some r) : Eqs h r.2 := by
  unfold Top_after_78 at hb
  have w0 := Eqs.rf h
  obtain ⟨x1, e_x1, hb2⟩ := ob2 hb
  obtain ⟨x3, e_x3, hb4⟩ := ob2 hb2
  obtain rfl := Option.some.inj hb4
  exact w0
set_option maxHeartbeats 1000000 in
set_option maxRecDepth 100000 in
noncomputable def Top_after_40_b (g : (Nat × Int32 × Int32 × Int32 × Nat × am_H) → Option (Int32 × am_H)) (v0 : Nat) (v2 : Int32) (v3 : Int32) (v5 : Int32) (h : am_H) : Option (Int32 × am_H) := if v2 ≤ v5 then Top_after_78 v0 v3 h else (gR h 11 v0 6).bind fun x7 => (gR h 11 v0 11).bind fun x9 => (Steps_look x7 x9 h).bind fun r11 => if r11.1 = (3 : Int32) then (gR r11.2 11 v0 6).bind fun x16 => (gR r11.2 11 v0 11).bind fun x18 => (Steps_make x16 x18 r11.2).bind fun h20 => g (40, v2, v3, (v5 + (1 : Int32)), v0, h20) else Top_after_78 v0 v3 r11.2
set_option maxHeartbeats 1000000 in
set_option maxRecDepth 100000 in
theorem Top_after_40_m {g g2 : (Nat × Int32 × Int32 × Int32 × Nat × am_H) → Option (Int32 × am_H)} (hg : ∀ s, Le (g s) (g2 s)) (v0 : Nat) (v2 : Int32) (v3 : Int32) (v5 : Int32) (h : am_H) : Le (Top_after_40_b g v0 v2 v3 v5 h) (Top_after_40_b g2 v0 v2 v3 v5 h) := by unfold Top_after_40_b; exact le_i (le_r _) (le_b (le_r _) fun x7 => le_b (le_r _) fun x9 => le_b (le_r _) fun r11 => le_i (le_b (le_r _) fun x16 => le_b (le_r _) fun x18 => le_b (le_r _) fun h20 => hg _) (le_r _))
noncomputable def Top_after_40_F (g : (Nat × Int32 × Int32 × Int32 × Nat × am_H) → Option (Int32 × am_H)) (s : (Nat × Int32 × Int32 × Int32 × Nat × am_H)) : Option (Int32 × am_H) := if s.1 = 40 then Top_after_40_b g s.2.2.2.2.1 s.2.1 s.2.2.1 s.2.2.2.1 s.2.2.2.2.2 else none
theorem Top_after_40_M : Mn Top_after_40_F := fun g g2 hg s => by unfold Top_after_40_F; exact le_i (Top_after_40_m hg s.2.2.2.2.1 s.2.1 s.2.2.1 s.2.2.2.1 s.2.2.2.2.2) (le_r _)
def Top_after_40_P (s : (Nat × Int32 × Int32 × Int32 × Nat × am_H)) (r : (Int32 × am_H)) : Prop := (s.1 = 40 → Sx 4 mX11_after 40 [.ref s.2.2.2.2.1, .retAddr 0, .int s.2.1, .int s.2.2.1, .retAddr 0, .int s.2.2.2.1] [] s.2.2.2.2.2 (some (.int r.1)) r.2) ∧ True
set_option maxHeartbeats 1000000 in
set_option maxRecDepth 100000 in
theorem Top_after_40_t {g : (Nat × Int32 × Int32 × Int32 × Nat × am_H) → Option (Int32 × am_H)} (hg : ∀ s r, g s = some r → Top_after_40_P s r) {v0 : Nat} {v2 : Int32} {v3 : Int32} {v5 : Int32} {h : am_H} {r : (Int32 × am_H)} (hb : Top_after_40_b g v0 v2 v3 v5 h = some r) : Sx 4 mX11_after 40 [.ref v0, .retAddr 0, .int v2, .int v3, .retAddr 0, .int v5] [] h (some (.int r.1)) r.2 := by
  unfold Top_after_40_b at hb
  refine Sx.o (fun _ _ _ k => ex_iload dX11_after_40 rfl k) ?_
  refine Sx.o (fun _ _ _ k => ex_iload_n dX11_after_42 rfl k) ?_
  refine Sx.b (fun _ _ _ k1 k2 => ex_icmp_ge 78 dX11_after_43 (by decide) k1 k2) (fun q => ?_) (fun q => ?_)
  · have hb5 := ip q hb
    refine Sx.fg [true, true, false, true, true, false] ?_
    exact Top_after_78_s hb5
  · have hb6 := iq q hb
    refine Sx.o (fun _ _ _ k => ex_aload_n dX11_after_46 rfl rfl k) ?_
    obtain ⟨x7, e_x7, hb8⟩ := ob2 hb6
    refine Sx.o (fun _ _ _ k => op_getR fX11_52 dX11_after_47 e_x7 k) ?_
    refine Sx.o (fun _ _ _ k => ex_aload_n dX11_after_50 rfl rfl k) ?_
    obtain ⟨x9, e_x9, hb10⟩ := ob2 hb8
    refine Sx.o (fun _ _ _ k => op_getR fX11_93 dX11_after_51 e_x9 k) ?_
    obtain ⟨r11, e_r11, hb12⟩ := ob2 hb10
    refine sx_callV (dc := 3) (as := [.ref x9]) (stq := [.int r11.1]) (by omega) dX11_after_54 MX6_look kX11_151 iX6_look sX6_look rfl rfl (Steps_look_o e_r11) rfl rfl (Nat.le_of_ble_eq_true rfl) (Nat.le_of_ble_eq_true rfl) (Steps_look_s e_r11) rfl ?_
    refine Sx.o (fun _ _ _ k => op_iconst (3 : Int32) dX11_after_57 (by decide) k) ?_
    refine Sx.bn (fun _ _ _ k1 k2 => ex_icmp_ne 78 dX11_after_58 (by decide) k1 k2) (fun q => ?_) (fun q => ?_)
    · have hb14 := iq q hb12
      refine Sx.fg [true, true, false, true, true, false] ?_
      exact Top_after_78_s hb14
    · have hb15 := ip q hb12
      refine Sx.o (fun _ _ _ k => ex_aload_n dX11_after_61 rfl rfl k) ?_
      obtain ⟨x16, e_x16, hb17⟩ := ob2 hb15
      refine Sx.o (fun _ _ _ k => op_getR fX11_52 dX11_after_62 e_x16 k) ?_
      refine Sx.o (fun _ _ _ k => ex_aload_n dX11_after_65 rfl rfl k) ?_
      obtain ⟨x18, e_x18, hb19⟩ := ob2 hb17
      refine Sx.o (fun _ _ _ k => op_getR fX11_93 dX11_after_66 e_x18 k) ?_
      obtain ⟨h20, e_h20, hb21⟩ := ob2 hb19
      refine sx_callV (dc := 3) (as := [.ref x18]) (stq := []) (by omega) dX11_after_69 MX6_make kX11_235 iX6_make sX6_make rfl rfl (Steps_make_o e_h20) rfl rfl (Nat.le_of_ble_eq_true rfl) (Nat.le_of_ble_eq_true rfl) (Steps_make_s e_h20) rfl ?_
      refine Sx.o (L' := [.ref v0, .retAddr 0, .int v2, .int v3, .retAddr 0, .int (v5 + (1 : Int32))]) (fun _ _ _ k => op_iinc (1 : Int32) dX11_after_72 (by decide) rfl (by decide) k) ?_
      refine Sx.o (fun _ _ _ k => ex_goto 40 dX11_after_75 (by decide) k) ?_
      exact (hg _ _ hb21).1 rfl
theorem Top_after_40_T : ∀ s r, fx Top_after_40_F Top_after_40_M s = some r → Top_after_40_P s r := fx_ind Top_after_40_M Top_after_40_P (fun g hg s r hb => by
  unfold Top_after_40_F at hb
  exact ⟨fun q => Top_after_40_t hg (ip q hb), trivial⟩)
set_option maxHeartbeats 1000000 in
set_option maxRecDepth 100000 in
theorem Top_after_40_r {g : (Nat × Int32 × Int32 × Int32 × Nat × am_H) → Option (Int32 × am_H)} (hg : ∀ s r, g s = some r → Eqs s.2.2.2.2.2 r.2) {v0 : Nat} {v2 : Int32} {v3 : Int32} {v5 : Int32} {h : am_H} {r : (Int32 × am_H)} (hb : Top_after_40_b g v0 v2 v3 v5 h = some r) : Eqs h r.2 := by
  unfold Top_after_40_b at hb
  have w0 := Eqs.rf h
  by_cases q : v2 ≤ v5
  · have hb5 := ip q hb
    exact w0.tr (Top_after_78_q hb5)
  · have hb6 := iq q hb
    obtain ⟨x7, e_x7, hb8⟩ := ob2 hb6
    obtain ⟨x9, e_x9, hb10⟩ := ob2 hb8
    obtain ⟨r11, e_r11, hb12⟩ := ob2 hb10
    have w13 := w0.tr (Steps_look_q e_r11)
    by_cases q : r11.1 = (3 : Int32)
    · have hb15 := ip q hb12
      obtain ⟨x16, e_x16, hb17⟩ := ob2 hb15
      obtain ⟨x18, e_x18, hb19⟩ := ob2 hb17
      obtain ⟨h20, e_h20, hb21⟩ := ob2 hb19
      have w22 := w13.tr (Steps_make_q e_h20)
      exact w22.tr (hg _ _ hb21)
    · have hb14 := iq q hb12
      exact w13.tr (Top_after_78_q hb14)
theorem Top_after_40_Q : ∀ s r, fx Top_after_40_F Top_after_40_M s = some r → Eqs s.2.2.2.2.2 r.2 := fx_ind Top_after_40_M (fun s r => Eqs s.2.2.2.2.2 r.2) (fun g hg s r hb => by
  unfold Top_after_40_F at hb
  by_cases q0 : s.1 = 40
  · exact Top_after_40_r hg (ip q0 hb)
  · have hb0 := iq q0 hb
    exact nomatch hb0)
noncomputable def Top_after_40 (v0 : Nat) (v2 : Int32) (v3 : Int32) (v5 : Int32) (h : am_H) : Option (Int32 × am_H) := fx Top_after_40_F Top_after_40_M (40, v2, v3, v5, v0, h)
set_option maxHeartbeats 1000000 in
set_option maxRecDepth 100000 in
theorem Top_after_40_e (v0 : Nat) (v2 : Int32) (v3 : Int32) (v5 : Int32) (h : am_H) : Top_after_40 v0 v2 v3 v5 h = (if v2 ≤ v5 then Top_after_78 v0 v3 h else (gR h 11 v0 6).bind fun x7 => (gR h 11 v0 11).bind fun x9 => (Steps_look x7 x9 h).bind fun r11 => if r11.1 = (3 : Int32) then (gR r11.2 11 v0 6).bind fun x16 => (gR r11.2 11 v0 11).bind fun x18 => (Steps_make x16 x18 r11.2).bind fun h20 => Top_after_40 v0 v2 v3 (v5 + (1 : Int32)) h20 else Top_after_78 v0 v3 r11.2) := (fx_eq Top_after_40_M (40, v2, v3, v5, v0, h)).trans (if_pos rfl)
theorem Top_after_40_q {v0 : Nat} {v2 : Int32} {v3 : Int32} {v5 : Int32} {h : am_H} {r : (Int32 × am_H)} (hb : Top_after_40 v0 v2 v3 v5 h = some r) : Eqs h r.2 := Top_after_40_Q _ _ hb
theorem Top_after_40_s {v0 : Nat} {v2 : Int32} {v3 : Int32} {v5 : Int32} {h : am_H} {r : (Int32 × am_H)} (hb : Top_after_40 v0 v2 v3 v5 h = some r) : Sx 4 mX11_after 40 [.ref v0, .retAddr 0, .int v2, .int v3, .retAddr 0, .int v5] [] h (some (.int r.1)) r.2 := (Top_after_40_T _ _ hb).1 rfl
set_option maxHeartbeats 1000000 in
set_option maxRecDepth 100000 in
noncomputable def Top_after (v0 : Nat) (v1 : Int32) (v2 : Int32) (v3 : Int32) (h : am_H) : Option (Int32 × am_H) := if isO h 11 v0 = true then (gR h 11 v0 1).bind fun x23 => (Table_at x23 v1 h).bind fun x25 => if x25 = none then some ((-1 : Int32), h) else (x25).bind fun x29 => if v2 < (0 : Int32) then some ((-1 : Int32), h) else if v2 ≤ (300 : Int32) then (gR h 11 v0 11).bind fun x35 => (Row_copy x35 x29 h).bind fun h37 => Top_after_40 v0 v2 v3 (0 : Int32) h37 else some ((-1 : Int32), h) else none
set_option maxHeartbeats 1000000 in
set_option maxRecDepth 100000 in
theorem Top_after_s {v0 : Nat} {v1 : Int32} {v2 : Int32} {v3 : Int32} {h : am_H} {r : (Int32 × am_H)} (hb : Top_after v0 v1 v2 v3 h = some r) : Sx 4 mX11_after 0 (am_en [.ref v0, .int v1, .int v2, .int v3] 6) [] h (some (.int r.1)) r.2 := by
  unfold Top_after at hb
  have hb := (iz hb).2
  show Sx 4 mX11_after 0 [.ref v0, .int v1, .int v2, .int v3, .retAddr 0, .retAddr 0] [] h (some (.int r.1)) r.2
  refine Sx.o (fun _ _ _ k => ex_aload_n dX11_after_0 rfl rfl k) ?_
  obtain ⟨x23, e_x23, hb24⟩ := ob2 hb
  refine Sx.o (fun _ _ _ k => op_getR fX11_19 dX11_after_1 e_x23 k) ?_
  refine Sx.o (fun _ _ _ k => ex_iload_n dX11_after_4 rfl k) ?_
  obtain ⟨x25, e_x25, hb26⟩ := ob2 hb24
  refine sx_callV (dc := 0) (as := [.int v1]) (stq := [va_rf x25]) (by omega) dX11_after_5 MX7_at kX11_140 iX7_at sX7_at rfl rfl (Table_at_o e_x25) rfl rfl (Nat.le_of_ble_eq_true rfl) (Nat.le_of_ble_eq_true rfl) (Table_at_s e_x25) rfl ?_
  refine Sx.o (L' := [.ref v0, .int v1, .int v2, .int v3, va_rf x25, .retAddr 0]) (fun _ _ _ k => ex_astore dX11_after_8 (am_rfv _) (by decide) k) ?_
  refine Sx.o (fun _ _ _ k => ex_aload dX11_after_10 rfl (am_rfv _) k) ?_
  refine Sx.b (fun _ _ _ k1 k2 => op_ifnull (r := x25) 26 dX11_after_12 (by decide) k1 k2) (fun q => ?_) (fun q => ?_)
  · have hb27 := ip q hb26
    refine Sx.o (fun _ _ _ k => op_iconst (-1 : Int32) dX11_after_26 (by decide) k) ?_
    obtain rfl := Option.some.inj hb27
    exact Sx.r (fun _ _ _ k => ex_iret rfl dX11_after_27 k)
  · have hb28 := iq q hb26
    obtain ⟨x29, e_x29, hb30⟩ := ob2 hb28
    subst e_x29
    refine Sx.o (fun _ _ _ k => ex_iload_n dX11_after_15 rfl k) ?_
    refine Sx.b (fun _ _ _ k1 k2 => ex_if_lt 26 dX11_after_16 (by decide) k1 k2) (fun q => ?_) (fun q => ?_)
    · have hb31 := ip q hb30
      refine Sx.o (fun _ _ _ k => op_iconst (-1 : Int32) dX11_after_26 (by decide) k) ?_
      obtain rfl := Option.some.inj hb31
      exact Sx.r (fun _ _ _ k => ex_iret rfl dX11_after_27 k)
    · have hb32 := iq q hb30
      refine Sx.o (fun _ _ _ k => ex_iload_n dX11_after_19 rfl k) ?_
      refine Sx.o (fun _ _ _ k => op_sipush (300 : Int32) dX11_after_20 (by decide) k) ?_
      refine Sx.b (fun _ _ _ k1 k2 => ex_icmp_le 28 dX11_after_23 (by decide) k1 k2) (fun q => ?_) (fun q => ?_)
      · have hb33 := ip q hb32
        refine Sx.o (fun _ _ _ k => ex_aload_n dX11_after_28 rfl rfl k) ?_
        obtain ⟨x35, e_x35, hb36⟩ := ob2 hb33
        refine Sx.o (fun _ _ _ k => op_getR fX11_93 dX11_after_29 e_x35 k) ?_
        refine Sx.o (fun _ _ _ k => ex_aload dX11_after_32 rfl rfl k) ?_
        obtain ⟨h37, e_h37, hb38⟩ := ob2 hb36
        refine sx_callV (dc := 1) (as := [.ref x29]) (stq := []) (by omega) dX11_after_34 MX4_copy kX11_219 iX4_copy sX4_copy rfl rfl (Row_copy_o e_h37) rfl rfl (Nat.le_of_ble_eq_true rfl) (Nat.le_of_ble_eq_true rfl) (Row_copy_s e_h37) rfl ?_
        refine Sx.o (fun _ _ _ k => op_iconst (0 : Int32) dX11_after_37 (by decide) k) ?_
        refine Sx.o (L' := [.ref v0, .int v1, .int v2, .int v3, .ref x29, .int (0 : Int32)]) (fun _ _ _ k => ex_istore dX11_after_38 (by decide) k) ?_
        refine Sx.fg [true, false, true, true, false, true] ?_
        exact Top_after_40_s hb38
      · have hb34 := iq q hb32
        refine Sx.o (fun _ _ _ k => op_iconst (-1 : Int32) dX11_after_26 (by decide) k) ?_
        obtain rfl := Option.some.inj hb34
        exact Sx.r (fun _ _ _ k => ex_iret rfl dX11_after_27 k)
set_option maxHeartbeats 1000000 in
set_option maxRecDepth 100000 in
theorem Top_after_q {v0 : Nat} {v1 : Int32} {v2 : Int32} {v3 : Int32} {h : am_H} {r : (Int32 × am_H)} (hb : Top_after v0 v1 v2 v3 h = some r) : Eqs h r.2 := by
  unfold Top_after at hb
  have hb := (iz hb).2
  have w0 := Eqs.rf h
  obtain ⟨x23, e_x23, hb24⟩ := ob2 hb
  obtain ⟨x25, e_x25, hb26⟩ := ob2 hb24
  by_cases q : x25 = none
  · have hb27 := ip q hb26
    obtain rfl := Option.some.inj hb27
    exact w0
  · have hb28 := iq q hb26
    obtain ⟨x29, e_x29, hb30⟩ := ob2 hb28
    subst e_x29
    by_cases q : v2 < (0 : Int32)
    · have hb31 := ip q hb30
      obtain rfl := Option.some.inj hb31
      exact w0
    · have hb32 := iq q hb30
      by_cases q : v2 ≤ (300 : Int32)
      · have hb33 := ip q hb32
        obtain ⟨x35, e_x35, hb36⟩ := ob2 hb33
        obtain ⟨h37, e_h37, hb38⟩ := ob2 hb36
        have w39 := w0.tr (Row_copy_q e_h37)
        exact w39.tr (Top_after_40_q hb38)
      · have hb34 := iq q hb32
        obtain rfl := Option.some.inj hb34
        exact w0
theorem Top_after_o {v0 : Nat} {v1 : Int32} {v2 : Int32} {v3 : Int32} {h : am_H} {r : (Int32 × am_H)} (hb : Top_after v0 v1 v2 v3 h = some r) : isO h 11 v0 = true := by
  unfold Top_after at hb
  exact (iz hb).1
set_option maxHeartbeats 1000000 in
set_option maxRecDepth 100000 in
noncomputable def Top_answer (v0 : Nat) (v1 : Int32) (h : am_H) : Option (Int32 × am_H) := if isO h 11 v0 = true then (pV h 11 v0 14 (.int (0 : Int32))).bind fun h1 => some (v1, h1) else none
set_option maxHeartbeats 1000000 in
set_option maxRecDepth 100000 in
theorem Top_answer_s {v0 : Nat} {v1 : Int32} {h : am_H} {r : (Int32 × am_H)} (hb : Top_answer v0 v1 h = some r) : Sx 0 mX11_answer 0 (am_en [.ref v0, .int v1] 2) [] h (some (.int r.1)) r.2 := by
  unfold Top_answer at hb
  have hb := (iz hb).2
  show Sx 0 mX11_answer 0 [.ref v0, .int v1] [] h (some (.int r.1)) r.2
  refine Sx.o (fun _ _ _ k => ex_aload_n dX11_answer_0 rfl rfl k) ?_
  refine Sx.o (fun _ _ _ k => op_iconst (0 : Int32) dX11_answer_1 (by decide) k) ?_
  obtain ⟨h1, e_h1, hb2⟩ := ob2 hb
  refine Sx.p (pV_q e_h1) (fun _ _ _ k => op_put pX11_105 dX11_answer_2 e_h1 (fun _ => rfl) (fun _ => rfl) k) ?_
  refine Sx.o (fun _ _ _ k => ex_iload_n dX11_answer_5 rfl k) ?_
  obtain rfl := Option.some.inj hb2
  exact Sx.r (fun _ _ _ k => ex_iret rfl dX11_answer_6 k)
set_option maxHeartbeats 1000000 in
set_option maxRecDepth 100000 in
theorem Top_answer_q {v0 : Nat} {v1 : Int32} {h : am_H} {r : (Int32 × am_H)} (hb : Top_answer v0 v1 h = some r) : Eqs h r.2 := by
  unfold Top_answer at hb
  have hb := (iz hb).2
  have w0 := Eqs.rf h
  obtain ⟨h1, e_h1, hb2⟩ := ob2 hb
  have w3 := w0.tr (pV_q e_h1)
  obtain rfl := Option.some.inj hb2
  exact w3
theorem Top_answer_o {v0 : Nat} {v1 : Int32} {h : am_H} {r : (Int32 × am_H)} (hb : Top_answer v0 v1 h = some r) : isO h 11 v0 = true := by
  unfold Top_answer at hb
  exact (iz hb).1
set_option maxHeartbeats 1000000 in
set_option maxRecDepth 100000 in
noncomputable def Top_refuse (v0 : Nat) (v1 : Int32) (h : am_H) : Option (Int32 × am_H) := if isO h 11 v0 = true then (pV h 11 v0 14 (.int v1)).bind fun h1 => if (0 : Int32) ≤ v1 then some (v1, h1) else if v1 < (-6 : Int32) then some (v1, h1) else (gR h1 11 v0 12).bind fun x8 => (aI h1 0 x8 (-v1)).bind fun x10 => (sI h1 x8 (-v1) (x10 + (1 : Int32))).bind fun h12 => some (v1, h12) else none
set_option maxHeartbeats 1000000 in
set_option maxRecDepth 100000 in
theorem Top_refuse_s {v0 : Nat} {v1 : Int32} {h : am_H} {r : (Int32 × am_H)} (hb : Top_refuse v0 v1 h = some r) : Sx 0 mX11_refuse 0 (am_en [.ref v0, .int v1] 2) [] h (some (.int r.1)) r.2 := by
  unfold Top_refuse at hb
  have hb := (iz hb).2
  show Sx 0 mX11_refuse 0 [.ref v0, .int v1] [] h (some (.int r.1)) r.2
  refine Sx.o (fun _ _ _ k => ex_aload_n dX11_refuse_0 rfl rfl k) ?_
  refine Sx.o (fun _ _ _ k => ex_iload_n dX11_refuse_1 rfl k) ?_
  obtain ⟨h1, e_h1, hb2⟩ := ob2 hb
  refine Sx.p (pV_q e_h1) (fun _ _ _ k => op_put pX11_105 dX11_refuse_2 e_h1 (fun _ => rfl) (fun _ => rfl) k) ?_
  refine Sx.o (fun _ _ _ k => ex_iload_n dX11_refuse_5 rfl k) ?_
  refine Sx.b (fun _ _ _ k1 k2 => ex_if_ge 26 dX11_refuse_6 (by decide) k1 k2) (fun q => ?_) (fun q => ?_)
  · have hb4 := ip q hb2
    refine Sx.o (fun _ _ _ k => ex_iload_n dX11_refuse_26 rfl k) ?_
    obtain rfl := Option.some.inj hb4
    exact Sx.r (fun _ _ _ k => ex_iret rfl dX11_refuse_27 k)
  · have hb5 := iq q hb2
    refine Sx.o (fun _ _ _ k => ex_iload_n dX11_refuse_9 rfl k) ?_
    refine Sx.o (fun _ _ _ k => op_bipush (-6 : Int32) dX11_refuse_10 (by decide) k) ?_
    refine Sx.b (fun _ _ _ k1 k2 => ex_icmp_lt 26 dX11_refuse_12 (by decide) k1 k2) (fun q => ?_) (fun q => ?_)
    · have hb6 := ip q hb5
      refine Sx.o (fun _ _ _ k => ex_iload_n dX11_refuse_26 rfl k) ?_
      obtain rfl := Option.some.inj hb6
      exact Sx.r (fun _ _ _ k => ex_iret rfl dX11_refuse_27 k)
    · have hb7 := iq q hb5
      refine Sx.o (fun _ _ _ k => ex_aload_n dX11_refuse_15 rfl rfl k) ?_
      obtain ⟨x8, e_x8, hb9⟩ := ob2 hb7
      refine Sx.o (fun _ _ _ k => op_getR fX11_97 dX11_refuse_16 e_x8 k) ?_
      refine Sx.o (fun _ _ _ k => ex_iload_n dX11_refuse_19 rfl k) ?_
      refine Sx.o (fun _ _ _ k => ex_ineg dX11_refuse_20 k) ?_
      refine Sx.o (fun _ _ _ k => ex_dup2 dX11_refuse_21 rfl rfl k) ?_
      obtain ⟨x10, e_x10, hb11⟩ := ob2 hb9
      refine Sx.o (fun _ _ _ k => op_iald dX11_refuse_22 e_x10 k) ?_
      refine Sx.o (fun _ _ _ k => op_iconst (1 : Int32) dX11_refuse_23 (by decide) k) ?_
      refine Sx.o (fun _ _ _ k => ex_iadd dX11_refuse_24 k) ?_
      obtain ⟨h12, e_h12, hb13⟩ := ob2 hb11
      refine Sx.p (sI_q e_h12) (fun _ _ _ k => op_iast dX11_refuse_25 e_h12 k) ?_
      refine Sx.o (fun _ _ _ k => ex_iload_n dX11_refuse_26 rfl k) ?_
      obtain rfl := Option.some.inj hb13
      exact Sx.r (fun _ _ _ k => ex_iret rfl dX11_refuse_27 k)
set_option maxHeartbeats 1000000 in
set_option maxRecDepth 100000 in
theorem Top_refuse_q {v0 : Nat} {v1 : Int32} {h : am_H} {r : (Int32 × am_H)} (hb : Top_refuse v0 v1 h = some r) : Eqs h r.2 := by
  unfold Top_refuse at hb
  have hb := (iz hb).2
  have w0 := Eqs.rf h
  obtain ⟨h1, e_h1, hb2⟩ := ob2 hb
  have w3 := w0.tr (pV_q e_h1)
  by_cases q : (0 : Int32) ≤ v1
  · have hb4 := ip q hb2
    obtain rfl := Option.some.inj hb4
    exact w3
  · have hb5 := iq q hb2
    by_cases q : v1 < (-6 : Int32)
    · have hb6 := ip q hb5
      obtain rfl := Option.some.inj hb6
      exact w3
    · have hb7 := iq q hb5
      obtain ⟨x8, e_x8, hb9⟩ := ob2 hb7
      obtain ⟨x10, e_x10, hb11⟩ := ob2 hb9
      obtain ⟨h12, e_h12, hb13⟩ := ob2 hb11
      have w14 := w3.tr (sI_q e_h12)
      obtain rfl := Option.some.inj hb13
      exact w14
theorem Top_refuse_o {v0 : Nat} {v1 : Int32} {h : am_H} {r : (Int32 × am_H)} (hb : Top_refuse v0 v1 h = some r) : isO h 11 v0 = true := by
  unfold Top_refuse at hb
  exact (iz hb).1
set_option maxHeartbeats 1000000 in
set_option maxRecDepth 100000 in
noncomputable def Top_back_13 (v0 : Nat) (h : am_H) : Option (Int32 × am_H) := (Top_refuse v0 (-1 : Int32) h).bind fun r1 => some (r1.1, r1.2)
set_option maxHeartbeats 1000000 in
set_option maxRecDepth 100000 in
theorem Top_back_13_s {v0 : Nat} {h : am_H} {r : (Int32 × am_H)} (hb : Top_back_13 v0 h = some r) : Sx 4 mX11_back 13 [.ref v0, .retAddr 0] [] h (some (.int r.1)) r.2 := by
  unfold Top_back_13 at hb
  refine Sx.o (fun _ _ _ k => ex_aload_n dX11_back_13 rfl rfl k) ?_
  refine Sx.o (fun _ _ _ k => op_iconst (-1 : Int32) dX11_back_14 (by decide) k) ?_
  obtain ⟨r1, e_r1, hb2⟩ := ob2 hb
  refine sx_callV (dc := 0) (as := [.int (-1 : Int32)]) (stq := [.int r1.1]) (by omega) dX11_back_15 MX11_refuse kX11_118 iX11_refuse sX11_refuse rfl rfl (Top_refuse_o e_r1) rfl rfl (Nat.le_of_ble_eq_true rfl) (Nat.le_of_ble_eq_true rfl) (Top_refuse_s e_r1) rfl ?_
  obtain rfl := Option.some.inj hb2
  exact Sx.r (fun _ _ _ k => ex_iret rfl dX11_back_18 k)
set_option maxHeartbeats 1000000 in
set_option maxRecDepth 100000 in
theorem Top_back_13_q {v0 : Nat} {h : am_H} {r : (Int32 × am_H)} (hb : Top_back_13 v0 h = some r) : Eqs h r.2 := by
  unfold Top_back_13 at hb
  have w0 := Eqs.rf h
  obtain ⟨r1, e_r1, hb2⟩ := ob2 hb
  have w3 := w0.tr (Top_refuse_q e_r1)
  obtain rfl := Option.some.inj hb2
  exact w3
set_option maxHeartbeats 1000000 in
set_option maxRecDepth 100000 in
noncomputable def Top_back (v0 : Nat) (v1 : Int32) (h : am_H) : Option (Int32 × am_H) := if isO h 11 v0 = true then if v1 < (0 : Int32) then Top_back_13 v0 h else (gR h 11 v0 2).bind fun x6 => (aL h x6).bind fun x8 => if v1 < x8 then (gR h 11 v0 3).bind fun x12 => (aI h 2 x12 v1).bind fun x14 => if x14 = (0 : Int32) then (Top_refuse v0 (-2 : Int32) h).bind fun r37 => some (r37.1, r37.2) else (gR h 11 v0 1).bind fun x18 => (gR h 11 v0 2).bind fun x20 => (aN h 5 x20 v1).bind fun x22 => (x22).bind fun x24 => (Table_copy x18 x24 h).bind fun h26 => (gR h26 11 v0 4).bind fun x29 => (Past_clear x29 h26).bind fun h31 => (Top_answer v0 (0 : Int32) h31).bind fun r34 => some (r34.1, r34.2) else Top_back_13 v0 h else none
set_option maxHeartbeats 1000000 in
set_option maxRecDepth 100000 in
theorem Top_back_s {v0 : Nat} {v1 : Int32} {h : am_H} {r : (Int32 × am_H)} (hb : Top_back v0 v1 h = some r) : Sx 4 mX11_back 0 (am_en [.ref v0, .int v1] 2) [] h (some (.int r.1)) r.2 := by
  unfold Top_back at hb
  have hb := (iz hb).2
  show Sx 4 mX11_back 0 [.ref v0, .int v1] [] h (some (.int r.1)) r.2
  refine Sx.o (fun _ _ _ k => ex_iload_n dX11_back_0 rfl k) ?_
  refine Sx.b (fun _ _ _ k1 k2 => ex_if_lt 13 dX11_back_1 (by decide) k1 k2) (fun q => ?_) (fun q => ?_)
  · have hb4 := ip q hb
    refine Sx.fg [true, false] ?_
    exact Top_back_13_s hb4
  · have hb5 := iq q hb
    refine Sx.o (fun _ _ _ k => ex_iload_n dX11_back_4 rfl k) ?_
    refine Sx.o (fun _ _ _ k => ex_aload_n dX11_back_5 rfl rfl k) ?_
    obtain ⟨x6, e_x6, hb7⟩ := ob2 hb5
    refine Sx.o (fun _ _ _ k => op_getR fX11_23 dX11_back_6 e_x6 k) ?_
    obtain ⟨x8, e_x8, hb9⟩ := ob2 hb7
    refine Sx.o (fun _ _ _ k => op_alen dX11_back_9 e_x8 k) ?_
    refine Sx.b (fun _ _ _ k1 k2 => ex_icmp_lt 19 dX11_back_10 (by decide) k1 k2) (fun q => ?_) (fun q => ?_)
    · have hb10 := ip q hb9
      refine Sx.o (fun _ _ _ k => ex_aload_n dX11_back_19 rfl rfl k) ?_
      obtain ⟨x12, e_x12, hb13⟩ := ob2 hb10
      refine Sx.o (fun _ _ _ k => op_getR fX11_27 dX11_back_20 e_x12 k) ?_
      refine Sx.o (fun _ _ _ k => ex_iload_n dX11_back_23 rfl k) ?_
      obtain ⟨x14, e_x14, hb15⟩ := ob2 hb13
      refine Sx.o (fun _ _ _ k => op_zald dX11_back_24 e_x14 k) ?_
      refine Sx.bn (fun _ _ _ k1 k2 => ex_if_ne 35 dX11_back_25 (by decide) k1 k2) (fun q => ?_) (fun q => ?_)
      · have hb16 := iq q hb15
        refine Sx.o (fun _ _ _ k => ex_aload_n dX11_back_35 rfl rfl k) ?_
        obtain ⟨x18, e_x18, hb19⟩ := ob2 hb16
        refine Sx.o (fun _ _ _ k => op_getR fX11_19 dX11_back_36 e_x18 k) ?_
        refine Sx.o (fun _ _ _ k => ex_aload_n dX11_back_39 rfl rfl k) ?_
        obtain ⟨x20, e_x20, hb21⟩ := ob2 hb19
        refine Sx.o (fun _ _ _ k => op_getR fX11_23 dX11_back_40 e_x20 k) ?_
        refine Sx.o (fun _ _ _ k => ex_iload_n dX11_back_43 rfl k) ?_
        obtain ⟨x22, e_x22, hb23⟩ := ob2 hb21
        refine Sx.o (fun _ _ _ k => op_aald (Or.inr (Or.inl rfl)) dX11_back_44 e_x22 k) ?_
        obtain ⟨x24, e_x24, hb25⟩ := ob2 hb23
        subst e_x24
        obtain ⟨h26, e_h26, hb27⟩ := ob2 hb25
        refine sx_callV (dc := 3) (as := [.ref x24]) (stq := []) (by omega) dX11_back_45 MX7_copy kX11_322 iX7_copy sX7_copy rfl rfl (Table_copy_o e_h26) rfl rfl (Nat.le_of_ble_eq_true rfl) (Nat.le_of_ble_eq_true rfl) (Table_copy_s e_h26) rfl ?_
        refine Sx.o (fun _ _ _ k => ex_aload_n dX11_back_48 rfl rfl k) ?_
        obtain ⟨x29, e_x29, hb30⟩ := ob2 hb27
        refine Sx.o (fun _ _ _ k => op_getR fX11_34 dX11_back_49 e_x29 k) ?_
        obtain ⟨h31, e_h31, hb32⟩ := ob2 hb30
        refine sx_callV (dc := 0) (as := []) (stq := []) (by omega) dX11_back_52 MX2_clear kX11_126 iX2_clear sX2_clear rfl rfl (Past_clear_o e_h31) rfl rfl (Nat.le_of_ble_eq_true rfl) (Nat.le_of_ble_eq_true rfl) (Past_clear_s e_h31) rfl ?_
        refine Sx.o (fun _ _ _ k => ex_aload_n dX11_back_55 rfl rfl k) ?_
        refine Sx.o (fun _ _ _ k => op_iconst (0 : Int32) dX11_back_56 (by decide) k) ?_
        obtain ⟨r34, e_r34, hb35⟩ := ob2 hb32
        refine sx_callV (dc := 0) (as := [.int (0 : Int32)]) (stq := [.int r34.1]) (by omega) dX11_back_57 MX11_answer kX11_137 iX11_answer sX11_answer rfl rfl (Top_answer_o e_r34) rfl rfl (Nat.le_of_ble_eq_true rfl) (Nat.le_of_ble_eq_true rfl) (Top_answer_s e_r34) rfl ?_
        obtain rfl := Option.some.inj hb35
        exact Sx.r (fun _ _ _ k => ex_iret rfl dX11_back_60 k)
      · have hb17 := ip q hb15
        refine Sx.o (fun _ _ _ k => ex_aload_n dX11_back_28 rfl rfl k) ?_
        refine Sx.o (fun _ _ _ k => op_bipush (-2 : Int32) dX11_back_29 (by decide) k) ?_
        obtain ⟨r37, e_r37, hb38⟩ := ob2 hb17
        refine sx_callV (dc := 0) (as := [.int (-2 : Int32)]) (stq := [.int r37.1]) (by omega) dX11_back_31 MX11_refuse kX11_118 iX11_refuse sX11_refuse rfl rfl (Top_refuse_o e_r37) rfl rfl (Nat.le_of_ble_eq_true rfl) (Nat.le_of_ble_eq_true rfl) (Top_refuse_s e_r37) rfl ?_
        obtain rfl := Option.some.inj hb38
        exact Sx.r (fun _ _ _ k => ex_iret rfl dX11_back_34 k)
    · have hb11 := iq q hb9
      refine Sx.fg [true, false] ?_
      exact Top_back_13_s hb11
set_option maxHeartbeats 1000000 in
set_option maxRecDepth 100000 in
theorem Top_back_q {v0 : Nat} {v1 : Int32} {h : am_H} {r : (Int32 × am_H)} (hb : Top_back v0 v1 h = some r) : Eqs h r.2 := by
  unfold Top_back at hb
  have hb := (iz hb).2
  have w0 := Eqs.rf h
  by_cases q : v1 < (0 : Int32)
  · have hb4 := ip q hb
    exact w0.tr (Top_back_13_q hb4)
  · have hb5 := iq q hb
    obtain ⟨x6, e_x6, hb7⟩ := ob2 hb5
    obtain ⟨x8, e_x8, hb9⟩ := ob2 hb7
    by_cases q : v1 < x8
    · have hb10 := ip q hb9
      obtain ⟨x12, e_x12, hb13⟩ := ob2 hb10
      obtain ⟨x14, e_x14, hb15⟩ := ob2 hb13
      by_cases q : x14 = (0 : Int32)
      · have hb17 := ip q hb15
        obtain ⟨r37, e_r37, hb38⟩ := ob2 hb17
        have w39 := w0.tr (Top_refuse_q e_r37)
        obtain rfl := Option.some.inj hb38
        exact w39
      · have hb16 := iq q hb15
        obtain ⟨x18, e_x18, hb19⟩ := ob2 hb16
        obtain ⟨x20, e_x20, hb21⟩ := ob2 hb19
        obtain ⟨x22, e_x22, hb23⟩ := ob2 hb21
        obtain ⟨x24, e_x24, hb25⟩ := ob2 hb23
        subst e_x24
        obtain ⟨h26, e_h26, hb27⟩ := ob2 hb25
        have w28 := w0.tr (Table_copy_q e_h26)
        obtain ⟨x29, e_x29, hb30⟩ := ob2 hb27
        obtain ⟨h31, e_h31, hb32⟩ := ob2 hb30
        have w33 := w28.tr (Past_clear_q e_h31)
        obtain ⟨r34, e_r34, hb35⟩ := ob2 hb32
        have w36 := w33.tr (Top_answer_q e_r34)
        obtain rfl := Option.some.inj hb35
        exact w36
    · have hb11 := iq q hb9
      exact w0.tr (Top_back_13_q hb11)
theorem Top_back_o {v0 : Nat} {v1 : Int32} {h : am_H} {r : (Int32 × am_H)} (hb : Top_back v0 v1 h = some r) : isO h 11 v0 = true := by
  unfold Top_back at hb
  exact (iz hb).1
set_option maxHeartbeats 1000000 in
set_option maxRecDepth 100000 in
noncomputable def Top_cheat (v0 : Nat) (v1 : Int32) (v2 : Int32) (h : am_H) : Option (Int32 × am_H) := if isO h 11 v0 = true then (gR h 11 v0 1).bind fun x1 => (Table_at x1 v1 h).bind fun x3 => if x3 = none then some ((-1 : Int32), h) else (x3).bind fun x7 => if v2 < (0 : Int32) then some ((-1 : Int32), h) else if v2 ≤ (2 : Int32) then (gR h 11 v0 6).bind fun x13 => (gR h 11 v0 11).bind fun x15 => (Steps_lookForCheat x13 x7 x15 h).bind fun h17 => if v2 = (0 : Int32) then (gR h17 11 v0 6).bind fun x32 => (gI h17 6 x32 5).bind fun x34 => some (x34, h17) else if v2 = (1 : Int32) then (gR h17 11 v0 6).bind fun x28 => (gI h17 6 x28 6).bind fun x30 => some (x30, h17) else (gR h17 11 v0 6).bind fun x24 => (gI h17 6 x24 7).bind fun x26 => some (x26, h17) else some ((-1 : Int32), h) else none
set_option maxHeartbeats 1000000 in
set_option maxRecDepth 100000 in
theorem Top_cheat_s {v0 : Nat} {v1 : Int32} {v2 : Int32} {h : am_H} {r : (Int32 × am_H)} (hb : Top_cheat v0 v1 v2 h = some r) : Sx 6 mX11_cheat 0 (am_en [.ref v0, .int v1, .int v2] 4) [] h (some (.int r.1)) r.2 := by
  unfold Top_cheat at hb
  have hb := (iz hb).2
  show Sx 6 mX11_cheat 0 [.ref v0, .int v1, .int v2, .retAddr 0] [] h (some (.int r.1)) r.2
  refine Sx.o (fun _ _ _ k => ex_aload_n dX11_cheat_0 rfl rfl k) ?_
  obtain ⟨x1, e_x1, hb2⟩ := ob2 hb
  refine Sx.o (fun _ _ _ k => op_getR fX11_19 dX11_cheat_1 e_x1 k) ?_
  refine Sx.o (fun _ _ _ k => ex_iload_n dX11_cheat_4 rfl k) ?_
  obtain ⟨x3, e_x3, hb4⟩ := ob2 hb2
  refine sx_callV (dc := 0) (as := [.int v1]) (stq := [va_rf x3]) (by omega) dX11_cheat_5 MX7_at kX11_140 iX7_at sX7_at rfl rfl (Table_at_o e_x3) rfl rfl (Nat.le_of_ble_eq_true rfl) (Nat.le_of_ble_eq_true rfl) (Table_at_s e_x3) rfl ?_
  refine Sx.o (L' := [.ref v0, .int v1, .int v2, va_rf x3]) (fun _ _ _ k => ex_astore_n dX11_cheat_8 (am_rfv _) (by decide) k) ?_
  refine Sx.o (fun _ _ _ k => ex_aload_n dX11_cheat_9 rfl (am_rfv _) k) ?_
  refine Sx.b (fun _ _ _ k1 k2 => op_ifnull (r := x3) 22 dX11_cheat_10 (by decide) k1 k2) (fun q => ?_) (fun q => ?_)
  · have hb5 := ip q hb4
    refine Sx.o (fun _ _ _ k => op_iconst (-1 : Int32) dX11_cheat_22 (by decide) k) ?_
    obtain rfl := Option.some.inj hb5
    exact Sx.r (fun _ _ _ k => ex_iret rfl dX11_cheat_23 k)
  · have hb6 := iq q hb4
    obtain ⟨x7, e_x7, hb8⟩ := ob2 hb6
    subst e_x7
    refine Sx.o (fun _ _ _ k => ex_iload_n dX11_cheat_13 rfl k) ?_
    refine Sx.b (fun _ _ _ k1 k2 => ex_if_lt 22 dX11_cheat_14 (by decide) k1 k2) (fun q => ?_) (fun q => ?_)
    · have hb9 := ip q hb8
      refine Sx.o (fun _ _ _ k => op_iconst (-1 : Int32) dX11_cheat_22 (by decide) k) ?_
      obtain rfl := Option.some.inj hb9
      exact Sx.r (fun _ _ _ k => ex_iret rfl dX11_cheat_23 k)
    · have hb10 := iq q hb8
      refine Sx.o (fun _ _ _ k => ex_iload_n dX11_cheat_17 rfl k) ?_
      refine Sx.o (fun _ _ _ k => op_iconst (2 : Int32) dX11_cheat_18 (by decide) k) ?_
      refine Sx.b (fun _ _ _ k1 k2 => ex_icmp_le 24 dX11_cheat_19 (by decide) k1 k2) (fun q => ?_) (fun q => ?_)
      · have hb11 := ip q hb10
        refine Sx.o (fun _ _ _ k => ex_aload_n dX11_cheat_24 rfl rfl k) ?_
        obtain ⟨x13, e_x13, hb14⟩ := ob2 hb11
        refine Sx.o (fun _ _ _ k => op_getR fX11_52 dX11_cheat_25 e_x13 k) ?_
        refine Sx.o (fun _ _ _ k => ex_aload_n dX11_cheat_28 rfl rfl k) ?_
        refine Sx.o (fun _ _ _ k => ex_aload_n dX11_cheat_29 rfl rfl k) ?_
        obtain ⟨x15, e_x15, hb16⟩ := ob2 hb14
        refine Sx.o (fun _ _ _ k => op_getR fX11_93 dX11_cheat_30 e_x15 k) ?_
        obtain ⟨h17, e_h17, hb18⟩ := ob2 hb16
        refine sx_callV (dc := 5) (as := [.ref x7, .ref x15]) (stq := []) (by omega) dX11_cheat_33 MX6_lookForCheat kX11_263 iX6_lookForCheat sX6_lookForCheat rfl rfl (Steps_lookForCheat_o e_h17) rfl rfl (Nat.le_of_ble_eq_true rfl) (Nat.le_of_ble_eq_true rfl) (Steps_lookForCheat_s e_h17) rfl ?_
        refine Sx.o (fun _ _ _ k => ex_iload_n dX11_cheat_36 rfl k) ?_
        refine Sx.bn (fun _ _ _ k1 k2 => ex_if_ne 48 dX11_cheat_37 (by decide) k1 k2) (fun q => ?_) (fun q => ?_)
        · have hb20 := iq q hb18
          refine Sx.o (fun _ _ _ k => ex_iload_n dX11_cheat_48 rfl k) ?_
          refine Sx.o (fun _ _ _ k => op_iconst (1 : Int32) dX11_cheat_49 (by decide) k) ?_
          refine Sx.bn (fun _ _ _ k1 k2 => ex_icmp_ne 63 dX11_cheat_50 (by decide) k1 k2) (fun q => ?_) (fun q => ?_)
          · have hb22 := iq q hb20
            refine Sx.o (fun _ _ _ k => ex_aload_n dX11_cheat_63 rfl rfl k) ?_
            obtain ⟨x24, e_x24, hb25⟩ := ob2 hb22
            refine Sx.o (fun _ _ _ k => op_getR fX11_52 dX11_cheat_64 e_x24 k) ?_
            obtain ⟨x26, e_x26, hb27⟩ := ob2 hb25
            refine Sx.o (fun _ _ _ k => op_getI fX11_273 dX11_cheat_67 e_x26 k) ?_
            obtain rfl := Option.some.inj hb27
            exact Sx.r (fun _ _ _ k => ex_iret rfl dX11_cheat_70 k)
          · have hb23 := ip q hb20
            refine Sx.o (fun _ _ _ k => ex_aload_n dX11_cheat_53 rfl rfl k) ?_
            obtain ⟨x28, e_x28, hb29⟩ := ob2 hb23
            refine Sx.o (fun _ _ _ k => op_getR fX11_52 dX11_cheat_54 e_x28 k) ?_
            obtain ⟨x30, e_x30, hb31⟩ := ob2 hb29
            refine Sx.o (fun _ _ _ k => op_getI fX11_270 dX11_cheat_57 e_x30 k) ?_
            refine Sx.o (fun _ _ _ k => ex_goto 70 dX11_cheat_60 (by decide) k) ?_
            obtain rfl := Option.some.inj hb31
            exact Sx.r (fun _ _ _ k => ex_iret rfl dX11_cheat_70 k)
        · have hb21 := ip q hb18
          refine Sx.o (fun _ _ _ k => ex_aload_n dX11_cheat_40 rfl rfl k) ?_
          obtain ⟨x32, e_x32, hb33⟩ := ob2 hb21
          refine Sx.o (fun _ _ _ k => op_getR fX11_52 dX11_cheat_41 e_x32 k) ?_
          obtain ⟨x34, e_x34, hb35⟩ := ob2 hb33
          refine Sx.o (fun _ _ _ k => op_getI fX11_267 dX11_cheat_44 e_x34 k) ?_
          obtain rfl := Option.some.inj hb35
          exact Sx.r (fun _ _ _ k => ex_iret rfl dX11_cheat_47 k)
      · have hb12 := iq q hb10
        refine Sx.o (fun _ _ _ k => op_iconst (-1 : Int32) dX11_cheat_22 (by decide) k) ?_
        obtain rfl := Option.some.inj hb12
        exact Sx.r (fun _ _ _ k => ex_iret rfl dX11_cheat_23 k)
set_option maxHeartbeats 1000000 in
set_option maxRecDepth 100000 in
theorem Top_cheat_q {v0 : Nat} {v1 : Int32} {v2 : Int32} {h : am_H} {r : (Int32 × am_H)} (hb : Top_cheat v0 v1 v2 h = some r) : Eqs h r.2 := by
  unfold Top_cheat at hb
  have hb := (iz hb).2
  have w0 := Eqs.rf h
  obtain ⟨x1, e_x1, hb2⟩ := ob2 hb
  obtain ⟨x3, e_x3, hb4⟩ := ob2 hb2
  by_cases q : x3 = none
  · have hb5 := ip q hb4
    obtain rfl := Option.some.inj hb5
    exact w0
  · have hb6 := iq q hb4
    obtain ⟨x7, e_x7, hb8⟩ := ob2 hb6
    subst e_x7
    by_cases q : v2 < (0 : Int32)
    · have hb9 := ip q hb8
      obtain rfl := Option.some.inj hb9
      exact w0
    · have hb10 := iq q hb8
      by_cases q : v2 ≤ (2 : Int32)
      · have hb11 := ip q hb10
        obtain ⟨x13, e_x13, hb14⟩ := ob2 hb11
        obtain ⟨x15, e_x15, hb16⟩ := ob2 hb14
        obtain ⟨h17, e_h17, hb18⟩ := ob2 hb16
        have w19 := w0.tr (Steps_lookForCheat_q e_h17)
        by_cases q : v2 = (0 : Int32)
        · have hb21 := ip q hb18
          obtain ⟨x32, e_x32, hb33⟩ := ob2 hb21
          obtain ⟨x34, e_x34, hb35⟩ := ob2 hb33
          obtain rfl := Option.some.inj hb35
          exact w19
        · have hb20 := iq q hb18
          by_cases q : v2 = (1 : Int32)
          · have hb23 := ip q hb20
            obtain ⟨x28, e_x28, hb29⟩ := ob2 hb23
            obtain ⟨x30, e_x30, hb31⟩ := ob2 hb29
            obtain rfl := Option.some.inj hb31
            exact w19
          · have hb22 := iq q hb20
            obtain ⟨x24, e_x24, hb25⟩ := ob2 hb22
            obtain ⟨x26, e_x26, hb27⟩ := ob2 hb25
            obtain rfl := Option.some.inj hb27
            exact w19
      · have hb12 := iq q hb10
        obtain rfl := Option.some.inj hb12
        exact w0
theorem Top_cheat_o {v0 : Nat} {v1 : Int32} {v2 : Int32} {h : am_H} {r : (Int32 × am_H)} (hb : Top_cheat v0 v1 v2 h = some r) : isO h 11 v0 = true := by
  unfold Top_cheat at hb
  exact (iz hb).1
set_option maxHeartbeats 1000000 in
set_option maxRecDepth 100000 in
noncomputable def Top_count (v0 : Nat) (v1 : Int32) (h : am_H) : Option Int32 := if isO h 11 v0 = true then if v1 = (0 : Int32) then (gR h 11 v0 1).bind fun x2 => (gI h 7 x2 0).bind fun x4 => some x4 else if v1 = (1 : Int32) then (gR h 11 v0 1).bind fun x8 => (gI h 7 x8 1).bind fun x10 => some x10 else if v1 = (2 : Int32) then (gR h 11 v0 1).bind fun x14 => (gI h 7 x14 2).bind fun x16 => some x16 else if v1 = (3 : Int32) then (gR h 11 v0 4).bind fun x20 => (gI h 2 x20 0).bind fun x22 => some x22 else if v1 = (4 : Int32) then (gR h 11 v0 0).bind fun x26 => (gI h 8 x26 1).bind fun x28 => some x28 else if v1 = (5 : Int32) then (gR h 11 v0 12).bind fun x32 => (aI h 0 x32 (1 : Int32)).bind fun x34 => some x34 else if v1 = (6 : Int32) then (gR h 11 v0 12).bind fun x38 => (aI h 0 x38 (2 : Int32)).bind fun x40 => some x40 else if v1 = (7 : Int32) then (gR h 11 v0 12).bind fun x44 => (aI h 0 x44 (3 : Int32)).bind fun x46 => some x46 else if v1 = (8 : Int32) then (gR h 11 v0 12).bind fun x50 => (aI h 0 x50 (5 : Int32)).bind fun x52 => some x52 else if v1 = (9 : Int32) then (gR h 11 v0 12).bind fun x56 => (aI h 0 x56 (6 : Int32)).bind fun x58 => some x58 else if v1 = (10 : Int32) then (gR h 11 v0 1).bind fun x62 => (gI h 7 x62 3).bind fun x64 => some x64 else if v1 = (11 : Int32) then (gR h 11 v0 1).bind fun x68 => (gI h 7 x68 4).bind fun x70 => some x70 else if v1 = (12 : Int32) then (gR h 11 v0 1).bind fun x74 => (gI h 7 x74 5).bind fun x76 => some x76 else some (-1 : Int32) else none
set_option maxHeartbeats 1000000 in
set_option maxRecDepth 100000 in
theorem Top_count_s {v0 : Nat} {v1 : Int32} {h : am_H} {r : Int32} (hb : Top_count v0 v1 h = some r) : Sx 0 mX11_count 0 (am_en [.ref v0, .int v1] 2) [] h (some (.int r)) h := by
  unfold Top_count at hb
  have hb := (iz hb).2
  show Sx 0 mX11_count 0 [.ref v0, .int v1] [] h (some (.int r)) h
  refine Sx.o (fun _ _ _ k => ex_iload_n dX11_count_0 rfl k) ?_
  by_cases q0 : v1 = (0 : Int32)
  · have hb1 := ip q0 hb
    refine Sx.o (fun _ _ _ k => ex_tableIn 68 dX11_count_1 (by rw [q0]; decide) (by rw [q0]; decide) (show _ = some (67 : Int) by rw [q0]; decide) (by decide) k) ?_
    refine Sx.o (fun _ _ _ k => ex_aload_n dX11_count_68 rfl rfl k) ?_
    obtain ⟨x2, e_x2, hb3⟩ := ob2 hb1
    refine Sx.o (fun _ _ _ k => op_getR fX11_19 dX11_count_69 e_x2 k) ?_
    obtain ⟨x4, e_x4, hb5⟩ := ob2 hb3
    refine Sx.o (fun _ _ _ k => op_getI fX11_115 dX11_count_72 e_x4 k) ?_
    obtain rfl := Option.some.inj hb5
    exact Sx.r (fun _ _ _ k => ex_iret rfl dX11_count_75 k)
  · have hb6 := iq q0 hb
    by_cases q1 : v1 = (1 : Int32)
    · have hb7 := ip q1 hb6
      refine Sx.o (fun _ _ _ k => ex_tableIn 76 dX11_count_1 (by rw [q1]; decide) (by rw [q1]; decide) (show _ = some (75 : Int) by rw [q1]; decide) (by decide) k) ?_
      refine Sx.o (fun _ _ _ k => ex_aload_n dX11_count_76 rfl rfl k) ?_
      obtain ⟨x8, e_x8, hb9⟩ := ob2 hb7
      refine Sx.o (fun _ _ _ k => op_getR fX11_19 dX11_count_77 e_x8 k) ?_
      obtain ⟨x10, e_x10, hb11⟩ := ob2 hb9
      refine Sx.o (fun _ _ _ k => op_getI fX11_286 dX11_count_80 e_x10 k) ?_
      obtain rfl := Option.some.inj hb11
      exact Sx.r (fun _ _ _ k => ex_iret rfl dX11_count_83 k)
    · have hb12 := iq q1 hb6
      by_cases q2 : v1 = (2 : Int32)
      · have hb13 := ip q2 hb12
        refine Sx.o (fun _ _ _ k => ex_tableIn 84 dX11_count_1 (by rw [q2]; decide) (by rw [q2]; decide) (show _ = some (83 : Int) by rw [q2]; decide) (by decide) k) ?_
        refine Sx.o (fun _ _ _ k => ex_aload_n dX11_count_84 rfl rfl k) ?_
        obtain ⟨x14, e_x14, hb15⟩ := ob2 hb13
        refine Sx.o (fun _ _ _ k => op_getR fX11_19 dX11_count_85 e_x14 k) ?_
        obtain ⟨x16, e_x16, hb17⟩ := ob2 hb15
        refine Sx.o (fun _ _ _ k => op_getI fX11_173 dX11_count_88 e_x16 k) ?_
        obtain rfl := Option.some.inj hb17
        exact Sx.r (fun _ _ _ k => ex_iret rfl dX11_count_91 k)
      · have hb18 := iq q2 hb12
        by_cases q3 : v1 = (3 : Int32)
        · have hb19 := ip q3 hb18
          refine Sx.o (fun _ _ _ k => ex_tableIn 92 dX11_count_1 (by rw [q3]; decide) (by rw [q3]; decide) (show _ = some (91 : Int) by rw [q3]; decide) (by decide) k) ?_
          refine Sx.o (fun _ _ _ k => ex_aload_n dX11_count_92 rfl rfl k) ?_
          obtain ⟨x20, e_x20, hb21⟩ := ob2 hb19
          refine Sx.o (fun _ _ _ k => op_getR fX11_34 dX11_count_93 e_x20 k) ?_
          obtain ⟨x22, e_x22, hb23⟩ := ob2 hb21
          refine Sx.o (fun _ _ _ k => op_getI fX11_214 dX11_count_96 e_x22 k) ?_
          obtain rfl := Option.some.inj hb23
          exact Sx.r (fun _ _ _ k => ex_iret rfl dX11_count_99 k)
        · have hb24 := iq q3 hb18
          by_cases q4 : v1 = (4 : Int32)
          · have hb25 := ip q4 hb24
            refine Sx.o (fun _ _ _ k => ex_tableIn 100 dX11_count_1 (by rw [q4]; decide) (by rw [q4]; decide) (show _ = some (99 : Int) by rw [q4]; decide) (by decide) k) ?_
            refine Sx.o (fun _ _ _ k => ex_aload_n dX11_count_100 rfl rfl k) ?_
            obtain ⟨x26, e_x26, hb27⟩ := ob2 hb25
            refine Sx.o (fun _ _ _ k => op_getR fX11_10 dX11_count_101 e_x26 k) ?_
            obtain ⟨x28, e_x28, hb29⟩ := ob2 hb27
            refine Sx.o (fun _ _ _ k => op_getI fX11_108 dX11_count_104 e_x28 k) ?_
            obtain rfl := Option.some.inj hb29
            exact Sx.r (fun _ _ _ k => ex_iret rfl dX11_count_107 k)
          · have hb30 := iq q4 hb24
            by_cases q5 : v1 = (5 : Int32)
            · have hb31 := ip q5 hb30
              refine Sx.o (fun _ _ _ k => ex_tableIn 108 dX11_count_1 (by rw [q5]; decide) (by rw [q5]; decide) (show _ = some (107 : Int) by rw [q5]; decide) (by decide) k) ?_
              refine Sx.o (fun _ _ _ k => ex_aload_n dX11_count_108 rfl rfl k) ?_
              obtain ⟨x32, e_x32, hb33⟩ := ob2 hb31
              refine Sx.o (fun _ _ _ k => op_getR fX11_97 dX11_count_109 e_x32 k) ?_
              refine Sx.o (fun _ _ _ k => op_iconst (1 : Int32) dX11_count_112 (by decide) k) ?_
              obtain ⟨x34, e_x34, hb35⟩ := ob2 hb33
              refine Sx.o (fun _ _ _ k => op_iald dX11_count_113 e_x34 k) ?_
              obtain rfl := Option.some.inj hb35
              exact Sx.r (fun _ _ _ k => ex_iret rfl dX11_count_114 k)
            · have hb36 := iq q5 hb30
              by_cases q6 : v1 = (6 : Int32)
              · have hb37 := ip q6 hb36
                refine Sx.o (fun _ _ _ k => ex_tableIn 115 dX11_count_1 (by rw [q6]; decide) (by rw [q6]; decide) (show _ = some (114 : Int) by rw [q6]; decide) (by decide) k) ?_
                refine Sx.o (fun _ _ _ k => ex_aload_n dX11_count_115 rfl rfl k) ?_
                obtain ⟨x38, e_x38, hb39⟩ := ob2 hb37
                refine Sx.o (fun _ _ _ k => op_getR fX11_97 dX11_count_116 e_x38 k) ?_
                refine Sx.o (fun _ _ _ k => op_iconst (2 : Int32) dX11_count_119 (by decide) k) ?_
                obtain ⟨x40, e_x40, hb41⟩ := ob2 hb39
                refine Sx.o (fun _ _ _ k => op_iald dX11_count_120 e_x40 k) ?_
                obtain rfl := Option.some.inj hb41
                exact Sx.r (fun _ _ _ k => ex_iret rfl dX11_count_121 k)
              · have hb42 := iq q6 hb36
                by_cases q7 : v1 = (7 : Int32)
                · have hb43 := ip q7 hb42
                  refine Sx.o (fun _ _ _ k => ex_tableIn 122 dX11_count_1 (by rw [q7]; decide) (by rw [q7]; decide) (show _ = some (121 : Int) by rw [q7]; decide) (by decide) k) ?_
                  refine Sx.o (fun _ _ _ k => ex_aload_n dX11_count_122 rfl rfl k) ?_
                  obtain ⟨x44, e_x44, hb45⟩ := ob2 hb43
                  refine Sx.o (fun _ _ _ k => op_getR fX11_97 dX11_count_123 e_x44 k) ?_
                  refine Sx.o (fun _ _ _ k => op_iconst (3 : Int32) dX11_count_126 (by decide) k) ?_
                  obtain ⟨x46, e_x46, hb47⟩ := ob2 hb45
                  refine Sx.o (fun _ _ _ k => op_iald dX11_count_127 e_x46 k) ?_
                  obtain rfl := Option.some.inj hb47
                  exact Sx.r (fun _ _ _ k => ex_iret rfl dX11_count_128 k)
                · have hb48 := iq q7 hb42
                  by_cases q8 : v1 = (8 : Int32)
                  · have hb49 := ip q8 hb48
                    refine Sx.o (fun _ _ _ k => ex_tableIn 129 dX11_count_1 (by rw [q8]; decide) (by rw [q8]; decide) (show _ = some (128 : Int) by rw [q8]; decide) (by decide) k) ?_
                    refine Sx.o (fun _ _ _ k => ex_aload_n dX11_count_129 rfl rfl k) ?_
                    obtain ⟨x50, e_x50, hb51⟩ := ob2 hb49
                    refine Sx.o (fun _ _ _ k => op_getR fX11_97 dX11_count_130 e_x50 k) ?_
                    refine Sx.o (fun _ _ _ k => op_iconst (5 : Int32) dX11_count_133 (by decide) k) ?_
                    obtain ⟨x52, e_x52, hb53⟩ := ob2 hb51
                    refine Sx.o (fun _ _ _ k => op_iald dX11_count_134 e_x52 k) ?_
                    obtain rfl := Option.some.inj hb53
                    exact Sx.r (fun _ _ _ k => ex_iret rfl dX11_count_135 k)
                  · have hb54 := iq q8 hb48
                    by_cases q9 : v1 = (9 : Int32)
                    · have hb55 := ip q9 hb54
                      refine Sx.o (fun _ _ _ k => ex_tableIn 136 dX11_count_1 (by rw [q9]; decide) (by rw [q9]; decide) (show _ = some (135 : Int) by rw [q9]; decide) (by decide) k) ?_
                      refine Sx.o (fun _ _ _ k => ex_aload_n dX11_count_136 rfl rfl k) ?_
                      obtain ⟨x56, e_x56, hb57⟩ := ob2 hb55
                      refine Sx.o (fun _ _ _ k => op_getR fX11_97 dX11_count_137 e_x56 k) ?_
                      refine Sx.o (fun _ _ _ k => op_bipush (6 : Int32) dX11_count_140 (by decide) k) ?_
                      obtain ⟨x58, e_x58, hb59⟩ := ob2 hb57
                      refine Sx.o (fun _ _ _ k => op_iald dX11_count_142 e_x58 k) ?_
                      obtain rfl := Option.some.inj hb59
                      exact Sx.r (fun _ _ _ k => ex_iret rfl dX11_count_143 k)
                    · have hb60 := iq q9 hb54
                      by_cases q10 : v1 = (10 : Int32)
                      · have hb61 := ip q10 hb60
                        refine Sx.o (fun _ _ _ k => ex_tableIn 144 dX11_count_1 (by rw [q10]; decide) (by rw [q10]; decide) (show _ = some (143 : Int) by rw [q10]; decide) (by decide) k) ?_
                        refine Sx.o (fun _ _ _ k => ex_aload_n dX11_count_144 rfl rfl k) ?_
                        obtain ⟨x62, e_x62, hb63⟩ := ob2 hb61
                        refine Sx.o (fun _ _ _ k => op_getR fX11_19 dX11_count_145 e_x62 k) ?_
                        obtain ⟨x64, e_x64, hb65⟩ := ob2 hb63
                        refine Sx.o (fun _ _ _ k => op_getI fX11_200 dX11_count_148 e_x64 k) ?_
                        obtain rfl := Option.some.inj hb65
                        exact Sx.r (fun _ _ _ k => ex_iret rfl dX11_count_151 k)
                      · have hb66 := iq q10 hb60
                        by_cases q11 : v1 = (11 : Int32)
                        · have hb67 := ip q11 hb66
                          refine Sx.o (fun _ _ _ k => ex_tableIn 152 dX11_count_1 (by rw [q11]; decide) (by rw [q11]; decide) (show _ = some (151 : Int) by rw [q11]; decide) (by decide) k) ?_
                          refine Sx.o (fun _ _ _ k => ex_aload_n dX11_count_152 rfl rfl k) ?_
                          obtain ⟨x68, e_x68, hb69⟩ := ob2 hb67
                          refine Sx.o (fun _ _ _ k => op_getR fX11_19 dX11_count_153 e_x68 k) ?_
                          obtain ⟨x70, e_x70, hb71⟩ := ob2 hb69
                          refine Sx.o (fun _ _ _ k => op_getI fX11_167 dX11_count_156 e_x70 k) ?_
                          obtain rfl := Option.some.inj hb71
                          exact Sx.r (fun _ _ _ k => ex_iret rfl dX11_count_159 k)
                        · have hb72 := iq q11 hb66
                          by_cases q12 : v1 = (12 : Int32)
                          · have hb73 := ip q12 hb72
                            refine Sx.o (fun _ _ _ k => ex_tableIn 160 dX11_count_1 (by rw [q12]; decide) (by rw [q12]; decide) (show _ = some (159 : Int) by rw [q12]; decide) (by decide) k) ?_
                            refine Sx.o (fun _ _ _ k => ex_aload_n dX11_count_160 rfl rfl k) ?_
                            obtain ⟨x74, e_x74, hb75⟩ := ob2 hb73
                            refine Sx.o (fun _ _ _ k => op_getR fX11_19 dX11_count_161 e_x74 k) ?_
                            obtain ⟨x76, e_x76, hb77⟩ := ob2 hb75
                            refine Sx.o (fun _ _ _ k => op_getI fX11_170 dX11_count_164 e_x76 k) ?_
                            obtain rfl := Option.some.inj hb77
                            exact Sx.r (fun _ _ _ k => ex_iret rfl dX11_count_167 k)
                          · have hb78 := iq q12 hb72
                            have t0 : ¬ (Int32.toInt v1) = 0 := fun z => q0 (Int32.toInt_inj.mp (z.trans (by decide)))
                            have t1 : ¬ (Int32.toInt v1) = 1 := fun z => q1 (Int32.toInt_inj.mp (z.trans (by decide)))
                            have t2 : ¬ (Int32.toInt v1) = 2 := fun z => q2 (Int32.toInt_inj.mp (z.trans (by decide)))
                            have t3 : ¬ (Int32.toInt v1) = 3 := fun z => q3 (Int32.toInt_inj.mp (z.trans (by decide)))
                            have t4 : ¬ (Int32.toInt v1) = 4 := fun z => q4 (Int32.toInt_inj.mp (z.trans (by decide)))
                            have t5 : ¬ (Int32.toInt v1) = 5 := fun z => q5 (Int32.toInt_inj.mp (z.trans (by decide)))
                            have t6 : ¬ (Int32.toInt v1) = 6 := fun z => q6 (Int32.toInt_inj.mp (z.trans (by decide)))
                            have t7 : ¬ (Int32.toInt v1) = 7 := fun z => q7 (Int32.toInt_inj.mp (z.trans (by decide)))
                            have t8 : ¬ (Int32.toInt v1) = 8 := fun z => q8 (Int32.toInt_inj.mp (z.trans (by decide)))
                            have t9 : ¬ (Int32.toInt v1) = 9 := fun z => q9 (Int32.toInt_inj.mp (z.trans (by decide)))
                            have t10 : ¬ (Int32.toInt v1) = 10 := fun z => q10 (Int32.toInt_inj.mp (z.trans (by decide)))
                            have t11 : ¬ (Int32.toInt v1) = 11 := fun z => q11 (Int32.toInt_inj.mp (z.trans (by decide)))
                            have t12 : ¬ (Int32.toInt v1) = 12 := fun z => q12 (Int32.toInt_inj.mp (z.trans (by decide)))
                            refine Sx.o (fun _ _ _ k => ex_tableOut 168 dX11_count_1 (by omega) (by decide) k) ?_
                            refine Sx.o (fun _ _ _ k => op_iconst (-1 : Int32) dX11_count_168 (by decide) k) ?_
                            obtain rfl := Option.some.inj hb78
                            exact Sx.r (fun _ _ _ k => ex_iret rfl dX11_count_169 k)
theorem Top_count_o {v0 : Nat} {v1 : Int32} {h : am_H} {r : Int32} (hb : Top_count v0 v1 h = some r) : isO h 11 v0 = true := by
  unfold Top_count at hb
  exact (iz hb).1
set_option maxHeartbeats 1000000 in
set_option maxRecDepth 100000 in
noncomputable def Top_cut (v0 : Nat) (v1 : Int32) (v2 : Int32) (h : am_H) : Option (Int32 × am_H) := if isO h 11 v0 = true then (gR h 11 v0 7).bind fun x1 => (Hands_lift x1 v1 v2 h).bind fun r3 => if (0 : Int32) ≤ r3.1 then (Top_answer v0 r3.1 r3.2).bind fun r8 => some (r8.1, r8.2) else (Top_refuse v0 r3.1 r3.2).bind fun r11 => some (r11.1, r11.2) else none
set_option maxHeartbeats 1000000 in
set_option maxRecDepth 100000 in
theorem Top_cut_s {v0 : Nat} {v1 : Int32} {v2 : Int32} {h : am_H} {r : (Int32 × am_H)} (hb : Top_cut v0 v1 v2 h = some r) : Sx 4 mX11_cut 0 (am_en [.ref v0, .int v1, .int v2] 4) [] h (some (.int r.1)) r.2 := by
  unfold Top_cut at hb
  have hb := (iz hb).2
  show Sx 4 mX11_cut 0 [.ref v0, .int v1, .int v2, .retAddr 0] [] h (some (.int r.1)) r.2
  refine Sx.o (fun _ _ _ k => ex_aload_n dX11_cut_0 rfl rfl k) ?_
  obtain ⟨x1, e_x1, hb2⟩ := ob2 hb
  refine Sx.o (fun _ _ _ k => op_getR fX11_61 dX11_cut_1 e_x1 k) ?_
  refine Sx.o (fun _ _ _ k => ex_iload_n dX11_cut_4 rfl k) ?_
  refine Sx.o (fun _ _ _ k => ex_iload_n dX11_cut_5 rfl k) ?_
  obtain ⟨r3, e_r3, hb4⟩ := ob2 hb2
  refine sx_callV (dc := 3) (as := [.int v1, .int v2]) (stq := [.int r3.1]) (by omega) dX11_cut_6 MX1_lift kX11_210 iX1_lift sX1_lift rfl rfl (Hands_lift_o e_r3) rfl rfl (Nat.le_of_ble_eq_true rfl) (Nat.le_of_ble_eq_true rfl) (Hands_lift_s e_r3) rfl ?_
  refine Sx.o (L' := [.ref v0, .int v1, .int v2, .int r3.1]) (fun _ _ _ k => ex_istore_n dX11_cut_9 (by decide) k) ?_
  refine Sx.o (fun _ _ _ k => ex_iload_n dX11_cut_10 rfl k) ?_
  refine Sx.b (fun _ _ _ k1 k2 => ex_if_ge 22 dX11_cut_11 (by decide) k1 k2) (fun q => ?_) (fun q => ?_)
  · have hb6 := ip q hb4
    refine Sx.o (fun _ _ _ k => ex_aload_n dX11_cut_22 rfl rfl k) ?_
    refine Sx.o (fun _ _ _ k => ex_iload_n dX11_cut_23 rfl k) ?_
    obtain ⟨r8, e_r8, hb9⟩ := ob2 hb6
    refine sx_callV (dc := 0) (as := [.int r3.1]) (stq := [.int r8.1]) (by omega) dX11_cut_24 MX11_answer kX11_137 iX11_answer sX11_answer rfl rfl (Top_answer_o e_r8) rfl rfl (Nat.le_of_ble_eq_true rfl) (Nat.le_of_ble_eq_true rfl) (Top_answer_s e_r8) rfl ?_
    obtain rfl := Option.some.inj hb9
    exact Sx.r (fun _ _ _ k => ex_iret rfl dX11_cut_27 k)
  · have hb7 := iq q hb4
    refine Sx.o (fun _ _ _ k => ex_aload_n dX11_cut_14 rfl rfl k) ?_
    refine Sx.o (fun _ _ _ k => ex_iload_n dX11_cut_15 rfl k) ?_
    obtain ⟨r11, e_r11, hb12⟩ := ob2 hb7
    refine sx_callV (dc := 0) (as := [.int r3.1]) (stq := [.int r11.1]) (by omega) dX11_cut_16 MX11_refuse kX11_118 iX11_refuse sX11_refuse rfl rfl (Top_refuse_o e_r11) rfl rfl (Nat.le_of_ble_eq_true rfl) (Nat.le_of_ble_eq_true rfl) (Top_refuse_s e_r11) rfl ?_
    refine Sx.o (fun _ _ _ k => ex_goto 27 dX11_cut_19 (by decide) k) ?_
    obtain rfl := Option.some.inj hb12
    exact Sx.r (fun _ _ _ k => ex_iret rfl dX11_cut_27 k)
set_option maxHeartbeats 1000000 in
set_option maxRecDepth 100000 in
theorem Top_cut_q {v0 : Nat} {v1 : Int32} {v2 : Int32} {h : am_H} {r : (Int32 × am_H)} (hb : Top_cut v0 v1 v2 h = some r) : Eqs h r.2 := by
  unfold Top_cut at hb
  have hb := (iz hb).2
  have w0 := Eqs.rf h
  obtain ⟨x1, e_x1, hb2⟩ := ob2 hb
  obtain ⟨r3, e_r3, hb4⟩ := ob2 hb2
  have w5 := w0.tr (Hands_lift_q e_r3)
  by_cases q : (0 : Int32) ≤ r3.1
  · have hb6 := ip q hb4
    obtain ⟨r8, e_r8, hb9⟩ := ob2 hb6
    have w10 := w5.tr (Top_answer_q e_r8)
    obtain rfl := Option.some.inj hb9
    exact w10
  · have hb7 := iq q hb4
    obtain ⟨r11, e_r11, hb12⟩ := ob2 hb7
    have w13 := w5.tr (Top_refuse_q e_r11)
    obtain rfl := Option.some.inj hb12
    exact w13
theorem Top_cut_o {v0 : Nat} {v1 : Int32} {v2 : Int32} {h : am_H} {r : (Int32 × am_H)} (hb : Top_cut v0 v1 v2 h = some r) : isO h 11 v0 = true := by
  unfold Top_cut at hb
  exact (iz hb).1
set_option maxHeartbeats 1000000 in
set_option maxRecDepth 100000 in
noncomputable def Top_drawn (v0 : Nat) (v1 : Int32) (h : am_H) : Option Int32 := if isO h 11 v0 = true then (gR h 11 v0 10).bind fun x1 => (gI h 0 x1 0).bind fun x3 => if x3 = (0 : Int32) then some (-1 : Int32) else if (0 : Int32) ≤ v1 then if v1 = (0 : Int32) then (gR h 11 v0 10).bind fun x23 => (gI h 0 x23 1).bind fun x25 => some x25 else if v1 = (1 : Int32) then (gR h 11 v0 10).bind fun x19 => (gI h 0 x19 2).bind fun x21 => some x21 else (gR h 11 v0 10).bind fun x13 => (gR h 0 x13 3).bind fun x15 => (Row_card x15 (v1 - (2 : Int32)) h).bind fun x17 => some x17 else some (-1 : Int32) else none
set_option maxHeartbeats 1000000 in
set_option maxRecDepth 100000 in
theorem Top_drawn_s {v0 : Nat} {v1 : Int32} {h : am_H} {r : Int32} (hb : Top_drawn v0 v1 h = some r) : Sx 1 mX11_drawn 0 (am_en [.ref v0, .int v1] 2) [] h (some (.int r)) h := by
  unfold Top_drawn at hb
  have hb := (iz hb).2
  show Sx 1 mX11_drawn 0 [.ref v0, .int v1] [] h (some (.int r)) h
  refine Sx.o (fun _ _ _ k => ex_aload_n dX11_drawn_0 rfl rfl k) ?_
  obtain ⟨x1, e_x1, hb2⟩ := ob2 hb
  refine Sx.o (fun _ _ _ k => op_getR fX11_86 dX11_drawn_1 e_x1 k) ?_
  obtain ⟨x3, e_x3, hb4⟩ := ob2 hb2
  refine Sx.o (fun _ _ _ k => op_getI fX11_311 dX11_drawn_4 e_x3 k) ?_
  refine Sx.b (fun _ _ _ k1 k2 => ex_if_eq 14 dX11_drawn_7 (by decide) k1 k2) (fun q => ?_) (fun q => ?_)
  · have hb5 := ip q hb4
    refine Sx.o (fun _ _ _ k => op_iconst (-1 : Int32) dX11_drawn_14 (by decide) k) ?_
    obtain rfl := Option.some.inj hb5
    exact Sx.r (fun _ _ _ k => ex_iret rfl dX11_drawn_15 k)
  · have hb6 := iq q hb4
    refine Sx.o (fun _ _ _ k => ex_iload_n dX11_drawn_10 rfl k) ?_
    refine Sx.b (fun _ _ _ k1 k2 => ex_if_ge 16 dX11_drawn_11 (by decide) k1 k2) (fun q => ?_) (fun q => ?_)
    · have hb7 := ip q hb6
      refine Sx.o (fun _ _ _ k => ex_iload_n dX11_drawn_16 rfl k) ?_
      refine Sx.bn (fun _ _ _ k1 k2 => ex_if_ne 28 dX11_drawn_17 (by decide) k1 k2) (fun q => ?_) (fun q => ?_)
      · have hb9 := iq q hb7
        refine Sx.o (fun _ _ _ k => ex_iload_n dX11_drawn_28 rfl k) ?_
        refine Sx.o (fun _ _ _ k => op_iconst (1 : Int32) dX11_drawn_29 (by decide) k) ?_
        refine Sx.bn (fun _ _ _ k1 k2 => ex_icmp_ne 43 dX11_drawn_30 (by decide) k1 k2) (fun q => ?_) (fun q => ?_)
        · have hb11 := iq q hb9
          refine Sx.o (fun _ _ _ k => ex_aload_n dX11_drawn_43 rfl rfl k) ?_
          obtain ⟨x13, e_x13, hb14⟩ := ob2 hb11
          refine Sx.o (fun _ _ _ k => op_getR fX11_86 dX11_drawn_44 e_x13 k) ?_
          obtain ⟨x15, e_x15, hb16⟩ := ob2 hb14
          refine Sx.o (fun _ _ _ k => op_getR fX11_319 dX11_drawn_47 e_x15 k) ?_
          refine Sx.o (fun _ _ _ k => ex_iload_n dX11_drawn_50 rfl k) ?_
          refine Sx.o (fun _ _ _ k => op_iconst (2 : Int32) dX11_drawn_51 (by decide) k) ?_
          refine Sx.o (fun _ _ _ k => ex_isub dX11_drawn_52 k) ?_
          obtain ⟨x17, e_x17, hb18⟩ := ob2 hb16
          refine sx_callV (dc := 0) (as := [.int (v1 - (2 : Int32))]) (stq := [.int x17]) (by omega) dX11_drawn_53 MX4_card kX11_164 iX4_card sX4_card rfl rfl (Row_card_o e_x17) rfl rfl (Nat.le_of_ble_eq_true rfl) (Nat.le_of_ble_eq_true rfl) (Row_card_s e_x17) rfl ?_
          obtain rfl := Option.some.inj hb18
          exact Sx.r (fun _ _ _ k => ex_iret rfl dX11_drawn_56 k)
        · have hb12 := ip q hb9
          refine Sx.o (fun _ _ _ k => ex_aload_n dX11_drawn_33 rfl rfl k) ?_
          obtain ⟨x19, e_x19, hb20⟩ := ob2 hb12
          refine Sx.o (fun _ _ _ k => op_getR fX11_86 dX11_drawn_34 e_x19 k) ?_
          obtain ⟨x21, e_x21, hb22⟩ := ob2 hb20
          refine Sx.o (fun _ _ _ k => op_getI fX11_318 dX11_drawn_37 e_x21 k) ?_
          refine Sx.o (fun _ _ _ k => ex_goto 56 dX11_drawn_40 (by decide) k) ?_
          obtain rfl := Option.some.inj hb22
          exact Sx.r (fun _ _ _ k => ex_iret rfl dX11_drawn_56 k)
      · have hb10 := ip q hb7
        refine Sx.o (fun _ _ _ k => ex_aload_n dX11_drawn_20 rfl rfl k) ?_
        obtain ⟨x23, e_x23, hb24⟩ := ob2 hb10
        refine Sx.o (fun _ _ _ k => op_getR fX11_86 dX11_drawn_21 e_x23 k) ?_
        obtain ⟨x25, e_x25, hb26⟩ := ob2 hb24
        refine Sx.o (fun _ _ _ k => op_getI fX11_315 dX11_drawn_24 e_x25 k) ?_
        obtain rfl := Option.some.inj hb26
        exact Sx.r (fun _ _ _ k => ex_iret rfl dX11_drawn_27 k)
    · have hb8 := iq q hb6
      refine Sx.o (fun _ _ _ k => op_iconst (-1 : Int32) dX11_drawn_14 (by decide) k) ?_
      obtain rfl := Option.some.inj hb8
      exact Sx.r (fun _ _ _ k => ex_iret rfl dX11_drawn_15 k)
theorem Top_drawn_o {v0 : Nat} {v1 : Int32} {h : am_H} {r : Int32} (hb : Top_drawn v0 v1 h = some r) : isO h 11 v0 = true := by
  unfold Top_drawn at hb
  exact (iz hb).1
set_option maxHeartbeats 1000000 in
set_option maxRecDepth 100000 in
noncomputable def Top_end (v0 : Nat) (v1 : Int32) (h : am_H) : Option (Int32 × am_H) := if isO h 11 v0 = true then if v1 < (0 : Int32) then some ((-1 : Int32), h) else (gR h 11 v0 0).bind fun x3 => (gI h 8 x3 1).bind fun x5 => if v1 ≤ x5 then (gR h 11 v0 0).bind fun x9 => (pV h 8 x9 1 (.int v1)).bind fun h11 => some (v1, h11) else some ((-1 : Int32), h) else none
set_option maxHeartbeats 1000000 in
set_option maxRecDepth 100000 in
theorem Top_end_s {v0 : Nat} {v1 : Int32} {h : am_H} {r : (Int32 × am_H)} (hb : Top_end v0 v1 h = some r) : Sx 0 mX11_end 0 (am_en [.ref v0, .int v1] 2) [] h (some (.int r.1)) r.2 := by
  unfold Top_end at hb
  have hb := (iz hb).2
  show Sx 0 mX11_end 0 [.ref v0, .int v1] [] h (some (.int r.1)) r.2
  refine Sx.o (fun _ _ _ k => ex_iload_n dX11_end_0 rfl k) ?_
  refine Sx.b (fun _ _ _ k1 k2 => ex_if_lt 15 dX11_end_1 (by decide) k1 k2) (fun q => ?_) (fun q => ?_)
  · have hb1 := ip q hb
    refine Sx.o (fun _ _ _ k => op_iconst (-1 : Int32) dX11_end_15 (by decide) k) ?_
    obtain rfl := Option.some.inj hb1
    exact Sx.r (fun _ _ _ k => ex_iret rfl dX11_end_16 k)
  · have hb2 := iq q hb
    refine Sx.o (fun _ _ _ k => ex_iload_n dX11_end_4 rfl k) ?_
    refine Sx.o (fun _ _ _ k => ex_aload_n dX11_end_5 rfl rfl k) ?_
    obtain ⟨x3, e_x3, hb4⟩ := ob2 hb2
    refine Sx.o (fun _ _ _ k => op_getR fX11_10 dX11_end_6 e_x3 k) ?_
    obtain ⟨x5, e_x5, hb6⟩ := ob2 hb4
    refine Sx.o (fun _ _ _ k => op_getI fX11_108 dX11_end_9 e_x5 k) ?_
    refine Sx.b (fun _ _ _ k1 k2 => ex_icmp_le 17 dX11_end_12 (by decide) k1 k2) (fun q => ?_) (fun q => ?_)
    · have hb7 := ip q hb6
      refine Sx.o (fun _ _ _ k => ex_aload_n dX11_end_17 rfl rfl k) ?_
      obtain ⟨x9, e_x9, hb10⟩ := ob2 hb7
      refine Sx.o (fun _ _ _ k => op_getR fX11_10 dX11_end_18 e_x9 k) ?_
      refine Sx.o (fun _ _ _ k => ex_iload_n dX11_end_21 rfl k) ?_
      obtain ⟨h11, e_h11, hb12⟩ := ob2 hb10
      refine Sx.p (pV_q e_h11) (fun _ _ _ k => op_put pX11_108 dX11_end_22 e_h11 (fun _ => rfl) (fun _ => rfl) k) ?_
      refine Sx.o (fun _ _ _ k => ex_iload_n dX11_end_25 rfl k) ?_
      obtain rfl := Option.some.inj hb12
      exact Sx.r (fun _ _ _ k => ex_iret rfl dX11_end_26 k)
    · have hb8 := iq q hb6
      refine Sx.o (fun _ _ _ k => op_iconst (-1 : Int32) dX11_end_15 (by decide) k) ?_
      obtain rfl := Option.some.inj hb8
      exact Sx.r (fun _ _ _ k => ex_iret rfl dX11_end_16 k)
set_option maxHeartbeats 1000000 in
set_option maxRecDepth 100000 in
theorem Top_end_q {v0 : Nat} {v1 : Int32} {h : am_H} {r : (Int32 × am_H)} (hb : Top_end v0 v1 h = some r) : Eqs h r.2 := by
  unfold Top_end at hb
  have hb := (iz hb).2
  have w0 := Eqs.rf h
  by_cases q : v1 < (0 : Int32)
  · have hb1 := ip q hb
    obtain rfl := Option.some.inj hb1
    exact w0
  · have hb2 := iq q hb
    obtain ⟨x3, e_x3, hb4⟩ := ob2 hb2
    obtain ⟨x5, e_x5, hb6⟩ := ob2 hb4
    by_cases q : v1 ≤ x5
    · have hb7 := ip q hb6
      obtain ⟨x9, e_x9, hb10⟩ := ob2 hb7
      obtain ⟨h11, e_h11, hb12⟩ := ob2 hb10
      have w13 := w0.tr (pV_q e_h11)
      obtain rfl := Option.some.inj hb12
      exact w13
    · have hb8 := iq q hb6
      obtain rfl := Option.some.inj hb8
      exact w0
theorem Top_end_o {v0 : Nat} {v1 : Int32} {h : am_H} {r : (Int32 × am_H)} (hb : Top_end v0 v1 h = some r) : isO h 11 v0 = true := by
  unfold Top_end at hb
  exact (iz hb).1
set_option maxHeartbeats 1000000 in
set_option maxRecDepth 100000 in
noncomputable def Top_evenings_44 (v0 : Nat) (h : am_H) : Option (Int32 × am_H) := (Top_refuse v0 (-1 : Int32) h).bind fun r1 => some (r1.1, r1.2)
set_option maxHeartbeats 1000000 in
set_option maxRecDepth 100000 in
theorem Top_evenings_44_s {v0 : Nat} {h : am_H} {r : (Int32 × am_H)} (hb : Top_evenings_44 v0 h = some r) : Sx 6 mX11_evenings 44 [.ref v0, .retAddr 0, .retAddr 0, .retAddr 0, .retAddr 0] [] h (some (.int r.1)) r.2 := by
  unfold Top_evenings_44 at hb
  refine Sx.o (fun _ _ _ k => ex_aload_n dX11_evenings_44 rfl rfl k) ?_
  refine Sx.o (fun _ _ _ k => op_iconst (-1 : Int32) dX11_evenings_45 (by decide) k) ?_
  obtain ⟨r1, e_r1, hb2⟩ := ob2 hb
  refine sx_callV (dc := 0) (as := [.int (-1 : Int32)]) (stq := [.int r1.1]) (by omega) dX11_evenings_46 MX11_refuse kX11_118 iX11_refuse sX11_refuse rfl rfl (Top_refuse_o e_r1) rfl rfl (Nat.le_of_ble_eq_true rfl) (Nat.le_of_ble_eq_true rfl) (Top_refuse_s e_r1) rfl ?_
  obtain rfl := Option.some.inj hb2
  exact Sx.r (fun _ _ _ k => ex_iret rfl dX11_evenings_49 k)
set_option maxHeartbeats 1000000 in
set_option maxRecDepth 100000 in
theorem Top_evenings_44_q {v0 : Nat} {h : am_H} {r : (Int32 × am_H)} (hb : Top_evenings_44 v0 h = some r) : Eqs h r.2 := by
  unfold Top_evenings_44 at hb
  have w0 := Eqs.rf h
  obtain ⟨r1, e_r1, hb2⟩ := ob2 hb
  have w3 := w0.tr (Top_refuse_q e_r1)
  obtain rfl := Option.some.inj hb2
  exact w3
set_option maxHeartbeats 1000000 in
set_option maxRecDepth 100000 in
noncomputable def Top_evenings (v0 : Nat) (v1 : Int32) (v2 : Int32) (v3 : Int32) (h : am_H) : Option (Int32 × am_H) := if isO h 11 v0 = true then (gR h 11 v0 1).bind fun x4 => (Table_at x4 v1 h).bind fun x6 => if x6 = none then (Top_refuse v0 (-2 : Int32) h).bind fun r35 => some (r35.1, r35.2) else (x6).bind fun x10 => if v2 < (0 : Int32) then Top_evenings_44 v0 h else if (1000000 : Int32) < v2 then Top_evenings_44 v0 h else if v3 < (1 : Int32) then Top_evenings_44 v0 h else if v3 ≤ (60 : Int32) then (gR h 11 v0 11).bind fun x20 => (Row_copy x20 x10 h).bind fun h22 => (gR h22 11 v0 10).bind fun x25 => (gR h22 11 v0 11).bind fun x27 => (Evenings_hold x25 x27 v2 v3 h22).bind fun r29 => (Top_answer v0 r29.1 r29.2).bind fun r32 => some (r32.1, r32.2) else Top_evenings_44 v0 h else none
set_option maxHeartbeats 1000000 in
set_option maxRecDepth 100000 in
theorem Top_evenings_s {v0 : Nat} {v1 : Int32} {v2 : Int32} {v3 : Int32} {h : am_H} {r : (Int32 × am_H)} (hb : Top_evenings v0 v1 v2 v3 h = some r) : Sx 6 mX11_evenings 0 (am_en [.ref v0, .int v1, .int v2, .int v3] 5) [] h (some (.int r.1)) r.2 := by
  unfold Top_evenings at hb
  have hb := (iz hb).2
  show Sx 6 mX11_evenings 0 [.ref v0, .int v1, .int v2, .int v3, .retAddr 0] [] h (some (.int r.1)) r.2
  refine Sx.o (fun _ _ _ k => ex_aload_n dX11_evenings_0 rfl rfl k) ?_
  obtain ⟨x4, e_x4, hb5⟩ := ob2 hb
  refine Sx.o (fun _ _ _ k => op_getR fX11_19 dX11_evenings_1 e_x4 k) ?_
  refine Sx.o (fun _ _ _ k => ex_iload_n dX11_evenings_4 rfl k) ?_
  obtain ⟨x6, e_x6, hb7⟩ := ob2 hb5
  refine sx_callV (dc := 0) (as := [.int v1]) (stq := [va_rf x6]) (by omega) dX11_evenings_5 MX7_at kX11_140 iX7_at sX7_at rfl rfl (Table_at_o e_x6) rfl rfl (Nat.le_of_ble_eq_true rfl) (Nat.le_of_ble_eq_true rfl) (Table_at_s e_x6) rfl ?_
  refine Sx.o (L' := [.ref v0, .int v1, .int v2, .int v3, va_rf x6]) (fun _ _ _ k => ex_astore dX11_evenings_8 (am_rfv _) (by decide) k) ?_
  refine Sx.o (fun _ _ _ k => ex_aload dX11_evenings_10 rfl (am_rfv _) k) ?_
  refine Sx.bn (fun _ _ _ k1 k2 => op_ifnonnull (r := x6) 22 dX11_evenings_12 (by decide) k1 k2) (fun q => ?_) (fun q => ?_)
  · have hb8 := iq q hb7
    obtain ⟨x10, e_x10, hb11⟩ := ob2 hb8
    subst e_x10
    refine Sx.o (fun _ _ _ k => ex_iload_n dX11_evenings_22 rfl k) ?_
    refine Sx.b (fun _ _ _ k1 k2 => ex_if_lt 44 dX11_evenings_23 (by decide) k1 k2) (fun q => ?_) (fun q => ?_)
    · have hb12 := ip q hb11
      refine Sx.fg [true, false, false, false, false] ?_
      exact Top_evenings_44_s hb12
    · have hb13 := iq q hb11
      refine Sx.o (fun _ _ _ k => ex_iload_n dX11_evenings_26 rfl k) ?_
      refine Sx.o (fun _ _ _ k => ex_ldcw dX11_evenings_27 qX11_307 k) ?_
      refine Sx.b (fun _ _ _ k1 k2 => ex_icmp_gt 44 dX11_evenings_30 (by decide) k1 k2) (fun q => ?_) (fun q => ?_)
      · have hb14 := ip q hb13
        refine Sx.fg [true, false, false, false, false] ?_
        exact Top_evenings_44_s hb14
      · have hb15 := iq q hb13
        refine Sx.o (fun _ _ _ k => ex_iload_n dX11_evenings_33 rfl k) ?_
        refine Sx.o (fun _ _ _ k => op_iconst (1 : Int32) dX11_evenings_34 (by decide) k) ?_
        refine Sx.b (fun _ _ _ k1 k2 => ex_icmp_lt 44 dX11_evenings_35 (by decide) k1 k2) (fun q => ?_) (fun q => ?_)
        · have hb16 := ip q hb15
          refine Sx.fg [true, false, false, false, false] ?_
          exact Top_evenings_44_s hb16
        · have hb17 := iq q hb15
          refine Sx.o (fun _ _ _ k => ex_iload_n dX11_evenings_38 rfl k) ?_
          refine Sx.o (fun _ _ _ k => op_bipush (60 : Int32) dX11_evenings_39 (by decide) k) ?_
          refine Sx.b (fun _ _ _ k1 k2 => ex_icmp_le 50 dX11_evenings_41 (by decide) k1 k2) (fun q => ?_) (fun q => ?_)
          · have hb18 := ip q hb17
            refine Sx.o (fun _ _ _ k => ex_aload_n dX11_evenings_50 rfl rfl k) ?_
            obtain ⟨x20, e_x20, hb21⟩ := ob2 hb18
            refine Sx.o (fun _ _ _ k => op_getR fX11_93 dX11_evenings_51 e_x20 k) ?_
            refine Sx.o (fun _ _ _ k => ex_aload dX11_evenings_54 rfl rfl k) ?_
            obtain ⟨h22, e_h22, hb23⟩ := ob2 hb21
            refine sx_callV (dc := 1) (as := [.ref x10]) (stq := []) (by omega) dX11_evenings_56 MX4_copy kX11_219 iX4_copy sX4_copy rfl rfl (Row_copy_o e_h22) rfl rfl (Nat.le_of_ble_eq_true rfl) (Nat.le_of_ble_eq_true rfl) (Row_copy_s e_h22) rfl ?_
            refine Sx.o (fun _ _ _ k => ex_aload_n dX11_evenings_59 rfl rfl k) ?_
            refine Sx.o (fun _ _ _ k => ex_aload_n dX11_evenings_60 rfl rfl k) ?_
            obtain ⟨x25, e_x25, hb26⟩ := ob2 hb23
            refine Sx.o (fun _ _ _ k => op_getR fX11_86 dX11_evenings_61 e_x25 k) ?_
            refine Sx.o (fun _ _ _ k => ex_aload_n dX11_evenings_64 rfl rfl k) ?_
            obtain ⟨x27, e_x27, hb28⟩ := ob2 hb26
            refine Sx.o (fun _ _ _ k => op_getR fX11_93 dX11_evenings_65 e_x27 k) ?_
            refine Sx.o (fun _ _ _ k => ex_iload_n dX11_evenings_68 rfl k) ?_
            refine Sx.o (fun _ _ _ k => ex_iload_n dX11_evenings_69 rfl k) ?_
            obtain ⟨r29, e_r29, hb30⟩ := ob2 hb28
            refine sx_callV (dc := 5) (as := [.ref x27, .int v2, .int v3]) (stq := [.int r29.1, .ref v0]) (by omega) dX11_evenings_70 MX0_hold kX11_308 iX0_hold sX0_hold rfl rfl (Evenings_hold_o e_r29) rfl rfl (Nat.le_of_ble_eq_true rfl) (Nat.le_of_ble_eq_true rfl) (Evenings_hold_s e_r29) rfl ?_
            obtain ⟨r32, e_r32, hb33⟩ := ob2 hb30
            refine sx_callV (dc := 0) (as := [.int r29.1]) (stq := [.int r32.1]) (by omega) dX11_evenings_73 MX11_answer kX11_137 iX11_answer sX11_answer rfl rfl (Top_answer_o e_r32) rfl rfl (Nat.le_of_ble_eq_true rfl) (Nat.le_of_ble_eq_true rfl) (Top_answer_s e_r32) rfl ?_
            obtain rfl := Option.some.inj hb33
            exact Sx.r (fun _ _ _ k => ex_iret rfl dX11_evenings_76 k)
          · have hb19 := iq q hb17
            refine Sx.fg [true, false, false, false, false] ?_
            exact Top_evenings_44_s hb19
  · have hb9 := ip q hb7
    refine Sx.o (fun _ _ _ k => ex_aload_n dX11_evenings_15 rfl rfl k) ?_
    refine Sx.o (fun _ _ _ k => op_bipush (-2 : Int32) dX11_evenings_16 (by decide) k) ?_
    obtain ⟨r35, e_r35, hb36⟩ := ob2 hb9
    refine sx_callV (dc := 0) (as := [.int (-2 : Int32)]) (stq := [.int r35.1]) (by omega) dX11_evenings_18 MX11_refuse kX11_118 iX11_refuse sX11_refuse rfl rfl (Top_refuse_o e_r35) rfl rfl (Nat.le_of_ble_eq_true rfl) (Nat.le_of_ble_eq_true rfl) (Top_refuse_s e_r35) rfl ?_
    obtain rfl := Option.some.inj hb36
    exact Sx.r (fun _ _ _ k => ex_iret rfl dX11_evenings_21 k)
set_option maxHeartbeats 1000000 in
set_option maxRecDepth 100000 in
theorem Top_evenings_q {v0 : Nat} {v1 : Int32} {v2 : Int32} {v3 : Int32} {h : am_H} {r : (Int32 × am_H)} (hb : Top_evenings v0 v1 v2 v3 h = some r) : Eqs h r.2 := by
  unfold Top_evenings at hb
  have hb := (iz hb).2
  have w0 := Eqs.rf h
  obtain ⟨x4, e_x4, hb5⟩ := ob2 hb
  obtain ⟨x6, e_x6, hb7⟩ := ob2 hb5
  by_cases q : x6 = none
  · have hb9 := ip q hb7
    obtain ⟨r35, e_r35, hb36⟩ := ob2 hb9
    have w37 := w0.tr (Top_refuse_q e_r35)
    obtain rfl := Option.some.inj hb36
    exact w37
  · have hb8 := iq q hb7
    obtain ⟨x10, e_x10, hb11⟩ := ob2 hb8
    subst e_x10
    by_cases q : v2 < (0 : Int32)
    · have hb12 := ip q hb11
      exact w0.tr (Top_evenings_44_q hb12)
    · have hb13 := iq q hb11
      by_cases q : (1000000 : Int32) < v2
      · have hb14 := ip q hb13
        exact w0.tr (Top_evenings_44_q hb14)
      · have hb15 := iq q hb13
        by_cases q : v3 < (1 : Int32)
        · have hb16 := ip q hb15
          exact w0.tr (Top_evenings_44_q hb16)
        · have hb17 := iq q hb15
          by_cases q : v3 ≤ (60 : Int32)
          · have hb18 := ip q hb17
            obtain ⟨x20, e_x20, hb21⟩ := ob2 hb18
            obtain ⟨h22, e_h22, hb23⟩ := ob2 hb21
            have w24 := w0.tr (Row_copy_q e_h22)
            obtain ⟨x25, e_x25, hb26⟩ := ob2 hb23
            obtain ⟨x27, e_x27, hb28⟩ := ob2 hb26
            obtain ⟨r29, e_r29, hb30⟩ := ob2 hb28
            have w31 := w24.tr (Evenings_hold_q e_r29)
            obtain ⟨r32, e_r32, hb33⟩ := ob2 hb30
            have w34 := w31.tr (Top_answer_q e_r32)
            obtain rfl := Option.some.inj hb33
            exact w34
          · have hb19 := iq q hb17
            exact w0.tr (Top_evenings_44_q hb19)
theorem Top_evenings_o {v0 : Nat} {v1 : Int32} {v2 : Int32} {v3 : Int32} {h : am_H} {r : (Int32 × am_H)} (hb : Top_evenings v0 v1 v2 v3 h = some r) : isO h 11 v0 = true := by
  unfold Top_evenings at hb
  exact (iz hb).1
set_option maxHeartbeats 1000000 in
set_option maxRecDepth 100000 in
noncomputable def Top_fault (v0 : Nat) (h : am_H) : Option Int32 := if isO h 11 v0 = true then (gI h 11 v0 13).bind fun x1 => some x1 else none
set_option maxHeartbeats 1000000 in
set_option maxRecDepth 100000 in
theorem Top_fault_s {v0 : Nat} {h : am_H} {r : Int32} (hb : Top_fault v0 h = some r) : Sx 0 mX11_fault 0 (am_en [.ref v0] 1) [] h (some (.int r)) h := by
  unfold Top_fault at hb
  have hb := (iz hb).2
  show Sx 0 mX11_fault 0 [.ref v0] [] h (some (.int r)) h
  refine Sx.o (fun _ _ _ k => ex_aload_n dX11_fault_0 rfl rfl k) ?_
  obtain ⟨x1, e_x1, hb2⟩ := ob2 hb
  refine Sx.o (fun _ _ _ k => op_getI fX11_101 dX11_fault_1 e_x1 k) ?_
  obtain rfl := Option.some.inj hb2
  exact Sx.r (fun _ _ _ k => ex_iret rfl dX11_fault_4 k)
theorem Top_fault_o {v0 : Nat} {h : am_H} {r : Int32} (hb : Top_fault v0 h = some r) : isO h 11 v0 = true := by
  unfold Top_fault at hb
  exact (iz hb).1
set_option maxHeartbeats 1000000 in
set_option maxRecDepth 100000 in
noncomputable def Top_feed (v0 : Nat) (v1 : Int32) (v2 : Int32) (v3 : Int32) (v4 : Int32) (v5 : Int32) (h : am_H) : Option (Int32 × am_H) := if isO h 11 v0 = true then (gR h 11 v0 0).bind fun x1 => (gI h 8 x1 1).bind fun x3 => if x3 ≤ (380 : Int32) then (gR h 11 v0 0).bind fun x7 => (Tape_addFour x7 v1 h).bind fun h9 => (gR h9 11 v0 0).bind fun x12 => (Tape_addFour x12 v2 h9).bind fun h14 => (gR h14 11 v0 0).bind fun x17 => (Tape_addFour x17 v3 h14).bind fun h19 => (gR h19 11 v0 0).bind fun x22 => (Tape_addFour x22 v4 h19).bind fun h24 => (gR h24 11 v0 0).bind fun x27 => (Tape_addFour x27 v5 h24).bind fun h29 => (gR h29 11 v0 0).bind fun x32 => (gI h29 8 x32 1).bind fun x34 => some (x34, h29) else some ((-1 : Int32), h) else none
set_option maxHeartbeats 1000000 in
set_option maxRecDepth 100000 in
theorem Top_feed_s {v0 : Nat} {v1 : Int32} {v2 : Int32} {v3 : Int32} {v4 : Int32} {v5 : Int32} {h : am_H} {r : (Int32 × am_H)} (hb : Top_feed v0 v1 v2 v3 v4 v5 h = some r) : Sx 1 mX11_feed 0 (am_en [.ref v0, .int v1, .int v2, .int v3, .int v4, .int v5] 6) [] h (some (.int r.1)) r.2 := by
  unfold Top_feed at hb
  have hb := (iz hb).2
  show Sx 1 mX11_feed 0 [.ref v0, .int v1, .int v2, .int v3, .int v4, .int v5] [] h (some (.int r.1)) r.2
  refine Sx.o (fun _ _ _ k => ex_aload_n dX11_feed_0 rfl rfl k) ?_
  obtain ⟨x1, e_x1, hb2⟩ := ob2 hb
  refine Sx.o (fun _ _ _ k => op_getR fX11_10 dX11_feed_1 e_x1 k) ?_
  obtain ⟨x3, e_x3, hb4⟩ := ob2 hb2
  refine Sx.o (fun _ _ _ k => op_getI fX11_108 dX11_feed_4 e_x3 k) ?_
  refine Sx.o (fun _ _ _ k => op_sipush (380 : Int32) dX11_feed_7 (by decide) k) ?_
  refine Sx.b (fun _ _ _ k1 k2 => ex_icmp_le 15 dX11_feed_10 (by decide) k1 k2) (fun q => ?_) (fun q => ?_)
  · have hb5 := ip q hb4
    refine Sx.o (fun _ _ _ k => ex_aload_n dX11_feed_15 rfl rfl k) ?_
    obtain ⟨x7, e_x7, hb8⟩ := ob2 hb5
    refine Sx.o (fun _ _ _ k => op_getR fX11_10 dX11_feed_16 e_x7 k) ?_
    refine Sx.o (fun _ _ _ k => ex_iload_n dX11_feed_19 rfl k) ?_
    obtain ⟨h9, e_h9, hb10⟩ := ob2 hb8
    refine sx_callV (dc := 0) (as := [.int v1]) (stq := []) (by omega) dX11_feed_20 MX8_addFour kX11_111 iX8_addFour sX8_addFour rfl rfl (Tape_addFour_o e_h9) rfl rfl (Nat.le_of_ble_eq_true rfl) (Nat.le_of_ble_eq_true rfl) (Tape_addFour_s e_h9) rfl ?_
    refine Sx.o (fun _ _ _ k => ex_aload_n dX11_feed_23 rfl rfl k) ?_
    obtain ⟨x12, e_x12, hb13⟩ := ob2 hb10
    refine Sx.o (fun _ _ _ k => op_getR fX11_10 dX11_feed_24 e_x12 k) ?_
    refine Sx.o (fun _ _ _ k => ex_iload_n dX11_feed_27 rfl k) ?_
    obtain ⟨h14, e_h14, hb15⟩ := ob2 hb13
    refine sx_callV (dc := 0) (as := [.int v2]) (stq := []) (by omega) dX11_feed_28 MX8_addFour kX11_111 iX8_addFour sX8_addFour rfl rfl (Tape_addFour_o e_h14) rfl rfl (Nat.le_of_ble_eq_true rfl) (Nat.le_of_ble_eq_true rfl) (Tape_addFour_s e_h14) rfl ?_
    refine Sx.o (fun _ _ _ k => ex_aload_n dX11_feed_31 rfl rfl k) ?_
    obtain ⟨x17, e_x17, hb18⟩ := ob2 hb15
    refine Sx.o (fun _ _ _ k => op_getR fX11_10 dX11_feed_32 e_x17 k) ?_
    refine Sx.o (fun _ _ _ k => ex_iload_n dX11_feed_35 rfl k) ?_
    obtain ⟨h19, e_h19, hb20⟩ := ob2 hb18
    refine sx_callV (dc := 0) (as := [.int v3]) (stq := []) (by omega) dX11_feed_36 MX8_addFour kX11_111 iX8_addFour sX8_addFour rfl rfl (Tape_addFour_o e_h19) rfl rfl (Nat.le_of_ble_eq_true rfl) (Nat.le_of_ble_eq_true rfl) (Tape_addFour_s e_h19) rfl ?_
    refine Sx.o (fun _ _ _ k => ex_aload_n dX11_feed_39 rfl rfl k) ?_
    obtain ⟨x22, e_x22, hb23⟩ := ob2 hb20
    refine Sx.o (fun _ _ _ k => op_getR fX11_10 dX11_feed_40 e_x22 k) ?_
    refine Sx.o (fun _ _ _ k => ex_iload dX11_feed_43 rfl k) ?_
    obtain ⟨h24, e_h24, hb25⟩ := ob2 hb23
    refine sx_callV (dc := 0) (as := [.int v4]) (stq := []) (by omega) dX11_feed_45 MX8_addFour kX11_111 iX8_addFour sX8_addFour rfl rfl (Tape_addFour_o e_h24) rfl rfl (Nat.le_of_ble_eq_true rfl) (Nat.le_of_ble_eq_true rfl) (Tape_addFour_s e_h24) rfl ?_
    refine Sx.o (fun _ _ _ k => ex_aload_n dX11_feed_48 rfl rfl k) ?_
    obtain ⟨x27, e_x27, hb28⟩ := ob2 hb25
    refine Sx.o (fun _ _ _ k => op_getR fX11_10 dX11_feed_49 e_x27 k) ?_
    refine Sx.o (fun _ _ _ k => ex_iload dX11_feed_52 rfl k) ?_
    obtain ⟨h29, e_h29, hb30⟩ := ob2 hb28
    refine sx_callV (dc := 0) (as := [.int v5]) (stq := []) (by omega) dX11_feed_54 MX8_addFour kX11_111 iX8_addFour sX8_addFour rfl rfl (Tape_addFour_o e_h29) rfl rfl (Nat.le_of_ble_eq_true rfl) (Nat.le_of_ble_eq_true rfl) (Tape_addFour_s e_h29) rfl ?_
    refine Sx.o (fun _ _ _ k => ex_aload_n dX11_feed_57 rfl rfl k) ?_
    obtain ⟨x32, e_x32, hb33⟩ := ob2 hb30
    refine Sx.o (fun _ _ _ k => op_getR fX11_10 dX11_feed_58 e_x32 k) ?_
    obtain ⟨x34, e_x34, hb35⟩ := ob2 hb33
    refine Sx.o (fun _ _ _ k => op_getI fX11_108 dX11_feed_61 e_x34 k) ?_
    obtain rfl := Option.some.inj hb35
    exact Sx.r (fun _ _ _ k => ex_iret rfl dX11_feed_64 k)
  · have hb6 := iq q hb4
    refine Sx.o (fun _ _ _ k => op_iconst (-1 : Int32) dX11_feed_13 (by decide) k) ?_
    obtain rfl := Option.some.inj hb6
    exact Sx.r (fun _ _ _ k => ex_iret rfl dX11_feed_14 k)
set_option maxHeartbeats 1000000 in
set_option maxRecDepth 100000 in
theorem Top_feed_q {v0 : Nat} {v1 : Int32} {v2 : Int32} {v3 : Int32} {v4 : Int32} {v5 : Int32} {h : am_H} {r : (Int32 × am_H)} (hb : Top_feed v0 v1 v2 v3 v4 v5 h = some r) : Eqs h r.2 := by
  unfold Top_feed at hb
  have hb := (iz hb).2
  have w0 := Eqs.rf h
  obtain ⟨x1, e_x1, hb2⟩ := ob2 hb
  obtain ⟨x3, e_x3, hb4⟩ := ob2 hb2
  by_cases q : x3 ≤ (380 : Int32)
  · have hb5 := ip q hb4
    obtain ⟨x7, e_x7, hb8⟩ := ob2 hb5
    obtain ⟨h9, e_h9, hb10⟩ := ob2 hb8
    have w11 := w0.tr (Tape_addFour_q e_h9)
    obtain ⟨x12, e_x12, hb13⟩ := ob2 hb10
    obtain ⟨h14, e_h14, hb15⟩ := ob2 hb13
    have w16 := w11.tr (Tape_addFour_q e_h14)
    obtain ⟨x17, e_x17, hb18⟩ := ob2 hb15
    obtain ⟨h19, e_h19, hb20⟩ := ob2 hb18
    have w21 := w16.tr (Tape_addFour_q e_h19)
    obtain ⟨x22, e_x22, hb23⟩ := ob2 hb20
    obtain ⟨h24, e_h24, hb25⟩ := ob2 hb23
    have w26 := w21.tr (Tape_addFour_q e_h24)
    obtain ⟨x27, e_x27, hb28⟩ := ob2 hb25
    obtain ⟨h29, e_h29, hb30⟩ := ob2 hb28
    have w31 := w26.tr (Tape_addFour_q e_h29)
    obtain ⟨x32, e_x32, hb33⟩ := ob2 hb30
    obtain ⟨x34, e_x34, hb35⟩ := ob2 hb33
    obtain rfl := Option.some.inj hb35
    exact w31
  · have hb6 := iq q hb4
    obtain rfl := Option.some.inj hb6
    exact w0
theorem Top_feed_o {v0 : Nat} {v1 : Int32} {v2 : Int32} {v3 : Int32} {v4 : Int32} {v5 : Int32} {h : am_H} {r : (Int32 × am_H)} (hb : Top_feed v0 v1 v2 v3 v4 v5 h = some r) : isO h 11 v0 = true := by
  unfold Top_feed at hb
  exact (iz hb).1
set_option maxHeartbeats 1000000 in
set_option maxRecDepth 100000 in
noncomputable def Top_fits (v0 : Nat) (v1 : Int32) (v2 : Int32) (v3 : Int32) (h : am_H) : Option (Int32 × am_H) := if isO h 11 v0 = true then (gR h 11 v0 1).bind fun x1 => (Table_at x1 v1 h).bind fun x3 => if x3 = none then some ((-1 : Int32), h) else (x3).bind fun x7 => (gI h 4 x7 1).bind fun x9 => if (7 : Int32) < x9 then some ((-1 : Int32), h) else if (-1 : Int32) ≤ v2 then (gR h 11 v0 8).bind fun x15 => (Ways_fitting x15 x7 v2 v3 h).bind fun r17 => some (r17.1, r17.2) else some ((-1 : Int32), h) else none
set_option maxHeartbeats 1000000 in
set_option maxRecDepth 100000 in
theorem Top_fits_s {v0 : Nat} {v1 : Int32} {v2 : Int32} {v3 : Int32} {h : am_H} {r : (Int32 × am_H)} (hb : Top_fits v0 v1 v2 v3 h = some r) : Sx 7 mX11_fits 0 (am_en [.ref v0, .int v1, .int v2, .int v3] 5) [] h (some (.int r.1)) r.2 := by
  unfold Top_fits at hb
  have hb := (iz hb).2
  show Sx 7 mX11_fits 0 [.ref v0, .int v1, .int v2, .int v3, .retAddr 0] [] h (some (.int r.1)) r.2
  refine Sx.o (fun _ _ _ k => ex_aload_n dX11_fits_0 rfl rfl k) ?_
  obtain ⟨x1, e_x1, hb2⟩ := ob2 hb
  refine Sx.o (fun _ _ _ k => op_getR fX11_19 dX11_fits_1 e_x1 k) ?_
  refine Sx.o (fun _ _ _ k => ex_iload_n dX11_fits_4 rfl k) ?_
  obtain ⟨x3, e_x3, hb4⟩ := ob2 hb2
  refine sx_callV (dc := 0) (as := [.int v1]) (stq := [va_rf x3]) (by omega) dX11_fits_5 MX7_at kX11_140 iX7_at sX7_at rfl rfl (Table_at_o e_x3) rfl rfl (Nat.le_of_ble_eq_true rfl) (Nat.le_of_ble_eq_true rfl) (Table_at_s e_x3) rfl ?_
  refine Sx.o (L' := [.ref v0, .int v1, .int v2, .int v3, va_rf x3]) (fun _ _ _ k => ex_astore dX11_fits_8 (am_rfv _) (by decide) k) ?_
  refine Sx.o (fun _ _ _ k => ex_aload dX11_fits_10 rfl (am_rfv _) k) ?_
  refine Sx.b (fun _ _ _ k1 k2 => op_ifnull (r := x3) 30 dX11_fits_12 (by decide) k1 k2) (fun q => ?_) (fun q => ?_)
  · have hb5 := ip q hb4
    refine Sx.o (fun _ _ _ k => op_iconst (-1 : Int32) dX11_fits_30 (by decide) k) ?_
    obtain rfl := Option.some.inj hb5
    exact Sx.r (fun _ _ _ k => ex_iret rfl dX11_fits_31 k)
  · have hb6 := iq q hb4
    obtain ⟨x7, e_x7, hb8⟩ := ob2 hb6
    subst e_x7
    refine Sx.o (fun _ _ _ k => ex_aload dX11_fits_15 rfl rfl k) ?_
    obtain ⟨x9, e_x9, hb10⟩ := ob2 hb8
    refine Sx.o (fun _ _ _ k => op_getI fX11_144 dX11_fits_17 e_x9 k) ?_
    refine Sx.o (fun _ _ _ k => op_bipush (7 : Int32) dX11_fits_20 (by decide) k) ?_
    refine Sx.b (fun _ _ _ k1 k2 => ex_icmp_gt 30 dX11_fits_22 (by decide) k1 k2) (fun q => ?_) (fun q => ?_)
    · have hb11 := ip q hb10
      refine Sx.o (fun _ _ _ k => op_iconst (-1 : Int32) dX11_fits_30 (by decide) k) ?_
      obtain rfl := Option.some.inj hb11
      exact Sx.r (fun _ _ _ k => ex_iret rfl dX11_fits_31 k)
    · have hb12 := iq q hb10
      refine Sx.o (fun _ _ _ k => ex_iload_n dX11_fits_25 rfl k) ?_
      refine Sx.o (fun _ _ _ k => op_iconst (-1 : Int32) dX11_fits_26 (by decide) k) ?_
      refine Sx.b (fun _ _ _ k1 k2 => ex_icmp_ge 32 dX11_fits_27 (by decide) k1 k2) (fun q => ?_) (fun q => ?_)
      · have hb13 := ip q hb12
        refine Sx.o (fun _ _ _ k => ex_aload_n dX11_fits_32 rfl rfl k) ?_
        obtain ⟨x15, e_x15, hb16⟩ := ob2 hb13
        refine Sx.o (fun _ _ _ k => op_getR fX11_70 dX11_fits_33 e_x15 k) ?_
        refine Sx.o (fun _ _ _ k => ex_aload dX11_fits_36 rfl rfl k) ?_
        refine Sx.o (fun _ _ _ k => ex_iload_n dX11_fits_38 rfl k) ?_
        refine Sx.o (fun _ _ _ k => ex_iload_n dX11_fits_39 rfl k) ?_
        obtain ⟨r17, e_r17, hb18⟩ := ob2 hb16
        refine sx_callV (dc := 6) (as := [.ref x7, .int v2, .int v3]) (stq := [.int r17.1]) (by omega) dX11_fits_40 MX10_fitting kX11_292 iX10_fitting sX10_fitting rfl rfl (Ways_fitting_o e_r17) rfl rfl (Nat.le_of_ble_eq_true rfl) (Nat.le_of_ble_eq_true rfl) (Ways_fitting_s e_r17) rfl ?_
        obtain rfl := Option.some.inj hb18
        exact Sx.r (fun _ _ _ k => ex_iret rfl dX11_fits_43 k)
      · have hb14 := iq q hb12
        refine Sx.o (fun _ _ _ k => op_iconst (-1 : Int32) dX11_fits_30 (by decide) k) ?_
        obtain rfl := Option.some.inj hb14
        exact Sx.r (fun _ _ _ k => ex_iret rfl dX11_fits_31 k)
theorem Top_fits_o {v0 : Nat} {v1 : Int32} {v2 : Int32} {v3 : Int32} {h : am_H} {r : (Int32 × am_H)} (hb : Top_fits v0 v1 v2 v3 h = some r) : isO h 11 v0 = true := by
  unfold Top_fits at hb
  exact (iz hb).1
set_option maxHeartbeats 1000000 in
set_option maxRecDepth 100000 in
noncomputable def Top_force_16 (v0 : Nat) (h : am_H) : Option (Int32 × am_H) := (Top_refuse v0 (-2 : Int32) h).bind fun r1 => some (r1.1, r1.2)
set_option maxHeartbeats 1000000 in
set_option maxRecDepth 100000 in
theorem Top_force_16_s {v0 : Nat} {h : am_H} {r : (Int32 × am_H)} (hb : Top_force_16 v0 h = some r) : Sx 1 mX11_force 16 [.ref v0, .retAddr 0, .retAddr 0] [] h (some (.int r.1)) r.2 := by
  unfold Top_force_16 at hb
  refine Sx.o (fun _ _ _ k => ex_aload_n dX11_force_16 rfl rfl k) ?_
  refine Sx.o (fun _ _ _ k => op_bipush (-2 : Int32) dX11_force_17 (by decide) k) ?_
  obtain ⟨r1, e_r1, hb2⟩ := ob2 hb
  refine sx_callV (dc := 0) (as := [.int (-2 : Int32)]) (stq := [.int r1.1]) (by omega) dX11_force_19 MX11_refuse kX11_118 iX11_refuse sX11_refuse rfl rfl (Top_refuse_o e_r1) rfl rfl (Nat.le_of_ble_eq_true rfl) (Nat.le_of_ble_eq_true rfl) (Top_refuse_s e_r1) rfl ?_
  obtain rfl := Option.some.inj hb2
  exact Sx.r (fun _ _ _ k => ex_iret rfl dX11_force_22 k)
set_option maxHeartbeats 1000000 in
set_option maxRecDepth 100000 in
theorem Top_force_16_q {v0 : Nat} {h : am_H} {r : (Int32 × am_H)} (hb : Top_force_16 v0 h = some r) : Eqs h r.2 := by
  unfold Top_force_16 at hb
  have w0 := Eqs.rf h
  obtain ⟨r1, e_r1, hb2⟩ := ob2 hb
  have w3 := w0.tr (Top_refuse_q e_r1)
  obtain rfl := Option.some.inj hb2
  exact w3
set_option maxHeartbeats 1000000 in
set_option maxRecDepth 100000 in
noncomputable def Top_force (v0 : Nat) (v1 : Int32) (h : am_H) : Option (Int32 × am_H) := if isO h 11 v0 = true then if v1 < (-1 : Int32) then Top_force_16 v0 h else (gR h 11 v0 1).bind fun x6 => (gI h 7 x6 2).bind fun x8 => if v1 < x8 then (gR h 11 v0 1).bind fun x12 => (gI h 7 x12 3).bind fun x14 => (gR h 11 v0 1).bind fun x16 => (pV h 7 x16 3 (.int v1)).bind fun h18 => (Top_answer v0 x14 h18).bind fun r21 => some (r21.1, r21.2) else Top_force_16 v0 h else none
set_option maxHeartbeats 1000000 in
set_option maxRecDepth 100000 in
theorem Top_force_s {v0 : Nat} {v1 : Int32} {h : am_H} {r : (Int32 × am_H)} (hb : Top_force v0 v1 h = some r) : Sx 1 mX11_force 0 (am_en [.ref v0, .int v1] 3) [] h (some (.int r.1)) r.2 := by
  unfold Top_force at hb
  have hb := (iz hb).2
  show Sx 1 mX11_force 0 [.ref v0, .int v1, .retAddr 0] [] h (some (.int r.1)) r.2
  refine Sx.o (fun _ _ _ k => ex_iload_n dX11_force_0 rfl k) ?_
  refine Sx.o (fun _ _ _ k => op_iconst (-1 : Int32) dX11_force_1 (by decide) k) ?_
  refine Sx.b (fun _ _ _ k1 k2 => ex_icmp_lt 16 dX11_force_2 (by decide) k1 k2) (fun q => ?_) (fun q => ?_)
  · have hb4 := ip q hb
    refine Sx.fg [true, false, true] ?_
    exact Top_force_16_s hb4
  · have hb5 := iq q hb
    refine Sx.o (fun _ _ _ k => ex_iload_n dX11_force_5 rfl k) ?_
    refine Sx.o (fun _ _ _ k => ex_aload_n dX11_force_6 rfl rfl k) ?_
    obtain ⟨x6, e_x6, hb7⟩ := ob2 hb5
    refine Sx.o (fun _ _ _ k => op_getR fX11_19 dX11_force_7 e_x6 k) ?_
    obtain ⟨x8, e_x8, hb9⟩ := ob2 hb7
    refine Sx.o (fun _ _ _ k => op_getI fX11_173 dX11_force_10 e_x8 k) ?_
    refine Sx.b (fun _ _ _ k1 k2 => ex_icmp_lt 23 dX11_force_13 (by decide) k1 k2) (fun q => ?_) (fun q => ?_)
    · have hb10 := ip q hb9
      refine Sx.o (fun _ _ _ k => ex_aload_n dX11_force_23 rfl rfl k) ?_
      obtain ⟨x12, e_x12, hb13⟩ := ob2 hb10
      refine Sx.o (fun _ _ _ k => op_getR fX11_19 dX11_force_24 e_x12 k) ?_
      obtain ⟨x14, e_x14, hb15⟩ := ob2 hb13
      refine Sx.o (fun _ _ _ k => op_getI fX11_200 dX11_force_27 e_x14 k) ?_
      refine Sx.o (L' := [.ref v0, .int v1, .int x14]) (fun _ _ _ k => ex_istore_n dX11_force_30 (by decide) k) ?_
      refine Sx.o (fun _ _ _ k => ex_aload_n dX11_force_31 rfl rfl k) ?_
      obtain ⟨x16, e_x16, hb17⟩ := ob2 hb15
      refine Sx.o (fun _ _ _ k => op_getR fX11_19 dX11_force_32 e_x16 k) ?_
      refine Sx.o (fun _ _ _ k => ex_iload_n dX11_force_35 rfl k) ?_
      obtain ⟨h18, e_h18, hb19⟩ := ob2 hb17
      refine Sx.p (pV_q e_h18) (fun _ _ _ k => op_put pX11_200 dX11_force_36 e_h18 (fun _ => rfl) (fun _ => rfl) k) ?_
      refine Sx.o (fun _ _ _ k => ex_aload_n dX11_force_39 rfl rfl k) ?_
      refine Sx.o (fun _ _ _ k => ex_iload_n dX11_force_40 rfl k) ?_
      obtain ⟨r21, e_r21, hb22⟩ := ob2 hb19
      refine sx_callV (dc := 0) (as := [.int x14]) (stq := [.int r21.1]) (by omega) dX11_force_41 MX11_answer kX11_137 iX11_answer sX11_answer rfl rfl (Top_answer_o e_r21) rfl rfl (Nat.le_of_ble_eq_true rfl) (Nat.le_of_ble_eq_true rfl) (Top_answer_s e_r21) rfl ?_
      obtain rfl := Option.some.inj hb22
      exact Sx.r (fun _ _ _ k => ex_iret rfl dX11_force_44 k)
    · have hb11 := iq q hb9
      refine Sx.fg [true, false, true] ?_
      exact Top_force_16_s hb11
set_option maxHeartbeats 1000000 in
set_option maxRecDepth 100000 in
theorem Top_force_q {v0 : Nat} {v1 : Int32} {h : am_H} {r : (Int32 × am_H)} (hb : Top_force v0 v1 h = some r) : Eqs h r.2 := by
  unfold Top_force at hb
  have hb := (iz hb).2
  have w0 := Eqs.rf h
  by_cases q : v1 < (-1 : Int32)
  · have hb4 := ip q hb
    exact w0.tr (Top_force_16_q hb4)
  · have hb5 := iq q hb
    obtain ⟨x6, e_x6, hb7⟩ := ob2 hb5
    obtain ⟨x8, e_x8, hb9⟩ := ob2 hb7
    by_cases q : v1 < x8
    · have hb10 := ip q hb9
      obtain ⟨x12, e_x12, hb13⟩ := ob2 hb10
      obtain ⟨x14, e_x14, hb15⟩ := ob2 hb13
      obtain ⟨x16, e_x16, hb17⟩ := ob2 hb15
      obtain ⟨h18, e_h18, hb19⟩ := ob2 hb17
      have w20 := w0.tr (pV_q e_h18)
      obtain ⟨r21, e_r21, hb22⟩ := ob2 hb19
      have w23 := w20.tr (Top_answer_q e_r21)
      obtain rfl := Option.some.inj hb22
      exact w23
    · have hb11 := iq q hb9
      exact w0.tr (Top_force_16_q hb11)
theorem Top_force_o {v0 : Nat} {v1 : Int32} {h : am_H} {r : (Int32 × am_H)} (hb : Top_force v0 v1 h = some r) : isO h 11 v0 = true := by
  unfold Top_force at hb
  exact (iz hb).1
set_option maxHeartbeats 1000000 in
set_option maxRecDepth 100000 in
noncomputable def Top_forget (v0 : Nat) (h : am_H) : Option (Int32 × am_H) := if isO h 11 v0 = true then (gR h 11 v0 1).bind fun x1 => (gI h 7 x1 1).bind fun x3 => (gR h 11 v0 1).bind fun x5 => (pV h 7 x5 1 (.int (0 : Int32))).bind fun h7 => some (x3, h7) else none
set_option maxHeartbeats 1000000 in
set_option maxRecDepth 100000 in
theorem Top_forget_s {v0 : Nat} {h : am_H} {r : (Int32 × am_H)} (hb : Top_forget v0 h = some r) : Sx 0 mX11_forget 0 (am_en [.ref v0] 2) [] h (some (.int r.1)) r.2 := by
  unfold Top_forget at hb
  have hb := (iz hb).2
  show Sx 0 mX11_forget 0 [.ref v0, .retAddr 0] [] h (some (.int r.1)) r.2
  refine Sx.o (fun _ _ _ k => ex_aload_n dX11_forget_0 rfl rfl k) ?_
  obtain ⟨x1, e_x1, hb2⟩ := ob2 hb
  refine Sx.o (fun _ _ _ k => op_getR fX11_19 dX11_forget_1 e_x1 k) ?_
  obtain ⟨x3, e_x3, hb4⟩ := ob2 hb2
  refine Sx.o (fun _ _ _ k => op_getI fX11_286 dX11_forget_4 e_x3 k) ?_
  refine Sx.o (L' := [.ref v0, .int x3]) (fun _ _ _ k => ex_istore_n dX11_forget_7 (by decide) k) ?_
  refine Sx.o (fun _ _ _ k => ex_aload_n dX11_forget_8 rfl rfl k) ?_
  obtain ⟨x5, e_x5, hb6⟩ := ob2 hb4
  refine Sx.o (fun _ _ _ k => op_getR fX11_19 dX11_forget_9 e_x5 k) ?_
  refine Sx.o (fun _ _ _ k => op_iconst (0 : Int32) dX11_forget_12 (by decide) k) ?_
  obtain ⟨h7, e_h7, hb8⟩ := ob2 hb6
  refine Sx.p (pV_q e_h7) (fun _ _ _ k => op_put pX11_286 dX11_forget_13 e_h7 (fun _ => rfl) (fun _ => rfl) k) ?_
  refine Sx.o (fun _ _ _ k => ex_iload_n dX11_forget_16 rfl k) ?_
  obtain rfl := Option.some.inj hb8
  exact Sx.r (fun _ _ _ k => ex_iret rfl dX11_forget_17 k)
set_option maxHeartbeats 1000000 in
set_option maxRecDepth 100000 in
theorem Top_forget_q {v0 : Nat} {h : am_H} {r : (Int32 × am_H)} (hb : Top_forget v0 h = some r) : Eqs h r.2 := by
  unfold Top_forget at hb
  have hb := (iz hb).2
  have w0 := Eqs.rf h
  obtain ⟨x1, e_x1, hb2⟩ := ob2 hb
  obtain ⟨x3, e_x3, hb4⟩ := ob2 hb2
  obtain ⟨x5, e_x5, hb6⟩ := ob2 hb4
  obtain ⟨h7, e_h7, hb8⟩ := ob2 hb6
  have w9 := w0.tr (pV_q e_h7)
  obtain rfl := Option.some.inj hb8
  exact w9
theorem Top_forget_o {v0 : Nat} {h : am_H} {r : (Int32 × am_H)} (hb : Top_forget v0 h = some r) : isO h 11 v0 = true := by
  unfold Top_forget at hb
  exact (iz hb).1
set_option maxHeartbeats 1000000 in
set_option maxRecDepth 100000 in
noncomputable def Top_goes (v0 : Nat) (v1 : Int32) (v2 : Int32) (h : am_H) : Option (Int32 × am_H) := if isO h 11 v0 = true then (gR h 11 v0 1).bind fun x1 => (Table_at x1 v1 h).bind fun x3 => if x3 = none then some ((-1 : Int32), h) else (x3).bind fun x7 => if v2 < (0 : Int32) then some ((-1 : Int32), h) else if v2 ≤ (2 : Int32) then (gR h 11 v0 11).bind fun x13 => (Row_copy x13 x7 h).bind fun h15 => (gR h15 11 v0 6).bind fun x18 => (gR h15 11 v0 11).bind fun x20 => (Steps_goOn x18 x20 h15).bind fun h22 => if v2 = (0 : Int32) then (gR h22 11 v0 6).bind fun x37 => (gI h22 6 x37 2).bind fun x39 => some (x39, h22) else if v2 = (1 : Int32) then (gR h22 11 v0 6).bind fun x33 => (gI h22 6 x33 3).bind fun x35 => some (x35, h22) else (gR h22 11 v0 6).bind fun x29 => (gI h22 6 x29 4).bind fun x31 => some (x31, h22) else some ((-1 : Int32), h) else none
set_option maxHeartbeats 1000000 in
set_option maxRecDepth 100000 in
theorem Top_goes_s {v0 : Nat} {v1 : Int32} {v2 : Int32} {h : am_H} {r : (Int32 × am_H)} (hb : Top_goes v0 v1 v2 h = some r) : Sx 5 mX11_goes 0 (am_en [.ref v0, .int v1, .int v2] 4) [] h (some (.int r.1)) r.2 := by
  unfold Top_goes at hb
  have hb := (iz hb).2
  show Sx 5 mX11_goes 0 [.ref v0, .int v1, .int v2, .retAddr 0] [] h (some (.int r.1)) r.2
  refine Sx.o (fun _ _ _ k => ex_aload_n dX11_goes_0 rfl rfl k) ?_
  obtain ⟨x1, e_x1, hb2⟩ := ob2 hb
  refine Sx.o (fun _ _ _ k => op_getR fX11_19 dX11_goes_1 e_x1 k) ?_
  refine Sx.o (fun _ _ _ k => ex_iload_n dX11_goes_4 rfl k) ?_
  obtain ⟨x3, e_x3, hb4⟩ := ob2 hb2
  refine sx_callV (dc := 0) (as := [.int v1]) (stq := [va_rf x3]) (by omega) dX11_goes_5 MX7_at kX11_140 iX7_at sX7_at rfl rfl (Table_at_o e_x3) rfl rfl (Nat.le_of_ble_eq_true rfl) (Nat.le_of_ble_eq_true rfl) (Table_at_s e_x3) rfl ?_
  refine Sx.o (L' := [.ref v0, .int v1, .int v2, va_rf x3]) (fun _ _ _ k => ex_astore_n dX11_goes_8 (am_rfv _) (by decide) k) ?_
  refine Sx.o (fun _ _ _ k => ex_aload_n dX11_goes_9 rfl (am_rfv _) k) ?_
  refine Sx.b (fun _ _ _ k1 k2 => op_ifnull (r := x3) 22 dX11_goes_10 (by decide) k1 k2) (fun q => ?_) (fun q => ?_)
  · have hb5 := ip q hb4
    refine Sx.o (fun _ _ _ k => op_iconst (-1 : Int32) dX11_goes_22 (by decide) k) ?_
    obtain rfl := Option.some.inj hb5
    exact Sx.r (fun _ _ _ k => ex_iret rfl dX11_goes_23 k)
  · have hb6 := iq q hb4
    obtain ⟨x7, e_x7, hb8⟩ := ob2 hb6
    subst e_x7
    refine Sx.o (fun _ _ _ k => ex_iload_n dX11_goes_13 rfl k) ?_
    refine Sx.b (fun _ _ _ k1 k2 => ex_if_lt 22 dX11_goes_14 (by decide) k1 k2) (fun q => ?_) (fun q => ?_)
    · have hb9 := ip q hb8
      refine Sx.o (fun _ _ _ k => op_iconst (-1 : Int32) dX11_goes_22 (by decide) k) ?_
      obtain rfl := Option.some.inj hb9
      exact Sx.r (fun _ _ _ k => ex_iret rfl dX11_goes_23 k)
    · have hb10 := iq q hb8
      refine Sx.o (fun _ _ _ k => ex_iload_n dX11_goes_17 rfl k) ?_
      refine Sx.o (fun _ _ _ k => op_iconst (2 : Int32) dX11_goes_18 (by decide) k) ?_
      refine Sx.b (fun _ _ _ k1 k2 => ex_icmp_le 24 dX11_goes_19 (by decide) k1 k2) (fun q => ?_) (fun q => ?_)
      · have hb11 := ip q hb10
        refine Sx.o (fun _ _ _ k => ex_aload_n dX11_goes_24 rfl rfl k) ?_
        obtain ⟨x13, e_x13, hb14⟩ := ob2 hb11
        refine Sx.o (fun _ _ _ k => op_getR fX11_93 dX11_goes_25 e_x13 k) ?_
        refine Sx.o (fun _ _ _ k => ex_aload_n dX11_goes_28 rfl rfl k) ?_
        obtain ⟨h15, e_h15, hb16⟩ := ob2 hb14
        refine sx_callV (dc := 1) (as := [.ref x7]) (stq := []) (by omega) dX11_goes_29 MX4_copy kX11_219 iX4_copy sX4_copy rfl rfl (Row_copy_o e_h15) rfl rfl (Nat.le_of_ble_eq_true rfl) (Nat.le_of_ble_eq_true rfl) (Row_copy_s e_h15) rfl ?_
        refine Sx.o (fun _ _ _ k => ex_aload_n dX11_goes_32 rfl rfl k) ?_
        obtain ⟨x18, e_x18, hb19⟩ := ob2 hb16
        refine Sx.o (fun _ _ _ k => op_getR fX11_52 dX11_goes_33 e_x18 k) ?_
        refine Sx.o (fun _ _ _ k => ex_aload_n dX11_goes_36 rfl rfl k) ?_
        obtain ⟨x20, e_x20, hb21⟩ := ob2 hb19
        refine Sx.o (fun _ _ _ k => op_getR fX11_93 dX11_goes_37 e_x20 k) ?_
        obtain ⟨h22, e_h22, hb23⟩ := ob2 hb21
        refine sx_callV (dc := 4) (as := [.ref x20]) (stq := []) (by omega) dX11_goes_40 MX6_goOn kX11_223 iX6_goOn sX6_goOn rfl rfl (Steps_goOn_o e_h22) rfl rfl (Nat.le_of_ble_eq_true rfl) (Nat.le_of_ble_eq_true rfl) (Steps_goOn_s e_h22) rfl ?_
        refine Sx.o (fun _ _ _ k => ex_iload_n dX11_goes_43 rfl k) ?_
        refine Sx.bn (fun _ _ _ k1 k2 => ex_if_ne 55 dX11_goes_44 (by decide) k1 k2) (fun q => ?_) (fun q => ?_)
        · have hb25 := iq q hb23
          refine Sx.o (fun _ _ _ k => ex_iload_n dX11_goes_55 rfl k) ?_
          refine Sx.o (fun _ _ _ k => op_iconst (1 : Int32) dX11_goes_56 (by decide) k) ?_
          refine Sx.bn (fun _ _ _ k1 k2 => ex_icmp_ne 70 dX11_goes_57 (by decide) k1 k2) (fun q => ?_) (fun q => ?_)
          · have hb27 := iq q hb25
            refine Sx.o (fun _ _ _ k => ex_aload_n dX11_goes_70 rfl rfl k) ?_
            obtain ⟨x29, e_x29, hb30⟩ := ob2 hb27
            refine Sx.o (fun _ _ _ k => op_getR fX11_52 dX11_goes_71 e_x29 k) ?_
            obtain ⟨x31, e_x31, hb32⟩ := ob2 hb30
            refine Sx.o (fun _ _ _ k => op_getI fX11_232 dX11_goes_74 e_x31 k) ?_
            obtain rfl := Option.some.inj hb32
            exact Sx.r (fun _ _ _ k => ex_iret rfl dX11_goes_77 k)
          · have hb28 := ip q hb25
            refine Sx.o (fun _ _ _ k => ex_aload_n dX11_goes_60 rfl rfl k) ?_
            obtain ⟨x33, e_x33, hb34⟩ := ob2 hb28
            refine Sx.o (fun _ _ _ k => op_getR fX11_52 dX11_goes_61 e_x33 k) ?_
            obtain ⟨x35, e_x35, hb36⟩ := ob2 hb34
            refine Sx.o (fun _ _ _ k => op_getI fX11_229 dX11_goes_64 e_x35 k) ?_
            refine Sx.o (fun _ _ _ k => ex_goto 77 dX11_goes_67 (by decide) k) ?_
            obtain rfl := Option.some.inj hb36
            exact Sx.r (fun _ _ _ k => ex_iret rfl dX11_goes_77 k)
        · have hb26 := ip q hb23
          refine Sx.o (fun _ _ _ k => ex_aload_n dX11_goes_47 rfl rfl k) ?_
          obtain ⟨x37, e_x37, hb38⟩ := ob2 hb26
          refine Sx.o (fun _ _ _ k => op_getR fX11_52 dX11_goes_48 e_x37 k) ?_
          obtain ⟨x39, e_x39, hb40⟩ := ob2 hb38
          refine Sx.o (fun _ _ _ k => op_getI fX11_226 dX11_goes_51 e_x39 k) ?_
          obtain rfl := Option.some.inj hb40
          exact Sx.r (fun _ _ _ k => ex_iret rfl dX11_goes_54 k)
      · have hb12 := iq q hb10
        refine Sx.o (fun _ _ _ k => op_iconst (-1 : Int32) dX11_goes_22 (by decide) k) ?_
        obtain rfl := Option.some.inj hb12
        exact Sx.r (fun _ _ _ k => ex_iret rfl dX11_goes_23 k)
set_option maxHeartbeats 1000000 in
set_option maxRecDepth 100000 in
theorem Top_goes_q {v0 : Nat} {v1 : Int32} {v2 : Int32} {h : am_H} {r : (Int32 × am_H)} (hb : Top_goes v0 v1 v2 h = some r) : Eqs h r.2 := by
  unfold Top_goes at hb
  have hb := (iz hb).2
  have w0 := Eqs.rf h
  obtain ⟨x1, e_x1, hb2⟩ := ob2 hb
  obtain ⟨x3, e_x3, hb4⟩ := ob2 hb2
  by_cases q : x3 = none
  · have hb5 := ip q hb4
    obtain rfl := Option.some.inj hb5
    exact w0
  · have hb6 := iq q hb4
    obtain ⟨x7, e_x7, hb8⟩ := ob2 hb6
    subst e_x7
    by_cases q : v2 < (0 : Int32)
    · have hb9 := ip q hb8
      obtain rfl := Option.some.inj hb9
      exact w0
    · have hb10 := iq q hb8
      by_cases q : v2 ≤ (2 : Int32)
      · have hb11 := ip q hb10
        obtain ⟨x13, e_x13, hb14⟩ := ob2 hb11
        obtain ⟨h15, e_h15, hb16⟩ := ob2 hb14
        have w17 := w0.tr (Row_copy_q e_h15)
        obtain ⟨x18, e_x18, hb19⟩ := ob2 hb16
        obtain ⟨x20, e_x20, hb21⟩ := ob2 hb19
        obtain ⟨h22, e_h22, hb23⟩ := ob2 hb21
        have w24 := w17.tr (Steps_goOn_q e_h22)
        by_cases q : v2 = (0 : Int32)
        · have hb26 := ip q hb23
          obtain ⟨x37, e_x37, hb38⟩ := ob2 hb26
          obtain ⟨x39, e_x39, hb40⟩ := ob2 hb38
          obtain rfl := Option.some.inj hb40
          exact w24
        · have hb25 := iq q hb23
          by_cases q : v2 = (1 : Int32)
          · have hb28 := ip q hb25
            obtain ⟨x33, e_x33, hb34⟩ := ob2 hb28
            obtain ⟨x35, e_x35, hb36⟩ := ob2 hb34
            obtain rfl := Option.some.inj hb36
            exact w24
          · have hb27 := iq q hb25
            obtain ⟨x29, e_x29, hb30⟩ := ob2 hb27
            obtain ⟨x31, e_x31, hb32⟩ := ob2 hb30
            obtain rfl := Option.some.inj hb32
            exact w24
      · have hb12 := iq q hb10
        obtain rfl := Option.some.inj hb12
        exact w0
theorem Top_goes_o {v0 : Nat} {v1 : Int32} {v2 : Int32} {h : am_H} {r : (Int32 × am_H)} (hb : Top_goes v0 v1 v2 h = some r) : isO h 11 v0 = true := by
  unfold Top_goes at hb
  exact (iz hb).1
set_option maxHeartbeats 1000000 in
set_option maxRecDepth 100000 in
noncomputable def Top_heap (v0 : Nat) (h : am_H) : Option (Int32 × am_H) := if isO h 11 v0 = true then (gR h 11 v0 0).bind fun x1 => (gI h 8 x1 1).bind fun x3 => (gR h 11 v0 0).bind fun x5 => (pV h 8 x5 1 (.int (0 : Int32))).bind fun h7 => (gR h7 11 v0 1).bind fun x10 => (gI h7 7 x10 0).bind fun x12 => if x12 < (6 : Int32) then (gR h7 11 v0 0).bind fun x16 => (Tape_holdsCards x16 x3 h7).bind fun x18 => if x18 = (0 : Int32) then (Top_refuse v0 (-6 : Int32) h7).bind fun r39 => some (r39.1, r39.2) else (gR h7 11 v0 4).bind fun x22 => (Past_clear x22 h7).bind fun h24 => (gR h24 11 v0 1).bind fun x27 => (gR h24 11 v0 0).bind fun x29 => (gR h24 8 x29 0).bind fun x31 => (Table_addHeap x27 x31 x3 h24).bind fun r33 => (Top_answer v0 r33.1 r33.2).bind fun r36 => some (r36.1, r36.2) else (Top_refuse v0 (-5 : Int32) h7).bind fun r42 => some (r42.1, r42.2) else none
set_option maxHeartbeats 1000000 in
set_option maxRecDepth 100000 in
theorem Top_heap_s {v0 : Nat} {h : am_H} {r : (Int32 × am_H)} (hb : Top_heap v0 h = some r) : Sx 2 mX11_heap 0 (am_en [.ref v0] 2) [] h (some (.int r.1)) r.2 := by
  unfold Top_heap at hb
  have hb := (iz hb).2
  show Sx 2 mX11_heap 0 [.ref v0, .retAddr 0] [] h (some (.int r.1)) r.2
  refine Sx.o (fun _ _ _ k => ex_aload_n dX11_heap_0 rfl rfl k) ?_
  obtain ⟨x1, e_x1, hb2⟩ := ob2 hb
  refine Sx.o (fun _ _ _ k => op_getR fX11_10 dX11_heap_1 e_x1 k) ?_
  obtain ⟨x3, e_x3, hb4⟩ := ob2 hb2
  refine Sx.o (fun _ _ _ k => op_getI fX11_108 dX11_heap_4 e_x3 k) ?_
  refine Sx.o (L' := [.ref v0, .int x3]) (fun _ _ _ k => ex_istore_n dX11_heap_7 (by decide) k) ?_
  refine Sx.o (fun _ _ _ k => ex_aload_n dX11_heap_8 rfl rfl k) ?_
  obtain ⟨x5, e_x5, hb6⟩ := ob2 hb4
  refine Sx.o (fun _ _ _ k => op_getR fX11_10 dX11_heap_9 e_x5 k) ?_
  refine Sx.o (fun _ _ _ k => op_iconst (0 : Int32) dX11_heap_12 (by decide) k) ?_
  obtain ⟨h7, e_h7, hb8⟩ := ob2 hb6
  refine Sx.p (pV_q e_h7) (fun _ _ _ k => op_put pX11_108 dX11_heap_13 e_h7 (fun _ => rfl) (fun _ => rfl) k) ?_
  refine Sx.o (fun _ _ _ k => ex_aload_n dX11_heap_16 rfl rfl k) ?_
  obtain ⟨x10, e_x10, hb11⟩ := ob2 hb8
  refine Sx.o (fun _ _ _ k => op_getR fX11_19 dX11_heap_17 e_x10 k) ?_
  obtain ⟨x12, e_x12, hb13⟩ := ob2 hb11
  refine Sx.o (fun _ _ _ k => op_getI fX11_115 dX11_heap_20 e_x12 k) ?_
  refine Sx.o (fun _ _ _ k => op_bipush (6 : Int32) dX11_heap_23 (by decide) k) ?_
  refine Sx.b (fun _ _ _ k1 k2 => ex_icmp_lt 35 dX11_heap_25 (by decide) k1 k2) (fun q => ?_) (fun q => ?_)
  · have hb14 := ip q hb13
    refine Sx.o (fun _ _ _ k => ex_aload_n dX11_heap_35 rfl rfl k) ?_
    obtain ⟨x16, e_x16, hb17⟩ := ob2 hb14
    refine Sx.o (fun _ _ _ k => op_getR fX11_10 dX11_heap_36 e_x16 k) ?_
    refine Sx.o (fun _ _ _ k => ex_iload_n dX11_heap_39 rfl k) ?_
    obtain ⟨x18, e_x18, hb19⟩ := ob2 hb17
    refine sx_callV (dc := 0) (as := [.int x3]) (stq := [.int x18]) (by omega) dX11_heap_40 MX8_holdsCards kX11_122 iX8_holdsCards sX8_holdsCards rfl rfl (Tape_holdsCards_o e_x18) rfl rfl (Nat.le_of_ble_eq_true rfl) (Nat.le_of_ble_eq_true rfl) (Tape_holdsCards_s e_x18) rfl ?_
    refine Sx.bn (fun _ _ _ k1 k2 => ex_if_ne 53 dX11_heap_43 (by decide) k1 k2) (fun q => ?_) (fun q => ?_)
    · have hb20 := iq q hb19
      refine Sx.o (fun _ _ _ k => ex_aload_n dX11_heap_53 rfl rfl k) ?_
      obtain ⟨x22, e_x22, hb23⟩ := ob2 hb20
      refine Sx.o (fun _ _ _ k => op_getR fX11_34 dX11_heap_54 e_x22 k) ?_
      obtain ⟨h24, e_h24, hb25⟩ := ob2 hb23
      refine sx_callV (dc := 0) (as := []) (stq := []) (by omega) dX11_heap_57 MX2_clear kX11_126 iX2_clear sX2_clear rfl rfl (Past_clear_o e_h24) rfl rfl (Nat.le_of_ble_eq_true rfl) (Nat.le_of_ble_eq_true rfl) (Past_clear_s e_h24) rfl ?_
      refine Sx.o (fun _ _ _ k => ex_aload_n dX11_heap_60 rfl rfl k) ?_
      refine Sx.o (fun _ _ _ k => ex_aload_n dX11_heap_61 rfl rfl k) ?_
      obtain ⟨x27, e_x27, hb28⟩ := ob2 hb25
      refine Sx.o (fun _ _ _ k => op_getR fX11_19 dX11_heap_62 e_x27 k) ?_
      refine Sx.o (fun _ _ _ k => ex_aload_n dX11_heap_65 rfl rfl k) ?_
      obtain ⟨x29, e_x29, hb30⟩ := ob2 hb28
      refine Sx.o (fun _ _ _ k => op_getR fX11_10 dX11_heap_66 e_x29 k) ?_
      obtain ⟨x31, e_x31, hb32⟩ := ob2 hb30
      refine Sx.o (fun _ _ _ k => op_getR fX11_129 dX11_heap_69 e_x31 k) ?_
      refine Sx.o (fun _ _ _ k => ex_iload_n dX11_heap_72 rfl k) ?_
      obtain ⟨r33, e_r33, hb34⟩ := ob2 hb32
      refine sx_callV (dc := 1) (as := [.ref x31, .int x3]) (stq := [.int r33.1, .ref v0]) (by omega) dX11_heap_73 MX7_addHeap kX11_133 iX7_addHeap sX7_addHeap rfl rfl (Table_addHeap_o e_r33) rfl rfl (Nat.le_of_ble_eq_true rfl) (Nat.le_of_ble_eq_true rfl) (Table_addHeap_s e_r33) rfl ?_
      obtain ⟨r36, e_r36, hb37⟩ := ob2 hb34
      refine sx_callV (dc := 0) (as := [.int r33.1]) (stq := [.int r36.1]) (by omega) dX11_heap_76 MX11_answer kX11_137 iX11_answer sX11_answer rfl rfl (Top_answer_o e_r36) rfl rfl (Nat.le_of_ble_eq_true rfl) (Nat.le_of_ble_eq_true rfl) (Top_answer_s e_r36) rfl ?_
      obtain rfl := Option.some.inj hb37
      exact Sx.r (fun _ _ _ k => ex_iret rfl dX11_heap_79 k)
    · have hb21 := ip q hb19
      refine Sx.o (fun _ _ _ k => ex_aload_n dX11_heap_46 rfl rfl k) ?_
      refine Sx.o (fun _ _ _ k => op_bipush (-6 : Int32) dX11_heap_47 (by decide) k) ?_
      obtain ⟨r39, e_r39, hb40⟩ := ob2 hb21
      refine sx_callV (dc := 0) (as := [.int (-6 : Int32)]) (stq := [.int r39.1]) (by omega) dX11_heap_49 MX11_refuse kX11_118 iX11_refuse sX11_refuse rfl rfl (Top_refuse_o e_r39) rfl rfl (Nat.le_of_ble_eq_true rfl) (Nat.le_of_ble_eq_true rfl) (Top_refuse_s e_r39) rfl ?_
      obtain rfl := Option.some.inj hb40
      exact Sx.r (fun _ _ _ k => ex_iret rfl dX11_heap_52 k)
  · have hb15 := iq q hb13
    refine Sx.o (fun _ _ _ k => ex_aload_n dX11_heap_28 rfl rfl k) ?_
    refine Sx.o (fun _ _ _ k => op_bipush (-5 : Int32) dX11_heap_29 (by decide) k) ?_
    obtain ⟨r42, e_r42, hb43⟩ := ob2 hb15
    refine sx_callV (dc := 0) (as := [.int (-5 : Int32)]) (stq := [.int r42.1]) (by omega) dX11_heap_31 MX11_refuse kX11_118 iX11_refuse sX11_refuse rfl rfl (Top_refuse_o e_r42) rfl rfl (Nat.le_of_ble_eq_true rfl) (Nat.le_of_ble_eq_true rfl) (Top_refuse_s e_r42) rfl ?_
    obtain rfl := Option.some.inj hb43
    exact Sx.r (fun _ _ _ k => ex_iret rfl dX11_heap_34 k)
set_option maxHeartbeats 1000000 in
set_option maxRecDepth 100000 in
theorem Top_heap_q {v0 : Nat} {h : am_H} {r : (Int32 × am_H)} (hb : Top_heap v0 h = some r) : Eqs h r.2 := by
  unfold Top_heap at hb
  have hb := (iz hb).2
  have w0 := Eqs.rf h
  obtain ⟨x1, e_x1, hb2⟩ := ob2 hb
  obtain ⟨x3, e_x3, hb4⟩ := ob2 hb2
  obtain ⟨x5, e_x5, hb6⟩ := ob2 hb4
  obtain ⟨h7, e_h7, hb8⟩ := ob2 hb6
  have w9 := w0.tr (pV_q e_h7)
  obtain ⟨x10, e_x10, hb11⟩ := ob2 hb8
  obtain ⟨x12, e_x12, hb13⟩ := ob2 hb11
  by_cases q : x12 < (6 : Int32)
  · have hb14 := ip q hb13
    obtain ⟨x16, e_x16, hb17⟩ := ob2 hb14
    obtain ⟨x18, e_x18, hb19⟩ := ob2 hb17
    by_cases q : x18 = (0 : Int32)
    · have hb21 := ip q hb19
      obtain ⟨r39, e_r39, hb40⟩ := ob2 hb21
      have w41 := w9.tr (Top_refuse_q e_r39)
      obtain rfl := Option.some.inj hb40
      exact w41
    · have hb20 := iq q hb19
      obtain ⟨x22, e_x22, hb23⟩ := ob2 hb20
      obtain ⟨h24, e_h24, hb25⟩ := ob2 hb23
      have w26 := w9.tr (Past_clear_q e_h24)
      obtain ⟨x27, e_x27, hb28⟩ := ob2 hb25
      obtain ⟨x29, e_x29, hb30⟩ := ob2 hb28
      obtain ⟨x31, e_x31, hb32⟩ := ob2 hb30
      obtain ⟨r33, e_r33, hb34⟩ := ob2 hb32
      have w35 := w26.tr (Table_addHeap_q e_r33)
      obtain ⟨r36, e_r36, hb37⟩ := ob2 hb34
      have w38 := w35.tr (Top_answer_q e_r36)
      obtain rfl := Option.some.inj hb37
      exact w38
  · have hb15 := iq q hb13
    obtain ⟨r42, e_r42, hb43⟩ := ob2 hb15
    have w44 := w9.tr (Top_refuse_q e_r42)
    obtain rfl := Option.some.inj hb43
    exact w44
theorem Top_heap_o {v0 : Nat} {h : am_H} {r : (Int32 × am_H)} (hb : Top_heap v0 h = some r) : isO h 11 v0 = true := by
  unfold Top_heap at hb
  exact (iz hb).1
set_option maxHeartbeats 1000000 in
set_option maxRecDepth 100000 in
noncomputable def Top_image_13 (v0 : Nat) (h : am_H) : Option (Int32 × am_H) := (Top_refuse v0 (-1 : Int32) h).bind fun r1 => some (r1.1, r1.2)
set_option maxHeartbeats 1000000 in
set_option maxRecDepth 100000 in
theorem Top_image_13_s {v0 : Nat} {h : am_H} {r : (Int32 × am_H)} (hb : Top_image_13 v0 h = some r) : Sx 4 mX11_image 13 [.ref v0, .retAddr 0] [] h (some (.int r.1)) r.2 := by
  unfold Top_image_13 at hb
  refine Sx.o (fun _ _ _ k => ex_aload_n dX11_image_13 rfl rfl k) ?_
  refine Sx.o (fun _ _ _ k => op_iconst (-1 : Int32) dX11_image_14 (by decide) k) ?_
  obtain ⟨r1, e_r1, hb2⟩ := ob2 hb
  refine sx_callV (dc := 0) (as := [.int (-1 : Int32)]) (stq := [.int r1.1]) (by omega) dX11_image_15 MX11_refuse kX11_118 iX11_refuse sX11_refuse rfl rfl (Top_refuse_o e_r1) rfl rfl (Nat.le_of_ble_eq_true rfl) (Nat.le_of_ble_eq_true rfl) (Top_refuse_s e_r1) rfl ?_
  obtain rfl := Option.some.inj hb2
  exact Sx.r (fun _ _ _ k => ex_iret rfl dX11_image_18 k)
set_option maxHeartbeats 1000000 in
set_option maxRecDepth 100000 in
theorem Top_image_13_q {v0 : Nat} {h : am_H} {r : (Int32 × am_H)} (hb : Top_image_13 v0 h = some r) : Eqs h r.2 := by
  unfold Top_image_13 at hb
  have w0 := Eqs.rf h
  obtain ⟨r1, e_r1, hb2⟩ := ob2 hb
  have w3 := w0.tr (Top_refuse_q e_r1)
  obtain rfl := Option.some.inj hb2
  exact w3
set_option maxHeartbeats 1000000 in
set_option maxRecDepth 100000 in
noncomputable def Top_image (v0 : Nat) (v1 : Int32) (h : am_H) : Option (Int32 × am_H) := if isO h 11 v0 = true then if v1 < (0 : Int32) then Top_image_13 v0 h else (gR h 11 v0 2).bind fun x6 => (aL h x6).bind fun x8 => if v1 < x8 then (gR h 11 v0 2).bind fun x12 => (aN h 5 x12 v1).bind fun x14 => (x14).bind fun x16 => (gR h 11 v0 1).bind fun x18 => (Table_copy x16 x18 h).bind fun h20 => (gR h20 11 v0 3).bind fun x23 => (sZ h20 x23 v1 (1 : Int32)).bind fun h25 => (Top_answer v0 (0 : Int32) h25).bind fun r28 => some (r28.1, r28.2) else Top_image_13 v0 h else none
set_option maxHeartbeats 1000000 in
set_option maxRecDepth 100000 in
theorem Top_image_s {v0 : Nat} {v1 : Int32} {h : am_H} {r : (Int32 × am_H)} (hb : Top_image v0 v1 h = some r) : Sx 4 mX11_image 0 (am_en [.ref v0, .int v1] 2) [] h (some (.int r.1)) r.2 := by
  unfold Top_image at hb
  have hb := (iz hb).2
  show Sx 4 mX11_image 0 [.ref v0, .int v1] [] h (some (.int r.1)) r.2
  refine Sx.o (fun _ _ _ k => ex_iload_n dX11_image_0 rfl k) ?_
  refine Sx.b (fun _ _ _ k1 k2 => ex_if_lt 13 dX11_image_1 (by decide) k1 k2) (fun q => ?_) (fun q => ?_)
  · have hb4 := ip q hb
    refine Sx.fg [true, false] ?_
    exact Top_image_13_s hb4
  · have hb5 := iq q hb
    refine Sx.o (fun _ _ _ k => ex_iload_n dX11_image_4 rfl k) ?_
    refine Sx.o (fun _ _ _ k => ex_aload_n dX11_image_5 rfl rfl k) ?_
    obtain ⟨x6, e_x6, hb7⟩ := ob2 hb5
    refine Sx.o (fun _ _ _ k => op_getR fX11_23 dX11_image_6 e_x6 k) ?_
    obtain ⟨x8, e_x8, hb9⟩ := ob2 hb7
    refine Sx.o (fun _ _ _ k => op_alen dX11_image_9 e_x8 k) ?_
    refine Sx.b (fun _ _ _ k1 k2 => ex_icmp_lt 19 dX11_image_10 (by decide) k1 k2) (fun q => ?_) (fun q => ?_)
    · have hb10 := ip q hb9
      refine Sx.o (fun _ _ _ k => ex_aload_n dX11_image_19 rfl rfl k) ?_
      obtain ⟨x12, e_x12, hb13⟩ := ob2 hb10
      refine Sx.o (fun _ _ _ k => op_getR fX11_23 dX11_image_20 e_x12 k) ?_
      refine Sx.o (fun _ _ _ k => ex_iload_n dX11_image_23 rfl k) ?_
      obtain ⟨x14, e_x14, hb15⟩ := ob2 hb13
      refine Sx.o (fun _ _ _ k => op_aald (Or.inr (Or.inl rfl)) dX11_image_24 e_x14 k) ?_
      obtain ⟨x16, e_x16, hb17⟩ := ob2 hb15
      subst e_x16
      refine Sx.o (fun _ _ _ k => ex_aload_n dX11_image_25 rfl rfl k) ?_
      obtain ⟨x18, e_x18, hb19⟩ := ob2 hb17
      refine Sx.o (fun _ _ _ k => op_getR fX11_19 dX11_image_26 e_x18 k) ?_
      obtain ⟨h20, e_h20, hb21⟩ := ob2 hb19
      refine sx_callV (dc := 3) (as := [.ref x18]) (stq := []) (by omega) dX11_image_29 MX7_copy kX11_322 iX7_copy sX7_copy rfl rfl (Table_copy_o e_h20) rfl rfl (Nat.le_of_ble_eq_true rfl) (Nat.le_of_ble_eq_true rfl) (Table_copy_s e_h20) rfl ?_
      refine Sx.o (fun _ _ _ k => ex_aload_n dX11_image_32 rfl rfl k) ?_
      obtain ⟨x23, e_x23, hb24⟩ := ob2 hb21
      refine Sx.o (fun _ _ _ k => op_getR fX11_27 dX11_image_33 e_x23 k) ?_
      refine Sx.o (fun _ _ _ k => ex_iload_n dX11_image_36 rfl k) ?_
      refine Sx.o (fun _ _ _ k => op_iconst (1 : Int32) dX11_image_37 (by decide) k) ?_
      obtain ⟨h25, e_h25, hb26⟩ := ob2 hb24
      refine Sx.p (sZ_q e_h25) (fun _ _ _ k => op_zast dX11_image_38 e_h25 k) ?_
      refine Sx.o (fun _ _ _ k => ex_aload_n dX11_image_39 rfl rfl k) ?_
      refine Sx.o (fun _ _ _ k => op_iconst (0 : Int32) dX11_image_40 (by decide) k) ?_
      obtain ⟨r28, e_r28, hb29⟩ := ob2 hb26
      refine sx_callV (dc := 0) (as := [.int (0 : Int32)]) (stq := [.int r28.1]) (by omega) dX11_image_41 MX11_answer kX11_137 iX11_answer sX11_answer rfl rfl (Top_answer_o e_r28) rfl rfl (Nat.le_of_ble_eq_true rfl) (Nat.le_of_ble_eq_true rfl) (Top_answer_s e_r28) rfl ?_
      obtain rfl := Option.some.inj hb29
      exact Sx.r (fun _ _ _ k => ex_iret rfl dX11_image_44 k)
    · have hb11 := iq q hb9
      refine Sx.fg [true, false] ?_
      exact Top_image_13_s hb11
set_option maxHeartbeats 1000000 in
set_option maxRecDepth 100000 in
theorem Top_image_q {v0 : Nat} {v1 : Int32} {h : am_H} {r : (Int32 × am_H)} (hb : Top_image v0 v1 h = some r) : Eqs h r.2 := by
  unfold Top_image at hb
  have hb := (iz hb).2
  have w0 := Eqs.rf h
  by_cases q : v1 < (0 : Int32)
  · have hb4 := ip q hb
    exact w0.tr (Top_image_13_q hb4)
  · have hb5 := iq q hb
    obtain ⟨x6, e_x6, hb7⟩ := ob2 hb5
    obtain ⟨x8, e_x8, hb9⟩ := ob2 hb7
    by_cases q : v1 < x8
    · have hb10 := ip q hb9
      obtain ⟨x12, e_x12, hb13⟩ := ob2 hb10
      obtain ⟨x14, e_x14, hb15⟩ := ob2 hb13
      obtain ⟨x16, e_x16, hb17⟩ := ob2 hb15
      subst e_x16
      obtain ⟨x18, e_x18, hb19⟩ := ob2 hb17
      obtain ⟨h20, e_h20, hb21⟩ := ob2 hb19
      have w22 := w0.tr (Table_copy_q e_h20)
      obtain ⟨x23, e_x23, hb24⟩ := ob2 hb21
      obtain ⟨h25, e_h25, hb26⟩ := ob2 hb24
      have w27 := w22.tr (sZ_q e_h25)
      obtain ⟨r28, e_r28, hb29⟩ := ob2 hb26
      have w30 := w27.tr (Top_answer_q e_r28)
      obtain rfl := Option.some.inj hb29
      exact w30
    · have hb11 := iq q hb9
      exact w0.tr (Top_image_13_q hb11)
theorem Top_image_o {v0 : Nat} {v1 : Int32} {h : am_H} {r : (Int32 × am_H)} (hb : Top_image v0 v1 h = some r) : isO h 11 v0 = true := by
  unfold Top_image at hb
  exact (iz hb).1
set_option maxHeartbeats 1000000 in
set_option maxRecDepth 100000 in
noncomputable def Top_init_36_b (g : (Nat × Int32 × Nat × am_H) → Option am_H) (v0 : Nat) (v1 : Int32) (h : am_H) : Option am_H := (gR h 11 v0 2).bind fun x1 => (aL h x1).bind fun x3 => if x3 ≤ v1 then (nA h 2 (2 : Int32)).bind fun h7 => (pV h7 11 v0 3 (.ref (List.length h))).bind fun h9 => (some (h9 ++ [.inr (2, [.int 0, .int 0, .null, .null])])).bind fun h12 => (Past_init (List.length h9) h12).bind fun h14 => (pV h14 11 v0 4 (.ref (List.length h9))).bind fun h16 => (some (h16 ++ [.inr (3, [.null, .null, .int 0, .int 0])])).bind fun h19 => (gR h19 11 v0 0).bind fun x21 => (Reader_init (List.length h16) x21 h19).bind fun h23 => (pV h23 11 v0 5 (.ref (List.length h16))).bind fun h25 => (some (h25 ++ [.inr (6, [.int 0, .int 0, .int 0, .int 0, .int 0, .int 0, .int 0, .int 0, .null, .null, .null])])).bind fun h28 => (gR h28 11 v0 1).bind fun x30 => (Steps_init (List.length h25) x30 h28).bind fun h32 => (pV h32 11 v0 6 (.ref (List.length h25))).bind fun h34 => (some (h34 ++ [.inr (1, [.int 0, .null, .null, .null, .null, .null, .null, .int 0, .int 0])])).bind fun h37 => (gR h37 11 v0 1).bind fun x39 => (gR h37 11 v0 4).bind fun x41 => (gR h37 11 v0 6).bind fun x43 => (Hands_init (List.length h34) x39 x41 x43 h37).bind fun h45 => (pV h45 11 v0 7 (.ref (List.length h34))).bind fun h47 => (some (h47 ++ [.inr (10, [.int 0, .int 0, .int 0, .null, .int 0, .int 0, .null, .null, .null, .null, .null, .null, .null, .null, .int 0, .int 0, .null, .null, .int 0])])).bind fun h50 => (gR h50 11 v0 1).bind fun x52 => (gR h50 11 v0 6).bind fun x54 => (Ways_init (List.length h47) x52 x54 h50).bind fun h56 => (pV h56 11 v0 8 (.ref (List.length h47))).bind fun h58 => (some (h58 ++ [.inr (5, [.int 0, .null, .null, .int 0])])).bind fun h61 => (Sorter_init (List.length h58) h61).bind fun h63 => (pV h63 11 v0 9 (.ref (List.length h58))).bind fun h65 => (some (h65 ++ [.inr (0, [.int 0, .int 0, .int 0, .null, .null, .long 0])])).bind fun h68 => (gR h68 11 v0 6).bind fun x70 => (Evenings_init (List.length h65) x70 h68).bind fun h72 => (pV h72 11 v0 10 (.ref (List.length h65))).bind fun h74 => (some (h74 ++ [.inr (4, [.null, .int 0, .int 0, .int 0, .int 0])])).bind fun h77 => (Row_init (List.length h74) h77).bind fun h79 => (pV h79 11 v0 11 (.ref (List.length h74))).bind fun h81 => (nA h81 0 (7 : Int32)).bind fun h84 => (pV h84 11 v0 12 (.ref (List.length h81))).bind fun h86 => (pV h86 11 v0 13 (.int (-1 : Int32))).bind fun h89 => (pV h89 11 v0 14 (.int (0 : Int32))).bind fun h92 => some h92 else (gR h 11 v0 2).bind fun x95 => (some (h ++ [.inr (7, [.int 0, .int 0, .int 0, .int 0, .int 0, .int 0, .null, .null, .null, .null])])).bind fun h97 => (Table_init (List.length h) h97).bind fun h99 => (sN h99 5 x95 v1 (some (List.length h))).bind fun h101 => g (36, (v1 + (1 : Int32)), v0, h101)
set_option maxHeartbeats 1000000 in
set_option maxRecDepth 100000 in
theorem Top_init_36_m {g g2 : (Nat × Int32 × Nat × am_H) → Option am_H} (hg : ∀ s, Le (g s) (g2 s)) (v0 : Nat) (v1 : Int32) (h : am_H) : Le (Top_init_36_b g v0 v1 h) (Top_init_36_b g2 v0 v1 h) := by unfold Top_init_36_b; exact le_b (le_r _) fun x1 => le_b (le_r _) fun x3 => le_i (le_r _) (le_b (le_r _) fun x95 => le_b (le_r _) fun h97 => le_b (le_r _) fun h99 => le_b (le_r _) fun h101 => hg _)
noncomputable def Top_init_36_F (g : (Nat × Int32 × Nat × am_H) → Option am_H) (s : (Nat × Int32 × Nat × am_H)) : Option am_H := if s.1 = 36 then Top_init_36_b g s.2.2.1 s.2.1 s.2.2.2 else none
theorem Top_init_36_M : Mn Top_init_36_F := fun g g2 hg s => by unfold Top_init_36_F; exact le_i (Top_init_36_m hg s.2.2.1 s.2.1 s.2.2.2) (le_r _)
def Top_init_36_P (s : (Nat × Int32 × Nat × am_H)) (r : am_H) : Prop := (s.1 = 36 → Sx 4 mX11_init 36 [.ref s.2.2.1, .int s.2.1] [] s.2.2.2 none r) ∧ True
set_option maxHeartbeats 1000000 in
set_option maxRecDepth 100000 in
theorem Top_init_36_t {g : (Nat × Int32 × Nat × am_H) → Option am_H} (hg : ∀ s r, g s = some r → Top_init_36_P s r) {v0 : Nat} {v1 : Int32} {h : am_H} {r : am_H} (hb : Top_init_36_b g v0 v1 h = some r) : Sx 4 mX11_init 36 [.ref v0, .int v1] [] h none r := by
  unfold Top_init_36_b at hb
  refine Sx.o (fun _ _ _ k => ex_iload_n dX11_init_36 rfl k) ?_
  refine Sx.o (fun _ _ _ k => ex_aload_n dX11_init_37 rfl rfl k) ?_
  obtain ⟨x1, e_x1, hb2⟩ := ob2 hb
  refine Sx.o (fun _ _ _ k => op_getR fX11_23 dX11_init_38 e_x1 k) ?_
  obtain ⟨x3, e_x3, hb4⟩ := ob2 hb2
  refine Sx.o (fun _ _ _ k => op_alen dX11_init_41 e_x3 k) ?_
  refine Sx.b (fun _ _ _ k1 k2 => ex_icmp_ge 64 dX11_init_42 (by decide) k1 k2) (fun q => ?_) (fun q => ?_)
  · have hb5 := ip q hb4
    refine Sx.o (fun _ _ _ k => ex_aload_n dX11_init_64 rfl rfl k) ?_
    refine Sx.o (fun _ _ _ k => op_iconst (2 : Int32) dX11_init_65 (by decide) k) ?_
    obtain ⟨h7, e_h7, hb8⟩ := ob2 hb5
    refine sx_newa (t := 2) (fun _ _ _ N c1 c2 c3 kk => ex_newa2 a_boolean dX11_init_66 c1 c2 c3 kk) e_h7 ?_
    obtain ⟨h9, e_h9, hb10⟩ := ob2 hb8
    refine Sx.p (pV_q e_h9) (fun _ _ _ k => op_putF pX11_27 (fun r hr => by cases hr; rfl) rfl dX11_init_68 e_h9 (fun _ => rfl) (fun _ => rfl) k) ?_
    refine Sx.o (fun _ _ _ k => ex_aload_n dX11_init_71 rfl rfl k) ?_
    obtain ⟨h12, e_h12, hb13⟩ := ob2 hb10
    have e2_h12 := Option.some.inj e_h12
    refine Sx.nw (N := 4) rfl (fun _ _ _ k => ex_new nX11_31 dX11_init_72 k) ?_
    rw [e2_h12]
    refine Sx.o (fun _ _ _ k => ex_dup dX11_init_75 rfl k) ?_
    obtain ⟨h14, e_h14, hb15⟩ := ob2 hb13
    refine sx_callI (as := []) (by omega) dX11_init_76 MX2_init rfl rfl kX11_33 iX2_init rfl rfl (Nat.le_of_ble_eq_true rfl) (Nat.le_of_ble_eq_true rfl) (Past_init_s e_h14) ?_
    obtain ⟨h16, e_h16, hb17⟩ := ob2 hb15
    refine Sx.p (pV_q e_h16) (fun _ _ _ k => op_putF pX11_34 (fun r hr => by cases hr; rfl) rfl dX11_init_79 e_h16 (fun _ => rfl) (fun _ => rfl) k) ?_
    refine Sx.o (fun _ _ _ k => ex_aload_n dX11_init_82 rfl rfl k) ?_
    obtain ⟨h19, e_h19, hb20⟩ := ob2 hb17
    have e2_h19 := Option.some.inj e_h19
    refine Sx.nw (N := 4) rfl (fun _ _ _ k => ex_new nX11_38 dX11_init_83 k) ?_
    rw [e2_h19]
    refine Sx.o (fun _ _ _ k => ex_dup dX11_init_86 rfl k) ?_
    refine Sx.o (fun _ _ _ k => ex_aload_n dX11_init_87 rfl rfl k) ?_
    obtain ⟨x21, e_x21, hb22⟩ := ob2 hb20
    refine Sx.o (fun _ _ _ k => op_getR fX11_10 dX11_init_88 e_x21 k) ?_
    obtain ⟨h23, e_h23, hb24⟩ := ob2 hb22
    refine sx_callI (as := [.ref x21]) (by omega) dX11_init_91 MX3_init rfl rfl kX11_40 iX3_init rfl rfl (Nat.le_of_ble_eq_true rfl) (Nat.le_of_ble_eq_true rfl) (Reader_init_s e_h23) ?_
    obtain ⟨h25, e_h25, hb26⟩ := ob2 hb24
    refine Sx.p (pV_q e_h25) (fun _ _ _ k => op_putF pX11_43 (fun r hr => by cases hr; rfl) rfl dX11_init_94 e_h25 (fun _ => rfl) (fun _ => rfl) k) ?_
    refine Sx.o (fun _ _ _ k => ex_aload_n dX11_init_97 rfl rfl k) ?_
    obtain ⟨h28, e_h28, hb29⟩ := ob2 hb26
    have e2_h28 := Option.some.inj e_h28
    refine Sx.nw (N := 11) rfl (fun _ _ _ k => ex_new nX11_47 dX11_init_98 k) ?_
    rw [e2_h28]
    refine Sx.o (fun _ _ _ k => ex_dup dX11_init_101 rfl k) ?_
    refine Sx.o (fun _ _ _ k => ex_aload_n dX11_init_102 rfl rfl k) ?_
    obtain ⟨x30, e_x30, hb31⟩ := ob2 hb29
    refine Sx.o (fun _ _ _ k => op_getR fX11_19 dX11_init_103 e_x30 k) ?_
    obtain ⟨h32, e_h32, hb33⟩ := ob2 hb31
    refine sx_callI (as := [.ref x30]) (by omega) dX11_init_106 MX6_init rfl rfl kX11_49 iX6_init rfl rfl (Nat.le_of_ble_eq_true rfl) (Nat.le_of_ble_eq_true rfl) (Steps_init_s e_h32) ?_
    obtain ⟨h34, e_h34, hb35⟩ := ob2 hb33
    refine Sx.p (pV_q e_h34) (fun _ _ _ k => op_putF pX11_52 (fun r hr => by cases hr; rfl) rfl dX11_init_109 e_h34 (fun _ => rfl) (fun _ => rfl) k) ?_
    refine Sx.o (fun _ _ _ k => ex_aload_n dX11_init_112 rfl rfl k) ?_
    obtain ⟨h37, e_h37, hb38⟩ := ob2 hb35
    have e2_h37 := Option.some.inj e_h37
    refine Sx.nw (N := 9) rfl (fun _ _ _ k => ex_new nX11_56 dX11_init_113 k) ?_
    rw [e2_h37]
    refine Sx.o (fun _ _ _ k => ex_dup dX11_init_116 rfl k) ?_
    refine Sx.o (fun _ _ _ k => ex_aload_n dX11_init_117 rfl rfl k) ?_
    obtain ⟨x39, e_x39, hb40⟩ := ob2 hb38
    refine Sx.o (fun _ _ _ k => op_getR fX11_19 dX11_init_118 e_x39 k) ?_
    refine Sx.o (fun _ _ _ k => ex_aload_n dX11_init_121 rfl rfl k) ?_
    obtain ⟨x41, e_x41, hb42⟩ := ob2 hb40
    refine Sx.o (fun _ _ _ k => op_getR fX11_34 dX11_init_122 e_x41 k) ?_
    refine Sx.o (fun _ _ _ k => ex_aload_n dX11_init_125 rfl rfl k) ?_
    obtain ⟨x43, e_x43, hb44⟩ := ob2 hb42
    refine Sx.o (fun _ _ _ k => op_getR fX11_52 dX11_init_126 e_x43 k) ?_
    obtain ⟨h45, e_h45, hb46⟩ := ob2 hb44
    refine sx_callI (as := [.ref x39, .ref x41, .ref x43]) (by omega) dX11_init_129 MX1_init rfl rfl kX11_58 iX1_init rfl rfl (Nat.le_of_ble_eq_true rfl) (Nat.le_of_ble_eq_true rfl) (Hands_init_s e_h45) ?_
    obtain ⟨h47, e_h47, hb48⟩ := ob2 hb46
    refine Sx.p (pV_q e_h47) (fun _ _ _ k => op_putF pX11_61 (fun r hr => by cases hr; rfl) rfl dX11_init_132 e_h47 (fun _ => rfl) (fun _ => rfl) k) ?_
    refine Sx.o (fun _ _ _ k => ex_aload_n dX11_init_135 rfl rfl k) ?_
    obtain ⟨h50, e_h50, hb51⟩ := ob2 hb48
    have e2_h50 := Option.some.inj e_h50
    refine Sx.nw (N := 19) rfl (fun _ _ _ k => ex_new nX11_65 dX11_init_136 k) ?_
    rw [e2_h50]
    refine Sx.o (fun _ _ _ k => ex_dup dX11_init_139 rfl k) ?_
    refine Sx.o (fun _ _ _ k => ex_aload_n dX11_init_140 rfl rfl k) ?_
    obtain ⟨x52, e_x52, hb53⟩ := ob2 hb51
    refine Sx.o (fun _ _ _ k => op_getR fX11_19 dX11_init_141 e_x52 k) ?_
    refine Sx.o (fun _ _ _ k => ex_aload_n dX11_init_144 rfl rfl k) ?_
    obtain ⟨x54, e_x54, hb55⟩ := ob2 hb53
    refine Sx.o (fun _ _ _ k => op_getR fX11_52 dX11_init_145 e_x54 k) ?_
    obtain ⟨h56, e_h56, hb57⟩ := ob2 hb55
    refine sx_callI (as := [.ref x52, .ref x54]) (by omega) dX11_init_148 MX10_init rfl rfl kX11_67 iX10_init rfl rfl (Nat.le_of_ble_eq_true rfl) (Nat.le_of_ble_eq_true rfl) (Ways_init_s e_h56) ?_
    obtain ⟨h58, e_h58, hb59⟩ := ob2 hb57
    refine Sx.p (pV_q e_h58) (fun _ _ _ k => op_putF pX11_70 (fun r hr => by cases hr; rfl) rfl dX11_init_151 e_h58 (fun _ => rfl) (fun _ => rfl) k) ?_
    refine Sx.o (fun _ _ _ k => ex_aload_n dX11_init_154 rfl rfl k) ?_
    obtain ⟨h61, e_h61, hb62⟩ := ob2 hb59
    have e2_h61 := Option.some.inj e_h61
    refine Sx.nw (N := 4) rfl (fun _ _ _ k => ex_new nX11_74 dX11_init_155 k) ?_
    rw [e2_h61]
    refine Sx.o (fun _ _ _ k => ex_dup dX11_init_158 rfl k) ?_
    obtain ⟨h63, e_h63, hb64⟩ := ob2 hb62
    refine sx_callIN (as := []) (by omega) dX11_init_159 MX5_init rfl rfl kX11_76 iX5_init rfl rfl (Nat.le_of_ble_eq_true rfl) (Nat.le_of_ble_eq_true rfl) (Sorter_init_s e_h63) ?_
    obtain ⟨h65, e_h65, hb66⟩ := ob2 hb64
    refine Sx.p (pV_q e_h65) (fun _ _ _ k => op_putF pX11_77 (fun r hr => by cases hr; rfl) rfl dX11_init_162 e_h65 (fun _ => rfl) (fun _ => rfl) k) ?_
    refine Sx.o (fun _ _ _ k => ex_aload_n dX11_init_165 rfl rfl k) ?_
    obtain ⟨h68, e_h68, hb69⟩ := ob2 hb66
    have e2_h68 := Option.some.inj e_h68
    refine Sx.nw (N := 6) rfl (fun _ _ _ k => ex_new nX11_81 dX11_init_166 k) ?_
    rw [e2_h68]
    refine Sx.o (fun _ _ _ k => ex_dup dX11_init_169 rfl k) ?_
    refine Sx.o (fun _ _ _ k => ex_aload_n dX11_init_170 rfl rfl k) ?_
    obtain ⟨x70, e_x70, hb71⟩ := ob2 hb69
    refine Sx.o (fun _ _ _ k => op_getR fX11_52 dX11_init_171 e_x70 k) ?_
    obtain ⟨h72, e_h72, hb73⟩ := ob2 hb71
    refine sx_callI (as := [.ref x70]) (by omega) dX11_init_174 MX0_init rfl rfl kX11_83 iX0_init rfl rfl (Nat.le_of_ble_eq_true rfl) (Nat.le_of_ble_eq_true rfl) (Evenings_init_s e_h72) ?_
    obtain ⟨h74, e_h74, hb75⟩ := ob2 hb73
    refine Sx.p (pV_q e_h74) (fun _ _ _ k => op_putF pX11_86 (fun r hr => by cases hr; rfl) rfl dX11_init_177 e_h74 (fun _ => rfl) (fun _ => rfl) k) ?_
    refine Sx.o (fun _ _ _ k => ex_aload_n dX11_init_180 rfl rfl k) ?_
    obtain ⟨h77, e_h77, hb78⟩ := ob2 hb75
    have e2_h77 := Option.some.inj e_h77
    refine Sx.nw (N := 5) rfl (fun _ _ _ k => ex_new nX11_90 dX11_init_181 k) ?_
    rw [e2_h77]
    refine Sx.o (fun _ _ _ k => ex_dup dX11_init_184 rfl k) ?_
    obtain ⟨h79, e_h79, hb80⟩ := ob2 hb78
    refine sx_callIN (as := []) (by omega) dX11_init_185 MX4_init rfl rfl kX11_92 iX4_init rfl rfl (Nat.le_of_ble_eq_true rfl) (Nat.le_of_ble_eq_true rfl) (Row_init_s e_h79) ?_
    obtain ⟨h81, e_h81, hb82⟩ := ob2 hb80
    refine Sx.p (pV_q e_h81) (fun _ _ _ k => op_putF pX11_93 (fun r hr => by cases hr; rfl) rfl dX11_init_188 e_h81 (fun _ => rfl) (fun _ => rfl) k) ?_
    refine Sx.o (fun _ _ _ k => ex_aload_n dX11_init_191 rfl rfl k) ?_
    refine Sx.o (fun _ _ _ k => op_bipush (7 : Int32) dX11_init_192 (by decide) k) ?_
    obtain ⟨h84, e_h84, hb85⟩ := ob2 hb82
    refine sx_newa (t := 0) (fun _ _ _ N c1 c2 c3 kk => ex_newa0 a_int dX11_init_194 c1 c2 c3 kk) e_h84 ?_
    obtain ⟨h86, e_h86, hb87⟩ := ob2 hb85
    refine Sx.p (pV_q e_h86) (fun _ _ _ k => op_putF pX11_97 (fun r hr => by cases hr; rfl) rfl dX11_init_196 e_h86 (fun _ => rfl) (fun _ => rfl) k) ?_
    refine Sx.o (fun _ _ _ k => ex_aload_n dX11_init_199 rfl rfl k) ?_
    refine Sx.o (fun _ _ _ k => op_iconst (-1 : Int32) dX11_init_200 (by decide) k) ?_
    obtain ⟨h89, e_h89, hb90⟩ := ob2 hb87
    refine Sx.p (pV_q e_h89) (fun _ _ _ k => op_put pX11_101 dX11_init_201 e_h89 (fun _ => rfl) (fun _ => rfl) k) ?_
    refine Sx.o (fun _ _ _ k => ex_aload_n dX11_init_204 rfl rfl k) ?_
    refine Sx.o (fun _ _ _ k => op_iconst (0 : Int32) dX11_init_205 (by decide) k) ?_
    obtain ⟨h92, e_h92, hb93⟩ := ob2 hb90
    refine Sx.p (pV_q e_h92) (fun _ _ _ k => op_put pX11_105 dX11_init_206 e_h92 (fun _ => rfl) (fun _ => rfl) k) ?_
    obtain rfl := Option.some.inj hb93
    exact Sx.r (fun _ _ _ k => ex_vret rfl dX11_init_209 k)
  · have hb6 := iq q hb4
    refine Sx.o (fun _ _ _ k => ex_aload_n dX11_init_45 rfl rfl k) ?_
    obtain ⟨x95, e_x95, hb96⟩ := ob2 hb6
    refine Sx.o (fun _ _ _ k => op_getR fX11_23 dX11_init_46 e_x95 k) ?_
    refine Sx.o (fun _ _ _ k => ex_iload_n dX11_init_49 rfl k) ?_
    obtain ⟨h97, e_h97, hb98⟩ := ob2 hb96
    have e2_h97 := Option.some.inj e_h97
    refine Sx.nw (N := 10) rfl (fun _ _ _ k => ex_new nX11_16 dX11_init_50 k) ?_
    rw [e2_h97]
    refine Sx.o (fun _ _ _ k => ex_dup dX11_init_53 rfl k) ?_
    obtain ⟨h99, e_h99, hb100⟩ := ob2 hb98
    refine sx_callI (as := []) (by omega) dX11_init_54 MX7_init rfl rfl kX11_18 iX7_init rfl rfl (Nat.le_of_ble_eq_true rfl) (Nat.le_of_ble_eq_true rfl) (Table_init_s e_h99) ?_
    obtain ⟨h101, e_h101, hb102⟩ := ob2 hb100
    refine Sx.p (sN_q e_h101) (fun _ _ _ k => op_aast (w := (some (List.length h))) dX11_init_57 e_h101 k) ?_
    refine Sx.o (L' := [.ref v0, .int (v1 + (1 : Int32))]) (fun _ _ _ k => op_iinc (1 : Int32) dX11_init_58 (by decide) rfl (by decide) k) ?_
    refine Sx.o (fun _ _ _ k => ex_goto 36 dX11_init_61 (by decide) k) ?_
    exact (hg _ _ hb102).1 rfl
theorem Top_init_36_T : ∀ s r, fx Top_init_36_F Top_init_36_M s = some r → Top_init_36_P s r := fx_ind Top_init_36_M Top_init_36_P (fun g hg s r hb => by
  unfold Top_init_36_F at hb
  exact ⟨fun q => Top_init_36_t hg (ip q hb), trivial⟩)
noncomputable def Top_init_36 (v0 : Nat) (v1 : Int32) (h : am_H) : Option am_H := fx Top_init_36_F Top_init_36_M (36, v1, v0, h)
set_option maxHeartbeats 1000000 in
set_option maxRecDepth 100000 in
theorem Top_init_36_e (v0 : Nat) (v1 : Int32) (h : am_H) : Top_init_36 v0 v1 h = ((gR h 11 v0 2).bind fun x1 => (aL h x1).bind fun x3 => if x3 ≤ v1 then (nA h 2 (2 : Int32)).bind fun h7 => (pV h7 11 v0 3 (.ref (List.length h))).bind fun h9 => (some (h9 ++ [.inr (2, [.int 0, .int 0, .null, .null])])).bind fun h12 => (Past_init (List.length h9) h12).bind fun h14 => (pV h14 11 v0 4 (.ref (List.length h9))).bind fun h16 => (some (h16 ++ [.inr (3, [.null, .null, .int 0, .int 0])])).bind fun h19 => (gR h19 11 v0 0).bind fun x21 => (Reader_init (List.length h16) x21 h19).bind fun h23 => (pV h23 11 v0 5 (.ref (List.length h16))).bind fun h25 => (some (h25 ++ [.inr (6, [.int 0, .int 0, .int 0, .int 0, .int 0, .int 0, .int 0, .int 0, .null, .null, .null])])).bind fun h28 => (gR h28 11 v0 1).bind fun x30 => (Steps_init (List.length h25) x30 h28).bind fun h32 => (pV h32 11 v0 6 (.ref (List.length h25))).bind fun h34 => (some (h34 ++ [.inr (1, [.int 0, .null, .null, .null, .null, .null, .null, .int 0, .int 0])])).bind fun h37 => (gR h37 11 v0 1).bind fun x39 => (gR h37 11 v0 4).bind fun x41 => (gR h37 11 v0 6).bind fun x43 => (Hands_init (List.length h34) x39 x41 x43 h37).bind fun h45 => (pV h45 11 v0 7 (.ref (List.length h34))).bind fun h47 => (some (h47 ++ [.inr (10, [.int 0, .int 0, .int 0, .null, .int 0, .int 0, .null, .null, .null, .null, .null, .null, .null, .null, .int 0, .int 0, .null, .null, .int 0])])).bind fun h50 => (gR h50 11 v0 1).bind fun x52 => (gR h50 11 v0 6).bind fun x54 => (Ways_init (List.length h47) x52 x54 h50).bind fun h56 => (pV h56 11 v0 8 (.ref (List.length h47))).bind fun h58 => (some (h58 ++ [.inr (5, [.int 0, .null, .null, .int 0])])).bind fun h61 => (Sorter_init (List.length h58) h61).bind fun h63 => (pV h63 11 v0 9 (.ref (List.length h58))).bind fun h65 => (some (h65 ++ [.inr (0, [.int 0, .int 0, .int 0, .null, .null, .long 0])])).bind fun h68 => (gR h68 11 v0 6).bind fun x70 => (Evenings_init (List.length h65) x70 h68).bind fun h72 => (pV h72 11 v0 10 (.ref (List.length h65))).bind fun h74 => (some (h74 ++ [.inr (4, [.null, .int 0, .int 0, .int 0, .int 0])])).bind fun h77 => (Row_init (List.length h74) h77).bind fun h79 => (pV h79 11 v0 11 (.ref (List.length h74))).bind fun h81 => (nA h81 0 (7 : Int32)).bind fun h84 => (pV h84 11 v0 12 (.ref (List.length h81))).bind fun h86 => (pV h86 11 v0 13 (.int (-1 : Int32))).bind fun h89 => (pV h89 11 v0 14 (.int (0 : Int32))).bind fun h92 => some h92 else (gR h 11 v0 2).bind fun x95 => (some (h ++ [.inr (7, [.int 0, .int 0, .int 0, .int 0, .int 0, .int 0, .null, .null, .null, .null])])).bind fun h97 => (Table_init (List.length h) h97).bind fun h99 => (sN h99 5 x95 v1 (some (List.length h))).bind fun h101 => Top_init_36 v0 (v1 + (1 : Int32)) h101) := (fx_eq Top_init_36_M (36, v1, v0, h)).trans (if_pos rfl)
theorem Top_init_36_s {v0 : Nat} {v1 : Int32} {h : am_H} {r : am_H} (hb : Top_init_36 v0 v1 h = some r) : Sx 4 mX11_init 36 [.ref v0, .int v1] [] h none r := (Top_init_36_T _ _ hb).1 rfl
set_option maxHeartbeats 1000000 in
set_option maxRecDepth 100000 in
noncomputable def Top_init (v0 : Nat) (h : am_H) : Option am_H := if isO h 11 v0 = true then (some (h ++ [.inr (8, [.null, .int 0, .int 0, .int 0, .int 0])])).bind fun h104 => (Tape_init (List.length h) h104).bind fun h106 => (pV h106 11 v0 0 (.ref (List.length h))).bind fun h108 => (some (h108 ++ [.inr (7, [.int 0, .int 0, .int 0, .int 0, .int 0, .int 0, .null, .null, .null, .null])])).bind fun h111 => (Table_init (List.length h108) h111).bind fun h113 => (pV h113 11 v0 1 (.ref (List.length h108))).bind fun h115 => (nA h115 5 (2 : Int32)).bind fun h118 => (pV h118 11 v0 2 (.ref (List.length h115))).bind fun h120 => Top_init_36 v0 (0 : Int32) h120 else none
set_option maxHeartbeats 1000000 in
set_option maxRecDepth 100000 in
theorem Top_init_s {v0 : Nat} {h : am_H} {r : am_H} (hb : Top_init v0 h = some r) : Sx 4 mX11_init 0 (am_en [.ref v0] 2) [] h none r := by
  unfold Top_init at hb
  have hb := (iz hb).2
  show Sx 4 mX11_init 0 [.ref v0, .retAddr 0] [] h none r
  refine Sx.o (fun _ _ _ k => ex_aload_n dX11_init_0 rfl rfl k) ?_
  refine Sx.o (fun _ _ _ k => op_obj (by omega) dX11_init_1 kX11_1 (Nat.le_of_ble_eq_true rfl) k) ?_
  refine Sx.o (fun _ _ _ k => ex_aload_n dX11_init_4 rfl rfl k) ?_
  obtain ⟨h104, e_h104, hb105⟩ := ob2 hb
  have e2_h104 := Option.some.inj e_h104
  refine Sx.nw (N := 5) rfl (fun _ _ _ k => ex_new nX11_7 dX11_init_5 k) ?_
  rw [e2_h104]
  refine Sx.o (fun _ _ _ k => ex_dup dX11_init_8 rfl k) ?_
  obtain ⟨h106, e_h106, hb107⟩ := ob2 hb105
  refine sx_callIN (as := []) (by omega) dX11_init_9 MX8_init rfl rfl kX11_9 iX8_init rfl rfl (Nat.le_of_ble_eq_true rfl) (Nat.le_of_ble_eq_true rfl) (Tape_init_s e_h106) ?_
  obtain ⟨h108, e_h108, hb109⟩ := ob2 hb107
  refine Sx.p (pV_q e_h108) (fun _ _ _ k => op_putF pX11_10 (fun r hr => by cases hr; rfl) rfl dX11_init_12 e_h108 (fun _ => rfl) (fun _ => rfl) k) ?_
  refine Sx.o (fun _ _ _ k => ex_aload_n dX11_init_15 rfl rfl k) ?_
  obtain ⟨h111, e_h111, hb112⟩ := ob2 hb109
  have e2_h111 := Option.some.inj e_h111
  refine Sx.nw (N := 10) rfl (fun _ _ _ k => ex_new nX11_16 dX11_init_16 k) ?_
  rw [e2_h111]
  refine Sx.o (fun _ _ _ k => ex_dup dX11_init_19 rfl k) ?_
  obtain ⟨h113, e_h113, hb114⟩ := ob2 hb112
  refine sx_callI (as := []) (by omega) dX11_init_20 MX7_init rfl rfl kX11_18 iX7_init rfl rfl (Nat.le_of_ble_eq_true rfl) (Nat.le_of_ble_eq_true rfl) (Table_init_s e_h113) ?_
  obtain ⟨h115, e_h115, hb116⟩ := ob2 hb114
  refine Sx.p (pV_q e_h115) (fun _ _ _ k => op_putF pX11_19 (fun r hr => by cases hr; rfl) rfl dX11_init_23 e_h115 (fun _ => rfl) (fun _ => rfl) k) ?_
  refine Sx.o (fun _ _ _ k => ex_aload_n dX11_init_26 rfl rfl k) ?_
  refine Sx.o (fun _ _ _ k => op_iconst (2 : Int32) dX11_init_27 (by decide) k) ?_
  obtain ⟨h118, e_h118, hb119⟩ := ob2 hb116
  refine sx_newa (t := 5) (fun _ _ _ N c1 c2 c3 kk => ex_newq (Or.inr (Or.inl rfl)) wX11_16 a_5 dX11_init_28 c1 c2 c3 kk) e_h118 ?_
  obtain ⟨h120, e_h120, hb121⟩ := ob2 hb119
  refine Sx.p (pV_q e_h120) (fun _ _ _ k => op_putF pX11_23 (fun r hr => by cases hr; rfl) rfl dX11_init_31 e_h120 (fun _ => rfl) (fun _ => rfl) k) ?_
  refine Sx.o (fun _ _ _ k => op_iconst (0 : Int32) dX11_init_34 (by decide) k) ?_
  refine Sx.o (L' := [.ref v0, .int (0 : Int32)]) (fun _ _ _ k => ex_istore_n dX11_init_35 (by decide) k) ?_
  exact Top_init_36_s hb121
theorem Top_init_o {v0 : Nat} {h : am_H} {r : am_H} (hb : Top_init v0 h = some r) : isO h 11 v0 = true := by
  unfold Top_init at hb
  exact (iz hb).1
set_option maxHeartbeats 1000000 in
set_option maxRecDepth 100000 in
noncomputable def Top_law (v0 : Nat) (h : am_H) : Option (Int32 × am_H) := if isO h 11 v0 = true then (gR h 11 v0 1).bind fun x1 => (gI h 7 x1 2).bind fun x3 => if x3 < (6 : Int32) then (gR h 11 v0 5).bind fun x7 => (Reader_read x7 (0 : Int32) h).bind fun r9 => (pV r9.2 11 v0 13 (.int r9.1)).bind fun h11 => (gR h11 11 v0 0).bind fun x14 => (pV h11 8 x14 1 (.int (0 : Int32))).bind fun h16 => (gI h16 11 v0 13).bind fun x19 => if x19 = (-1 : Int32) then (gR h16 11 v0 1).bind fun x23 => (gR h16 11 v0 5).bind fun x25 => (gR h16 3 x25 0).bind fun x27 => (Text_trimmed x27 h16).bind fun r29 => (Table_addLaw x23 r29.1 r29.2).bind fun r31 => (Top_answer v0 r31.1 r31.2).bind fun r33 => some (r33.1, r33.2) else (Top_refuse v0 (-6 : Int32) h16).bind fun r35 => some (r35.1, r35.2) else (gR h 11 v0 0).bind fun x37 => (pV h 8 x37 1 (.int (0 : Int32))).bind fun h39 => (Top_refuse v0 (-5 : Int32) h39).bind fun r42 => some (r42.1, r42.2) else none
set_option maxHeartbeats 1000000 in
set_option maxRecDepth 100000 in
theorem Top_law_s {v0 : Nat} {h : am_H} {r : (Int32 × am_H)} (hb : Top_law v0 h = some r) : Sx 91 mX11_law 0 (am_en [.ref v0] 1) [] h (some (.int r.1)) r.2 := by
  unfold Top_law at hb
  have hb := (iz hb).2
  show Sx 91 mX11_law 0 [.ref v0] [] h (some (.int r.1)) r.2
  refine Sx.o (fun _ _ _ k => ex_aload_n dX11_law_0 rfl rfl k) ?_
  obtain ⟨x1, e_x1, hb2⟩ := ob2 hb
  refine Sx.o (fun _ _ _ k => op_getR fX11_19 dX11_law_1 e_x1 k) ?_
  obtain ⟨x3, e_x3, hb4⟩ := ob2 hb2
  refine Sx.o (fun _ _ _ k => op_getI fX11_173 dX11_law_4 e_x3 k) ?_
  refine Sx.o (fun _ _ _ k => op_bipush (6 : Int32) dX11_law_7 (by decide) k) ?_
  refine Sx.b (fun _ _ _ k1 k2 => ex_icmp_lt 27 dX11_law_9 (by decide) k1 k2) (fun q => ?_) (fun q => ?_)
  · have hb5 := ip q hb4
    refine Sx.o (fun _ _ _ k => ex_aload_n dX11_law_27 rfl rfl k) ?_
    refine Sx.o (fun _ _ _ k => ex_aload_n dX11_law_28 rfl rfl k) ?_
    obtain ⟨x7, e_x7, hb8⟩ := ob2 hb5
    refine Sx.o (fun _ _ _ k => op_getR fX11_43 dX11_law_29 e_x7 k) ?_
    refine Sx.o (fun _ _ _ k => op_iconst (0 : Int32) dX11_law_32 (by decide) k) ?_
    obtain ⟨r9, e_r9, hb10⟩ := ob2 hb8
    refine sx_callV (dc := 90) (as := [.int (0 : Int32)]) (stq := [.int r9.1, .ref v0]) (by omega) dX11_law_33 MX3_read kX11_176 iX3_read sX3_read rfl rfl (Reader_read_o e_r9) rfl rfl (Nat.le_of_ble_eq_true rfl) (Nat.le_of_ble_eq_true rfl) (Reader_read_s e_r9) rfl ?_
    obtain ⟨h11, e_h11, hb12⟩ := ob2 hb10
    refine Sx.p (pV_q e_h11) (fun _ _ _ k => op_put pX11_101 dX11_law_36 e_h11 (fun _ => rfl) (fun _ => rfl) k) ?_
    refine Sx.o (fun _ _ _ k => ex_aload_n dX11_law_39 rfl rfl k) ?_
    obtain ⟨x14, e_x14, hb15⟩ := ob2 hb12
    refine Sx.o (fun _ _ _ k => op_getR fX11_10 dX11_law_40 e_x14 k) ?_
    refine Sx.o (fun _ _ _ k => op_iconst (0 : Int32) dX11_law_43 (by decide) k) ?_
    obtain ⟨h16, e_h16, hb17⟩ := ob2 hb15
    refine Sx.p (pV_q e_h16) (fun _ _ _ k => op_put pX11_108 dX11_law_44 e_h16 (fun _ => rfl) (fun _ => rfl) k) ?_
    refine Sx.o (fun _ _ _ k => ex_aload_n dX11_law_47 rfl rfl k) ?_
    obtain ⟨x19, e_x19, hb20⟩ := ob2 hb17
    refine Sx.o (fun _ _ _ k => op_getI fX11_101 dX11_law_48 e_x19 k) ?_
    refine Sx.o (fun _ _ _ k => op_iconst (-1 : Int32) dX11_law_51 (by decide) k) ?_
    refine Sx.b (fun _ _ _ k1 k2 => ex_icmp_eq 62 dX11_law_52 (by decide) k1 k2) (fun q => ?_) (fun q => ?_)
    · have hb21 := ip q hb20
      refine Sx.o (fun _ _ _ k => ex_aload_n dX11_law_62 rfl rfl k) ?_
      refine Sx.o (fun _ _ _ k => ex_aload_n dX11_law_63 rfl rfl k) ?_
      obtain ⟨x23, e_x23, hb24⟩ := ob2 hb21
      refine Sx.o (fun _ _ _ k => op_getR fX11_19 dX11_law_64 e_x23 k) ?_
      refine Sx.o (fun _ _ _ k => ex_aload_n dX11_law_67 rfl rfl k) ?_
      obtain ⟨x25, e_x25, hb26⟩ := ob2 hb24
      refine Sx.o (fun _ _ _ k => op_getR fX11_43 dX11_law_68 e_x25 k) ?_
      obtain ⟨x27, e_x27, hb28⟩ := ob2 hb26
      refine Sx.o (fun _ _ _ k => op_getR fX11_180 dX11_law_71 e_x27 k) ?_
      obtain ⟨r29, e_r29, hb30⟩ := ob2 hb28
      refine sx_callV (dc := 2) (as := []) (stq := [.ref r29.1, .ref x23, .ref v0]) (by omega) dX11_law_74 MX9_trimmed kX11_184 iX9_trimmed sX9_trimmed rfl rfl (Text_trimmed_o e_r29) rfl rfl (Nat.le_of_ble_eq_true rfl) (Nat.le_of_ble_eq_true rfl) (Text_trimmed_s e_r29) rfl ?_
      obtain ⟨r31, e_r31, hb32⟩ := ob2 hb30
      refine sx_callV (dc := 0) (as := [.ref r29.1]) (stq := [.int r31.1, .ref v0]) (by omega) dX11_law_77 MX7_addLaw kX11_190 iX7_addLaw sX7_addLaw rfl rfl (Table_addLaw_o e_r31) rfl rfl (Nat.le_of_ble_eq_true rfl) (Nat.le_of_ble_eq_true rfl) (Table_addLaw_s e_r31) rfl ?_
      obtain ⟨r33, e_r33, hb34⟩ := ob2 hb32
      refine sx_callV (dc := 0) (as := [.int r31.1]) (stq := [.int r33.1]) (by omega) dX11_law_80 MX11_answer kX11_137 iX11_answer sX11_answer rfl rfl (Top_answer_o e_r33) rfl rfl (Nat.le_of_ble_eq_true rfl) (Nat.le_of_ble_eq_true rfl) (Top_answer_s e_r33) rfl ?_
      obtain rfl := Option.some.inj hb34
      exact Sx.r (fun _ _ _ k => ex_iret rfl dX11_law_83 k)
    · have hb22 := iq q hb20
      refine Sx.o (fun _ _ _ k => ex_aload_n dX11_law_55 rfl rfl k) ?_
      refine Sx.o (fun _ _ _ k => op_bipush (-6 : Int32) dX11_law_56 (by decide) k) ?_
      obtain ⟨r35, e_r35, hb36⟩ := ob2 hb22
      refine sx_callV (dc := 0) (as := [.int (-6 : Int32)]) (stq := [.int r35.1]) (by omega) dX11_law_58 MX11_refuse kX11_118 iX11_refuse sX11_refuse rfl rfl (Top_refuse_o e_r35) rfl rfl (Nat.le_of_ble_eq_true rfl) (Nat.le_of_ble_eq_true rfl) (Top_refuse_s e_r35) rfl ?_
      obtain rfl := Option.some.inj hb36
      exact Sx.r (fun _ _ _ k => ex_iret rfl dX11_law_61 k)
  · have hb6 := iq q hb4
    refine Sx.o (fun _ _ _ k => ex_aload_n dX11_law_12 rfl rfl k) ?_
    obtain ⟨x37, e_x37, hb38⟩ := ob2 hb6
    refine Sx.o (fun _ _ _ k => op_getR fX11_10 dX11_law_13 e_x37 k) ?_
    refine Sx.o (fun _ _ _ k => op_iconst (0 : Int32) dX11_law_16 (by decide) k) ?_
    obtain ⟨h39, e_h39, hb40⟩ := ob2 hb38
    refine Sx.p (pV_q e_h39) (fun _ _ _ k => op_put pX11_108 dX11_law_17 e_h39 (fun _ => rfl) (fun _ => rfl) k) ?_
    refine Sx.o (fun _ _ _ k => ex_aload_n dX11_law_20 rfl rfl k) ?_
    refine Sx.o (fun _ _ _ k => op_bipush (-5 : Int32) dX11_law_21 (by decide) k) ?_
    obtain ⟨r42, e_r42, hb43⟩ := ob2 hb40
    refine sx_callV (dc := 0) (as := [.int (-5 : Int32)]) (stq := [.int r42.1]) (by omega) dX11_law_23 MX11_refuse kX11_118 iX11_refuse sX11_refuse rfl rfl (Top_refuse_o e_r42) rfl rfl (Nat.le_of_ble_eq_true rfl) (Nat.le_of_ble_eq_true rfl) (Top_refuse_s e_r42) rfl ?_
    obtain rfl := Option.some.inj hb43
    exact Sx.r (fun _ _ _ k => ex_iret rfl dX11_law_26 k)
theorem Top_law_o {v0 : Nat} {h : am_H} {r : (Int32 × am_H)} (hb : Top_law v0 h = some r) : isO h 11 v0 = true := by
  unfold Top_law at hb
  exact (iz hb).1
set_option maxHeartbeats 1000000 in
set_option maxRecDepth 100000 in
noncomputable def Top_longest (v0 : Nat) (v1 : Int32) (v2 : Int32) (h : am_H) : Option (Int32 × am_H) := if isO h 11 v0 = true then if v1 < (1 : Int32) then some ((-1 : Int32), h) else if (7 : Int32) < v1 then some ((-1 : Int32), h) else if (0 : Int32) ≤ v2 then (gR h 11 v0 11).bind fun x7 => (Row_rise x7 v1 h).bind fun h9 => (gR h9 11 v0 8).bind fun x11 => (gR h9 11 v0 11).bind fun x13 => (Ways_survey x11 x13 h9).bind fun h15 => (gR h15 11 v0 8).bind fun x17 => (gI h15 10 x17 0).bind fun x19 => if x19 = (-1 : Int32) then (gR h15 11 v0 8).bind fun x23 => (gI h15 10 x23 0).bind fun x25 => some (x25, h15) else if v2 = (0 : Int32) then (gR h15 11 v0 8).bind fun x43 => (gI h15 10 x43 0).bind fun x45 => some (x45, h15) else if v2 = (1 : Int32) then (gR h15 11 v0 8).bind fun x39 => (gI h15 10 x39 1).bind fun x41 => some (x41, h15) else (gR h15 11 v0 8).bind fun x31 => (gR h15 11 v0 8).bind fun x33 => (gI h15 10 x33 2).bind fun x35 => (Ways_cardOf x31 x35 (v2 - (2 : Int32)) h15).bind fun r37 => some (r37.1, r37.2) else some ((-1 : Int32), h) else none
set_option maxHeartbeats 1000000 in
set_option maxRecDepth 100000 in
theorem Top_longest_s {v0 : Nat} {v1 : Int32} {v2 : Int32} {h : am_H} {r : (Int32 × am_H)} (hb : Top_longest v0 v1 v2 h = some r) : Sx 6 mX11_longest 0 (am_en [.ref v0, .int v1, .int v2] 3) [] h (some (.int r.1)) r.2 := by
  unfold Top_longest at hb
  have hb := (iz hb).2
  show Sx 6 mX11_longest 0 [.ref v0, .int v1, .int v2] [] h (some (.int r.1)) r.2
  refine Sx.o (fun _ _ _ k => ex_iload_n dX11_longest_0 rfl k) ?_
  refine Sx.o (fun _ _ _ k => op_iconst (1 : Int32) dX11_longest_1 (by decide) k) ?_
  refine Sx.b (fun _ _ _ k1 k2 => ex_icmp_lt 15 dX11_longest_2 (by decide) k1 k2) (fun q => ?_) (fun q => ?_)
  · have hb1 := ip q hb
    refine Sx.o (fun _ _ _ k => op_iconst (-1 : Int32) dX11_longest_15 (by decide) k) ?_
    obtain rfl := Option.some.inj hb1
    exact Sx.r (fun _ _ _ k => ex_iret rfl dX11_longest_16 k)
  · have hb2 := iq q hb
    refine Sx.o (fun _ _ _ k => ex_iload_n dX11_longest_5 rfl k) ?_
    refine Sx.o (fun _ _ _ k => op_bipush (7 : Int32) dX11_longest_6 (by decide) k) ?_
    refine Sx.b (fun _ _ _ k1 k2 => ex_icmp_gt 15 dX11_longest_8 (by decide) k1 k2) (fun q => ?_) (fun q => ?_)
    · have hb3 := ip q hb2
      refine Sx.o (fun _ _ _ k => op_iconst (-1 : Int32) dX11_longest_15 (by decide) k) ?_
      obtain rfl := Option.some.inj hb3
      exact Sx.r (fun _ _ _ k => ex_iret rfl dX11_longest_16 k)
    · have hb4 := iq q hb2
      refine Sx.o (fun _ _ _ k => ex_iload_n dX11_longest_11 rfl k) ?_
      refine Sx.b (fun _ _ _ k1 k2 => ex_if_ge 17 dX11_longest_12 (by decide) k1 k2) (fun q => ?_) (fun q => ?_)
      · have hb5 := ip q hb4
        refine Sx.o (fun _ _ _ k => ex_aload_n dX11_longest_17 rfl rfl k) ?_
        obtain ⟨x7, e_x7, hb8⟩ := ob2 hb5
        refine Sx.o (fun _ _ _ k => op_getR fX11_93 dX11_longest_18 e_x7 k) ?_
        refine Sx.o (fun _ _ _ k => ex_iload_n dX11_longest_21 rfl k) ?_
        obtain ⟨h9, e_h9, hb10⟩ := ob2 hb8
        refine sx_callV (dc := 1) (as := [.int v1]) (stq := []) (by omega) dX11_longest_22 MX4_rise kX11_238 iX4_rise sX4_rise rfl rfl (Row_rise_o e_h9) rfl rfl (Nat.le_of_ble_eq_true rfl) (Nat.le_of_ble_eq_true rfl) (Row_rise_s e_h9) rfl ?_
        refine Sx.o (fun _ _ _ k => ex_aload_n dX11_longest_25 rfl rfl k) ?_
        obtain ⟨x11, e_x11, hb12⟩ := ob2 hb10
        refine Sx.o (fun _ _ _ k => op_getR fX11_70 dX11_longest_26 e_x11 k) ?_
        refine Sx.o (fun _ _ _ k => ex_aload_n dX11_longest_29 rfl rfl k) ?_
        obtain ⟨x13, e_x13, hb14⟩ := ob2 hb12
        refine Sx.o (fun _ _ _ k => op_getR fX11_93 dX11_longest_30 e_x13 k) ?_
        obtain ⟨h15, e_h15, hb16⟩ := ob2 hb14
        refine sx_callV (dc := 5) (as := [.ref x13]) (stq := []) (by omega) dX11_longest_33 MX10_survey kX11_241 iX10_survey sX10_survey rfl rfl (Ways_survey_o e_h15) rfl rfl (Nat.le_of_ble_eq_true rfl) (Nat.le_of_ble_eq_true rfl) (Ways_survey_s e_h15) rfl ?_
        refine Sx.o (fun _ _ _ k => ex_aload_n dX11_longest_36 rfl rfl k) ?_
        obtain ⟨x17, e_x17, hb18⟩ := ob2 hb16
        refine Sx.o (fun _ _ _ k => op_getR fX11_70 dX11_longest_37 e_x17 k) ?_
        obtain ⟨x19, e_x19, hb20⟩ := ob2 hb18
        refine Sx.o (fun _ _ _ k => op_getI fX11_244 dX11_longest_40 e_x19 k) ?_
        refine Sx.o (fun _ _ _ k => op_iconst (-1 : Int32) dX11_longest_43 (by decide) k) ?_
        refine Sx.b (fun _ _ _ k1 k2 => ex_icmp_eq 51 dX11_longest_44 (by decide) k1 k2) (fun q => ?_) (fun q => ?_)
        · have hb21 := ip q hb20
          refine Sx.o (fun _ _ _ k => ex_aload_n dX11_longest_51 rfl rfl k) ?_
          obtain ⟨x23, e_x23, hb24⟩ := ob2 hb21
          refine Sx.o (fun _ _ _ k => op_getR fX11_70 dX11_longest_52 e_x23 k) ?_
          obtain ⟨x25, e_x25, hb26⟩ := ob2 hb24
          refine Sx.o (fun _ _ _ k => op_getI fX11_244 dX11_longest_55 e_x25 k) ?_
          obtain rfl := Option.some.inj hb26
          exact Sx.r (fun _ _ _ k => ex_iret rfl dX11_longest_58 k)
        · have hb22 := iq q hb20
          refine Sx.o (fun _ _ _ k => ex_iload_n dX11_longest_47 rfl k) ?_
          refine Sx.bn (fun _ _ _ k1 k2 => ex_if_ne 59 dX11_longest_48 (by decide) k1 k2) (fun q => ?_) (fun q => ?_)
          · have hb27 := iq q hb22
            refine Sx.o (fun _ _ _ k => ex_iload_n dX11_longest_59 rfl k) ?_
            refine Sx.o (fun _ _ _ k => op_iconst (1 : Int32) dX11_longest_60 (by decide) k) ?_
            refine Sx.bn (fun _ _ _ k1 k2 => ex_icmp_ne 74 dX11_longest_61 (by decide) k1 k2) (fun q => ?_) (fun q => ?_)
            · have hb29 := iq q hb27
              refine Sx.o (fun _ _ _ k => ex_aload_n dX11_longest_74 rfl rfl k) ?_
              obtain ⟨x31, e_x31, hb32⟩ := ob2 hb29
              refine Sx.o (fun _ _ _ k => op_getR fX11_70 dX11_longest_75 e_x31 k) ?_
              refine Sx.o (fun _ _ _ k => ex_aload_n dX11_longest_78 rfl rfl k) ?_
              obtain ⟨x33, e_x33, hb34⟩ := ob2 hb32
              refine Sx.o (fun _ _ _ k => op_getR fX11_70 dX11_longest_79 e_x33 k) ?_
              obtain ⟨x35, e_x35, hb36⟩ := ob2 hb34
              refine Sx.o (fun _ _ _ k => op_getI fX11_250 dX11_longest_82 e_x35 k) ?_
              refine Sx.o (fun _ _ _ k => ex_iload_n dX11_longest_85 rfl k) ?_
              refine Sx.o (fun _ _ _ k => op_iconst (2 : Int32) dX11_longest_86 (by decide) k) ?_
              refine Sx.o (fun _ _ _ k => ex_isub dX11_longest_87 k) ?_
              obtain ⟨r37, e_r37, hb38⟩ := ob2 hb36
              refine sx_callV (dc := 3) (as := [.int x35, .int (v2 - (2 : Int32))]) (stq := [.int r37.1]) (by omega) dX11_longest_88 MX10_cardOf kX11_253 iX10_cardOf sX10_cardOf rfl rfl (Ways_cardOf_o e_r37) rfl rfl (Nat.le_of_ble_eq_true rfl) (Nat.le_of_ble_eq_true rfl) (Ways_cardOf_s e_r37) rfl ?_
              obtain rfl := Option.some.inj hb38
              exact Sx.r (fun _ _ _ k => ex_iret rfl dX11_longest_91 k)
            · have hb30 := ip q hb27
              refine Sx.o (fun _ _ _ k => ex_aload_n dX11_longest_64 rfl rfl k) ?_
              obtain ⟨x39, e_x39, hb40⟩ := ob2 hb30
              refine Sx.o (fun _ _ _ k => op_getR fX11_70 dX11_longest_65 e_x39 k) ?_
              obtain ⟨x41, e_x41, hb42⟩ := ob2 hb40
              refine Sx.o (fun _ _ _ k => op_getI fX11_247 dX11_longest_68 e_x41 k) ?_
              refine Sx.o (fun _ _ _ k => ex_goto 91 dX11_longest_71 (by decide) k) ?_
              obtain rfl := Option.some.inj hb42
              exact Sx.r (fun _ _ _ k => ex_iret rfl dX11_longest_91 k)
          · have hb28 := ip q hb22
            refine Sx.o (fun _ _ _ k => ex_aload_n dX11_longest_51 rfl rfl k) ?_
            obtain ⟨x43, e_x43, hb44⟩ := ob2 hb28
            refine Sx.o (fun _ _ _ k => op_getR fX11_70 dX11_longest_52 e_x43 k) ?_
            obtain ⟨x45, e_x45, hb46⟩ := ob2 hb44
            refine Sx.o (fun _ _ _ k => op_getI fX11_244 dX11_longest_55 e_x45 k) ?_
            obtain rfl := Option.some.inj hb46
            exact Sx.r (fun _ _ _ k => ex_iret rfl dX11_longest_58 k)
      · have hb6 := iq q hb4
        refine Sx.o (fun _ _ _ k => op_iconst (-1 : Int32) dX11_longest_15 (by decide) k) ?_
        obtain rfl := Option.some.inj hb6
        exact Sx.r (fun _ _ _ k => ex_iret rfl dX11_longest_16 k)
theorem Top_longest_o {v0 : Nat} {v1 : Int32} {v2 : Int32} {h : am_H} {r : (Int32 × am_H)} (hb : Top_longest v0 v1 v2 h = some r) : isO h 11 v0 = true := by
  unfold Top_longest at hb
  exact (iz hb).1
set_option maxHeartbeats 1000000 in
set_option maxRecDepth 100000 in
noncomputable def Top_nearest (v0 : Int32) (h : am_H) : Option Int32 := some (if (-1000 : Int32) < (if v0 < (1000 : Int32) then v0 else (1000 : Int32)) then (if v0 < (1000 : Int32) then v0 else (1000 : Int32)) else (-1000 : Int32))
set_option maxHeartbeats 1000000 in
set_option maxRecDepth 100000 in
theorem Top_nearest_s {v0 : Int32} {h : am_H} {r : Int32} (hb : Top_nearest v0 h = some r) : Sx 1 mX11_nearest 0 (am_en [.int v0] 1) [] h (some (.int r)) h := by
  unfold Top_nearest at hb
  show Sx 1 mX11_nearest 0 [.int v0] [] h (some (.int r)) h
  refine Sx.o (fun _ _ _ k => op_sipush (-1000 : Int32) dX11_nearest_0 (by decide) k) ?_
  refine Sx.o (fun _ _ _ k => op_sipush (1000 : Int32) dX11_nearest_3 (by decide) k) ?_
  refine Sx.o (fun _ _ _ k => ex_iload_n dX11_nearest_6 rfl k) ?_
  refine Sx.o (fun _ _ _ k => op_mmin (by omega) dX11_nearest_7 kX11_324 (Nat.le_of_ble_eq_true rfl) k) ?_
  refine Sx.o (fun _ _ _ k => op_mmax (by omega) dX11_nearest_10 kX11_329 (Nat.le_of_ble_eq_true rfl) k) ?_
  obtain rfl := Option.some.inj hb
  exact Sx.r (fun _ _ _ k => ex_iret rfl dX11_nearest_13 k)
set_option maxHeartbeats 1000000 in
set_option maxRecDepth 100000 in
noncomputable def Top_odds (v0 : Nat) (v1 : Int32) (v2 : Int32) (v3 : Int32) (v4 : Int32) (h : am_H) : Option (Int32 × am_H) := if isO h 11 v0 = true then (gR h 11 v0 1).bind fun x1 => (Table_at x1 v1 h).bind fun x3 => if x3 = none then some ((-1 : Int32), h) else (x3).bind fun x7 => (gI h 4 x7 1).bind fun x9 => if (7 : Int32) < x9 then some ((-1 : Int32), h) else if v2 < (0 : Int32) then some ((-1 : Int32), h) else (gI h 4 x7 1).bind fun x15 => if v2 ≤ x15 then if v3 < (0 : Int32) then some ((-1 : Int32), h) else if (300 : Int32) < v3 then some ((-1 : Int32), h) else if v4 < (0 : Int32) then some ((-1 : Int32), h) else if v4 ≤ (1 : Int32) then (gR h 11 v0 8).bind fun x27 => (Ways_weigh x27 x7 v2 v3 h).bind fun h29 => if v4 = (0 : Int32) then (gR h29 11 v0 8).bind fun x37 => (gI h29 10 x37 4).bind fun x39 => some (x39, h29) else (gR h29 11 v0 8).bind fun x33 => (gI h29 10 x33 5).bind fun x35 => some (x35, h29) else some ((-1 : Int32), h) else some ((-1 : Int32), h) else none
set_option maxHeartbeats 1000000 in
set_option maxRecDepth 100000 in
theorem Top_odds_s {v0 : Nat} {v1 : Int32} {v2 : Int32} {v3 : Int32} {v4 : Int32} {h : am_H} {r : (Int32 × am_H)} (hb : Top_odds v0 v1 v2 v3 v4 h = some r) : Sx 6 mX11_odds 0 (am_en [.ref v0, .int v1, .int v2, .int v3, .int v4] 6) [] h (some (.int r.1)) r.2 := by
  unfold Top_odds at hb
  have hb := (iz hb).2
  show Sx 6 mX11_odds 0 [.ref v0, .int v1, .int v2, .int v3, .int v4, .retAddr 0] [] h (some (.int r.1)) r.2
  refine Sx.o (fun _ _ _ k => ex_aload_n dX11_odds_0 rfl rfl k) ?_
  obtain ⟨x1, e_x1, hb2⟩ := ob2 hb
  refine Sx.o (fun _ _ _ k => op_getR fX11_19 dX11_odds_1 e_x1 k) ?_
  refine Sx.o (fun _ _ _ k => ex_iload_n dX11_odds_4 rfl k) ?_
  obtain ⟨x3, e_x3, hb4⟩ := ob2 hb2
  refine sx_callV (dc := 0) (as := [.int v1]) (stq := [va_rf x3]) (by omega) dX11_odds_5 MX7_at kX11_140 iX7_at sX7_at rfl rfl (Table_at_o e_x3) rfl rfl (Nat.le_of_ble_eq_true rfl) (Nat.le_of_ble_eq_true rfl) (Table_at_s e_x3) rfl ?_
  refine Sx.o (L' := [.ref v0, .int v1, .int v2, .int v3, .int v4, va_rf x3]) (fun _ _ _ k => ex_astore dX11_odds_8 (am_rfv _) (by decide) k) ?_
  refine Sx.o (fun _ _ _ k => ex_aload dX11_odds_10 rfl (am_rfv _) k) ?_
  refine Sx.b (fun _ _ _ k1 k2 => op_ifnull (r := x3) 38 dX11_odds_12 (by decide) k1 k2) (fun q => ?_) (fun q => ?_)
  · have hb5 := ip q hb4
    refine Sx.o (fun _ _ _ k => op_iconst (-1 : Int32) dX11_odds_38 (by decide) k) ?_
    obtain rfl := Option.some.inj hb5
    exact Sx.r (fun _ _ _ k => ex_iret rfl dX11_odds_39 k)
  · have hb6 := iq q hb4
    obtain ⟨x7, e_x7, hb8⟩ := ob2 hb6
    subst e_x7
    refine Sx.o (fun _ _ _ k => ex_aload dX11_odds_15 rfl rfl k) ?_
    obtain ⟨x9, e_x9, hb10⟩ := ob2 hb8
    refine Sx.o (fun _ _ _ k => op_getI fX11_144 dX11_odds_17 e_x9 k) ?_
    refine Sx.o (fun _ _ _ k => op_bipush (7 : Int32) dX11_odds_20 (by decide) k) ?_
    refine Sx.b (fun _ _ _ k1 k2 => ex_icmp_gt 38 dX11_odds_22 (by decide) k1 k2) (fun q => ?_) (fun q => ?_)
    · have hb11 := ip q hb10
      refine Sx.o (fun _ _ _ k => op_iconst (-1 : Int32) dX11_odds_38 (by decide) k) ?_
      obtain rfl := Option.some.inj hb11
      exact Sx.r (fun _ _ _ k => ex_iret rfl dX11_odds_39 k)
    · have hb12 := iq q hb10
      refine Sx.o (fun _ _ _ k => ex_iload_n dX11_odds_25 rfl k) ?_
      refine Sx.b (fun _ _ _ k1 k2 => ex_if_lt 38 dX11_odds_26 (by decide) k1 k2) (fun q => ?_) (fun q => ?_)
      · have hb13 := ip q hb12
        refine Sx.o (fun _ _ _ k => op_iconst (-1 : Int32) dX11_odds_38 (by decide) k) ?_
        obtain rfl := Option.some.inj hb13
        exact Sx.r (fun _ _ _ k => ex_iret rfl dX11_odds_39 k)
      · have hb14 := iq q hb12
        refine Sx.o (fun _ _ _ k => ex_iload_n dX11_odds_29 rfl k) ?_
        refine Sx.o (fun _ _ _ k => ex_aload dX11_odds_30 rfl rfl k) ?_
        obtain ⟨x15, e_x15, hb16⟩ := ob2 hb14
        refine Sx.o (fun _ _ _ k => op_getI fX11_144 dX11_odds_32 e_x15 k) ?_
        refine Sx.b (fun _ _ _ k1 k2 => ex_icmp_le 40 dX11_odds_35 (by decide) k1 k2) (fun q => ?_) (fun q => ?_)
        · have hb17 := ip q hb16
          refine Sx.o (fun _ _ _ k => ex_iload_n dX11_odds_40 rfl k) ?_
          refine Sx.b (fun _ _ _ k1 k2 => ex_if_lt 62 dX11_odds_41 (by decide) k1 k2) (fun q => ?_) (fun q => ?_)
          · have hb19 := ip q hb17
            refine Sx.o (fun _ _ _ k => op_iconst (-1 : Int32) dX11_odds_62 (by decide) k) ?_
            obtain rfl := Option.some.inj hb19
            exact Sx.r (fun _ _ _ k => ex_iret rfl dX11_odds_63 k)
          · have hb20 := iq q hb17
            refine Sx.o (fun _ _ _ k => ex_iload_n dX11_odds_44 rfl k) ?_
            refine Sx.o (fun _ _ _ k => op_sipush (300 : Int32) dX11_odds_45 (by decide) k) ?_
            refine Sx.b (fun _ _ _ k1 k2 => ex_icmp_gt 62 dX11_odds_48 (by decide) k1 k2) (fun q => ?_) (fun q => ?_)
            · have hb21 := ip q hb20
              refine Sx.o (fun _ _ _ k => op_iconst (-1 : Int32) dX11_odds_62 (by decide) k) ?_
              obtain rfl := Option.some.inj hb21
              exact Sx.r (fun _ _ _ k => ex_iret rfl dX11_odds_63 k)
            · have hb22 := iq q hb20
              refine Sx.o (fun _ _ _ k => ex_iload dX11_odds_51 rfl k) ?_
              refine Sx.b (fun _ _ _ k1 k2 => ex_if_lt 62 dX11_odds_53 (by decide) k1 k2) (fun q => ?_) (fun q => ?_)
              · have hb23 := ip q hb22
                refine Sx.o (fun _ _ _ k => op_iconst (-1 : Int32) dX11_odds_62 (by decide) k) ?_
                obtain rfl := Option.some.inj hb23
                exact Sx.r (fun _ _ _ k => ex_iret rfl dX11_odds_63 k)
              · have hb24 := iq q hb22
                refine Sx.o (fun _ _ _ k => ex_iload dX11_odds_56 rfl k) ?_
                refine Sx.o (fun _ _ _ k => op_iconst (1 : Int32) dX11_odds_58 (by decide) k) ?_
                refine Sx.b (fun _ _ _ k1 k2 => ex_icmp_le 64 dX11_odds_59 (by decide) k1 k2) (fun q => ?_) (fun q => ?_)
                · have hb25 := ip q hb24
                  refine Sx.o (fun _ _ _ k => ex_aload_n dX11_odds_64 rfl rfl k) ?_
                  obtain ⟨x27, e_x27, hb28⟩ := ob2 hb25
                  refine Sx.o (fun _ _ _ k => op_getR fX11_70 dX11_odds_65 e_x27 k) ?_
                  refine Sx.o (fun _ _ _ k => ex_aload dX11_odds_68 rfl rfl k) ?_
                  refine Sx.o (fun _ _ _ k => ex_iload_n dX11_odds_70 rfl k) ?_
                  refine Sx.o (fun _ _ _ k => ex_iload_n dX11_odds_71 rfl k) ?_
                  obtain ⟨h29, e_h29, hb30⟩ := ob2 hb28
                  refine sx_callV (dc := 5) (as := [.ref x7, .int v2, .int v3]) (stq := []) (by omega) dX11_odds_72 MX10_weigh kX11_276 iX10_weigh sX10_weigh rfl rfl (Ways_weigh_o e_h29) rfl rfl (Nat.le_of_ble_eq_true rfl) (Nat.le_of_ble_eq_true rfl) (Ways_weigh_s e_h29) rfl ?_
                  refine Sx.o (fun _ _ _ k => ex_iload dX11_odds_75 rfl k) ?_
                  refine Sx.bn (fun _ _ _ k1 k2 => ex_if_ne 90 dX11_odds_77 (by decide) k1 k2) (fun q => ?_) (fun q => ?_)
                  · have hb31 := iq q hb30
                    refine Sx.o (fun _ _ _ k => ex_aload_n dX11_odds_90 rfl rfl k) ?_
                    obtain ⟨x33, e_x33, hb34⟩ := ob2 hb31
                    refine Sx.o (fun _ _ _ k => op_getR fX11_70 dX11_odds_91 e_x33 k) ?_
                    obtain ⟨x35, e_x35, hb36⟩ := ob2 hb34
                    refine Sx.o (fun _ _ _ k => op_getI fX11_283 dX11_odds_94 e_x35 k) ?_
                    obtain rfl := Option.some.inj hb36
                    exact Sx.r (fun _ _ _ k => ex_iret rfl dX11_odds_97 k)
                  · have hb32 := ip q hb30
                    refine Sx.o (fun _ _ _ k => ex_aload_n dX11_odds_80 rfl rfl k) ?_
                    obtain ⟨x37, e_x37, hb38⟩ := ob2 hb32
                    refine Sx.o (fun _ _ _ k => op_getR fX11_70 dX11_odds_81 e_x37 k) ?_
                    obtain ⟨x39, e_x39, hb40⟩ := ob2 hb38
                    refine Sx.o (fun _ _ _ k => op_getI fX11_280 dX11_odds_84 e_x39 k) ?_
                    refine Sx.o (fun _ _ _ k => ex_goto 97 dX11_odds_87 (by decide) k) ?_
                    obtain rfl := Option.some.inj hb40
                    exact Sx.r (fun _ _ _ k => ex_iret rfl dX11_odds_97 k)
                · have hb26 := iq q hb24
                  refine Sx.o (fun _ _ _ k => op_iconst (-1 : Int32) dX11_odds_62 (by decide) k) ?_
                  obtain rfl := Option.some.inj hb26
                  exact Sx.r (fun _ _ _ k => ex_iret rfl dX11_odds_63 k)
        · have hb18 := iq q hb16
          refine Sx.o (fun _ _ _ k => op_iconst (-1 : Int32) dX11_odds_38 (by decide) k) ?_
          obtain rfl := Option.some.inj hb18
          exact Sx.r (fun _ _ _ k => ex_iret rfl dX11_odds_39 k)
theorem Top_odds_o {v0 : Nat} {v1 : Int32} {v2 : Int32} {v3 : Int32} {v4 : Int32} {h : am_H} {r : (Int32 × am_H)} (hb : Top_odds v0 v1 v2 v3 v4 h = some r) : isO h 11 v0 = true := by
  unfold Top_odds at hb
  exact (iz hb).1
set_option maxHeartbeats 1000000 in
set_option maxRecDepth 100000 in
noncomputable def Top_of (v0 : Nat) (v1 : Int32) (v2 : Int32) (h : am_H) : Option (Int32 × am_H) := if isO h 11 v0 = true then (gR h 11 v0 1).bind fun x1 => (Table_at x1 v1 h).bind fun x3 => if x3 = none then some ((-1001 : Int32), h) else (x3).bind fun x7 => if (0 : Int32) ≤ v2 then if v2 = (0 : Int32) then (gI h 4 x7 1).bind fun x12 => some (x12, h) else if v2 = (1 : Int32) then (gI h 4 x7 2).bind fun x16 => some (x16, h) else if v2 = (2 : Int32) then (gI h 4 x7 3).bind fun x20 => some (x20, h) else if v2 = (3 : Int32) then (gR h 11 v0 6).bind fun x24 => (Steps_look x24 x7 h).bind fun r26 => if r26.1 = (0 : Int32) then some ((1 : Int32), r26.2) else some ((0 : Int32), r26.2) else if v2 = (4 : Int32) then (gR h 11 v0 6).bind fun x33 => (Steps_look x33 x7 h).bind fun r35 => if r35.1 = (1 : Int32) then some ((1 : Int32), r35.2) else some ((0 : Int32), r35.2) else if v2 = (5 : Int32) then (gR h 11 v0 6).bind fun x42 => (Steps_look x42 x7 h).bind fun r44 => (gR r44.2 11 v0 6).bind fun x47 => (gI r44.2 6 x47 0).bind fun x49 => (Top_nearest x49 r44.2).bind fun x51 => some (x51, r44.2) else if v2 = (6 : Int32) then (gR h 11 v0 6).bind fun x55 => (Steps_look x55 x7 h).bind fun r57 => (gR r57.2 11 v0 6).bind fun x60 => (gI r57.2 6 x60 1).bind fun x62 => (Top_nearest x62 r57.2).bind fun x64 => some (x64, r57.2) else (gI h 4 x7 1).bind fun x67 => if x67 ≤ (v2 - (7 : Int32)) then some ((-1001 : Int32), h) else (Row_card x7 (v2 - (7 : Int32)) h).bind fun x71 => some (x71, h) else some ((-1001 : Int32), h) else none
set_option maxHeartbeats 1000000 in
set_option maxRecDepth 100000 in
theorem Top_of_s {v0 : Nat} {v1 : Int32} {v2 : Int32} {h : am_H} {r : (Int32 × am_H)} (hb : Top_of v0 v1 v2 h = some r) : Sx 4 mX11_of 0 (am_en [.ref v0, .int v1, .int v2] 4) [] h (some (.int r.1)) r.2 := by
  unfold Top_of at hb
  have hb := (iz hb).2
  show Sx 4 mX11_of 0 [.ref v0, .int v1, .int v2, .retAddr 0] [] h (some (.int r.1)) r.2
  refine Sx.o (fun _ _ _ k => ex_aload_n dX11_of_0 rfl rfl k) ?_
  obtain ⟨x1, e_x1, hb2⟩ := ob2 hb
  refine Sx.o (fun _ _ _ k => op_getR fX11_19 dX11_of_1 e_x1 k) ?_
  refine Sx.o (fun _ _ _ k => ex_iload_n dX11_of_4 rfl k) ?_
  obtain ⟨x3, e_x3, hb4⟩ := ob2 hb2
  refine sx_callV (dc := 0) (as := [.int v1]) (stq := [va_rf x3]) (by omega) dX11_of_5 MX7_at kX11_140 iX7_at sX7_at rfl rfl (Table_at_o e_x3) rfl rfl (Nat.le_of_ble_eq_true rfl) (Nat.le_of_ble_eq_true rfl) (Table_at_s e_x3) rfl ?_
  refine Sx.o (L' := [.ref v0, .int v1, .int v2, va_rf x3]) (fun _ _ _ k => ex_astore_n dX11_of_8 (am_rfv _) (by decide) k) ?_
  refine Sx.o (fun _ _ _ k => ex_aload_n dX11_of_9 rfl (am_rfv _) k) ?_
  refine Sx.b (fun _ _ _ k1 k2 => op_ifnull (r := x3) 17 dX11_of_10 (by decide) k1 k2) (fun q => ?_) (fun q => ?_)
  · have hb5 := ip q hb4
    refine Sx.o (fun _ _ _ k => op_sipush (-1001 : Int32) dX11_of_17 (by decide) k) ?_
    obtain rfl := Option.some.inj hb5
    exact Sx.r (fun _ _ _ k => ex_iret rfl dX11_of_20 k)
  · have hb6 := iq q hb4
    obtain ⟨x7, e_x7, hb8⟩ := ob2 hb6
    subst e_x7
    refine Sx.o (fun _ _ _ k => ex_iload_n dX11_of_13 rfl k) ?_
    refine Sx.b (fun _ _ _ k1 k2 => ex_if_ge 21 dX11_of_14 (by decide) k1 k2) (fun q => ?_) (fun q => ?_)
    · have hb9 := ip q hb8
      refine Sx.o (fun _ _ _ k => ex_iload_n dX11_of_21 rfl k) ?_
      by_cases q0 : v2 = (0 : Int32)
      · have hb11 := ip q0 hb9
        refine Sx.o (fun _ _ _ k => ex_tableIn 64 dX11_of_22 (by rw [q0]; decide) (by rw [q0]; decide) (show _ = some (42 : Int) by rw [q0]; decide) (by decide) k) ?_
        refine Sx.o (fun _ _ _ k => ex_aload_n dX11_of_64 rfl rfl k) ?_
        obtain ⟨x12, e_x12, hb13⟩ := ob2 hb11
        refine Sx.o (fun _ _ _ k => op_getI fX11_144 dX11_of_65 e_x12 k) ?_
        obtain rfl := Option.some.inj hb13
        exact Sx.r (fun _ _ _ k => ex_iret rfl dX11_of_68 k)
      · have hb14 := iq q0 hb9
        by_cases q1 : v2 = (1 : Int32)
        · have hb15 := ip q1 hb14
          refine Sx.o (fun _ _ _ k => ex_tableIn 69 dX11_of_22 (by rw [q1]; decide) (by rw [q1]; decide) (show _ = some (47 : Int) by rw [q1]; decide) (by decide) k) ?_
          refine Sx.o (fun _ _ _ k => ex_aload_n dX11_of_69 rfl rfl k) ?_
          obtain ⟨x16, e_x16, hb17⟩ := ob2 hb15
          refine Sx.o (fun _ _ _ k => op_getI fX11_145 dX11_of_70 e_x16 k) ?_
          obtain rfl := Option.some.inj hb17
          exact Sx.r (fun _ _ _ k => ex_iret rfl dX11_of_73 k)
        · have hb18 := iq q1 hb14
          by_cases q2 : v2 = (2 : Int32)
          · have hb19 := ip q2 hb18
            refine Sx.o (fun _ _ _ k => ex_tableIn 74 dX11_of_22 (by rw [q2]; decide) (by rw [q2]; decide) (show _ = some (52 : Int) by rw [q2]; decide) (by decide) k) ?_
            refine Sx.o (fun _ _ _ k => ex_aload_n dX11_of_74 rfl rfl k) ?_
            obtain ⟨x20, e_x20, hb21⟩ := ob2 hb19
            refine Sx.o (fun _ _ _ k => op_getI fX11_148 dX11_of_75 e_x20 k) ?_
            obtain rfl := Option.some.inj hb21
            exact Sx.r (fun _ _ _ k => ex_iret rfl dX11_of_78 k)
          · have hb22 := iq q2 hb18
            by_cases q3 : v2 = (3 : Int32)
            · have hb23 := ip q3 hb22
              refine Sx.o (fun _ _ _ k => ex_tableIn 79 dX11_of_22 (by rw [q3]; decide) (by rw [q3]; decide) (show _ = some (57 : Int) by rw [q3]; decide) (by decide) k) ?_
              refine Sx.o (fun _ _ _ k => ex_aload_n dX11_of_79 rfl rfl k) ?_
              obtain ⟨x24, e_x24, hb25⟩ := ob2 hb23
              refine Sx.o (fun _ _ _ k => op_getR fX11_52 dX11_of_80 e_x24 k) ?_
              refine Sx.o (fun _ _ _ k => ex_aload_n dX11_of_83 rfl rfl k) ?_
              obtain ⟨r26, e_r26, hb27⟩ := ob2 hb25
              refine sx_callV (dc := 3) (as := [.ref x7]) (stq := [.int r26.1]) (by omega) dX11_of_84 MX6_look kX11_151 iX6_look sX6_look rfl rfl (Steps_look_o e_r26) rfl rfl (Nat.le_of_ble_eq_true rfl) (Nat.le_of_ble_eq_true rfl) (Steps_look_s e_r26) rfl ?_
              refine Sx.bn (fun _ _ _ k1 k2 => ex_if_ne 94 dX11_of_87 (by decide) k1 k2) (fun q => ?_) (fun q => ?_)
              · have hb29 := iq q hb27
                refine Sx.o (fun _ _ _ k => op_iconst (0 : Int32) dX11_of_94 (by decide) k) ?_
                obtain rfl := Option.some.inj hb29
                exact Sx.r (fun _ _ _ k => ex_iret rfl dX11_of_95 k)
              · have hb30 := ip q hb27
                refine Sx.o (fun _ _ _ k => op_iconst (1 : Int32) dX11_of_90 (by decide) k) ?_
                refine Sx.o (fun _ _ _ k => ex_goto 95 dX11_of_91 (by decide) k) ?_
                obtain rfl := Option.some.inj hb30
                exact Sx.r (fun _ _ _ k => ex_iret rfl dX11_of_95 k)
            · have hb31 := iq q3 hb22
              by_cases q4 : v2 = (4 : Int32)
              · have hb32 := ip q4 hb31
                refine Sx.o (fun _ _ _ k => ex_tableIn 96 dX11_of_22 (by rw [q4]; decide) (by rw [q4]; decide) (show _ = some (74 : Int) by rw [q4]; decide) (by decide) k) ?_
                refine Sx.o (fun _ _ _ k => ex_aload_n dX11_of_96 rfl rfl k) ?_
                obtain ⟨x33, e_x33, hb34⟩ := ob2 hb32
                refine Sx.o (fun _ _ _ k => op_getR fX11_52 dX11_of_97 e_x33 k) ?_
                refine Sx.o (fun _ _ _ k => ex_aload_n dX11_of_100 rfl rfl k) ?_
                obtain ⟨r35, e_r35, hb36⟩ := ob2 hb34
                refine sx_callV (dc := 3) (as := [.ref x7]) (stq := [.int r35.1]) (by omega) dX11_of_101 MX6_look kX11_151 iX6_look sX6_look rfl rfl (Steps_look_o e_r35) rfl rfl (Nat.le_of_ble_eq_true rfl) (Nat.le_of_ble_eq_true rfl) (Steps_look_s e_r35) rfl ?_
                refine Sx.o (fun _ _ _ k => op_iconst (1 : Int32) dX11_of_104 (by decide) k) ?_
                refine Sx.bn (fun _ _ _ k1 k2 => ex_icmp_ne 112 dX11_of_105 (by decide) k1 k2) (fun q => ?_) (fun q => ?_)
                · have hb38 := iq q hb36
                  refine Sx.o (fun _ _ _ k => op_iconst (0 : Int32) dX11_of_112 (by decide) k) ?_
                  obtain rfl := Option.some.inj hb38
                  exact Sx.r (fun _ _ _ k => ex_iret rfl dX11_of_113 k)
                · have hb39 := ip q hb36
                  refine Sx.o (fun _ _ _ k => op_iconst (1 : Int32) dX11_of_108 (by decide) k) ?_
                  refine Sx.o (fun _ _ _ k => ex_goto 113 dX11_of_109 (by decide) k) ?_
                  obtain rfl := Option.some.inj hb39
                  exact Sx.r (fun _ _ _ k => ex_iret rfl dX11_of_113 k)
              · have hb40 := iq q4 hb31
                by_cases q5 : v2 = (5 : Int32)
                · have hb41 := ip q5 hb40
                  refine Sx.o (fun _ _ _ k => ex_tableIn 114 dX11_of_22 (by rw [q5]; decide) (by rw [q5]; decide) (show _ = some (92 : Int) by rw [q5]; decide) (by decide) k) ?_
                  refine Sx.o (fun _ _ _ k => ex_aload_n dX11_of_114 rfl rfl k) ?_
                  obtain ⟨x42, e_x42, hb43⟩ := ob2 hb41
                  refine Sx.o (fun _ _ _ k => op_getR fX11_52 dX11_of_115 e_x42 k) ?_
                  refine Sx.o (fun _ _ _ k => ex_aload_n dX11_of_118 rfl rfl k) ?_
                  obtain ⟨r44, e_r44, hb45⟩ := ob2 hb43
                  refine sx_callV (dc := 3) (as := [.ref x7]) (stq := [.int r44.1]) (by omega) dX11_of_119 MX6_look kX11_151 iX6_look sX6_look rfl rfl (Steps_look_o e_r44) rfl rfl (Nat.le_of_ble_eq_true rfl) (Nat.le_of_ble_eq_true rfl) (Steps_look_s e_r44) rfl ?_
                  refine Sx.o (fun _ _ _ k => ex_pop dX11_of_122 rfl k) ?_
                  refine Sx.o (fun _ _ _ k => ex_aload_n dX11_of_123 rfl rfl k) ?_
                  obtain ⟨x47, e_x47, hb48⟩ := ob2 hb45
                  refine Sx.o (fun _ _ _ k => op_getR fX11_52 dX11_of_124 e_x47 k) ?_
                  obtain ⟨x49, e_x49, hb50⟩ := ob2 hb48
                  refine Sx.o (fun _ _ _ k => op_getI fX11_155 dX11_of_127 e_x49 k) ?_
                  obtain ⟨x51, e_x51, hb52⟩ := ob2 hb50
                  refine sx_callS (dc := 1) (as := [.int x49]) (stq := [.int x51]) (by omega) dX11_of_130 MX11_nearest kX11_158 tX11_nearest rfl rfl (Nat.le_of_ble_eq_true rfl) (Nat.le_of_ble_eq_true rfl) (Top_nearest_s e_x51) rfl ?_
                  obtain rfl := Option.some.inj hb52
                  exact Sx.r (fun _ _ _ k => ex_iret rfl dX11_of_133 k)
                · have hb53 := iq q5 hb40
                  by_cases q6 : v2 = (6 : Int32)
                  · have hb54 := ip q6 hb53
                    refine Sx.o (fun _ _ _ k => ex_tableIn 134 dX11_of_22 (by rw [q6]; decide) (by rw [q6]; decide) (show _ = some (112 : Int) by rw [q6]; decide) (by decide) k) ?_
                    refine Sx.o (fun _ _ _ k => ex_aload_n dX11_of_134 rfl rfl k) ?_
                    obtain ⟨x55, e_x55, hb56⟩ := ob2 hb54
                    refine Sx.o (fun _ _ _ k => op_getR fX11_52 dX11_of_135 e_x55 k) ?_
                    refine Sx.o (fun _ _ _ k => ex_aload_n dX11_of_138 rfl rfl k) ?_
                    obtain ⟨r57, e_r57, hb58⟩ := ob2 hb56
                    refine sx_callV (dc := 3) (as := [.ref x7]) (stq := [.int r57.1]) (by omega) dX11_of_139 MX6_look kX11_151 iX6_look sX6_look rfl rfl (Steps_look_o e_r57) rfl rfl (Nat.le_of_ble_eq_true rfl) (Nat.le_of_ble_eq_true rfl) (Steps_look_s e_r57) rfl ?_
                    refine Sx.o (fun _ _ _ k => ex_pop dX11_of_142 rfl k) ?_
                    refine Sx.o (fun _ _ _ k => ex_aload_n dX11_of_143 rfl rfl k) ?_
                    obtain ⟨x60, e_x60, hb61⟩ := ob2 hb58
                    refine Sx.o (fun _ _ _ k => op_getR fX11_52 dX11_of_144 e_x60 k) ?_
                    obtain ⟨x62, e_x62, hb63⟩ := ob2 hb61
                    refine Sx.o (fun _ _ _ k => op_getI fX11_161 dX11_of_147 e_x62 k) ?_
                    obtain ⟨x64, e_x64, hb65⟩ := ob2 hb63
                    refine sx_callS (dc := 1) (as := [.int x62]) (stq := [.int x64]) (by omega) dX11_of_150 MX11_nearest kX11_158 tX11_nearest rfl rfl (Nat.le_of_ble_eq_true rfl) (Nat.le_of_ble_eq_true rfl) (Top_nearest_s e_x64) rfl ?_
                    obtain rfl := Option.some.inj hb65
                    exact Sx.r (fun _ _ _ k => ex_iret rfl dX11_of_153 k)
                  · have hb66 := iq q6 hb53
                    have t0 : ¬ (Int32.toInt v2) = 0 := fun z => q0 (Int32.toInt_inj.mp (z.trans (by decide)))
                    have t1 : ¬ (Int32.toInt v2) = 1 := fun z => q1 (Int32.toInt_inj.mp (z.trans (by decide)))
                    have t2 : ¬ (Int32.toInt v2) = 2 := fun z => q2 (Int32.toInt_inj.mp (z.trans (by decide)))
                    have t3 : ¬ (Int32.toInt v2) = 3 := fun z => q3 (Int32.toInt_inj.mp (z.trans (by decide)))
                    have t4 : ¬ (Int32.toInt v2) = 4 := fun z => q4 (Int32.toInt_inj.mp (z.trans (by decide)))
                    have t5 : ¬ (Int32.toInt v2) = 5 := fun z => q5 (Int32.toInt_inj.mp (z.trans (by decide)))
                    have t6 : ¬ (Int32.toInt v2) = 6 := fun z => q6 (Int32.toInt_inj.mp (z.trans (by decide)))
                    refine Sx.o (fun _ _ _ k => ex_tableOut 154 dX11_of_22 (by omega) (by decide) k) ?_
                    refine Sx.o (fun _ _ _ k => ex_iload_n dX11_of_154 rfl k) ?_
                    refine Sx.o (fun _ _ _ k => op_bipush (7 : Int32) dX11_of_155 (by decide) k) ?_
                    refine Sx.o (fun _ _ _ k => ex_isub dX11_of_157 k) ?_
                    refine Sx.o (fun _ _ _ k => ex_aload_n dX11_of_158 rfl rfl k) ?_
                    obtain ⟨x67, e_x67, hb68⟩ := ob2 hb66
                    refine Sx.o (fun _ _ _ k => op_getI fX11_144 dX11_of_159 e_x67 k) ?_
                    refine Sx.b (fun _ _ _ k1 k2 => ex_icmp_ge 176 dX11_of_162 (by decide) k1 k2) (fun q => ?_) (fun q => ?_)
                    · have hb69 := ip q hb68
                      refine Sx.o (fun _ _ _ k => op_sipush (-1001 : Int32) dX11_of_176 (by decide) k) ?_
                      obtain rfl := Option.some.inj hb69
                      exact Sx.r (fun _ _ _ k => ex_iret rfl dX11_of_179 k)
                    · have hb70 := iq q hb68
                      refine Sx.o (fun _ _ _ k => ex_aload_n dX11_of_165 rfl rfl k) ?_
                      refine Sx.o (fun _ _ _ k => ex_iload_n dX11_of_166 rfl k) ?_
                      refine Sx.o (fun _ _ _ k => op_bipush (7 : Int32) dX11_of_167 (by decide) k) ?_
                      refine Sx.o (fun _ _ _ k => ex_isub dX11_of_169 k) ?_
                      obtain ⟨x71, e_x71, hb72⟩ := ob2 hb70
                      refine sx_callV (dc := 0) (as := [.int (v2 - (7 : Int32))]) (stq := [.int x71]) (by omega) dX11_of_170 MX4_card kX11_164 iX4_card sX4_card rfl rfl (Row_card_o e_x71) rfl rfl (Nat.le_of_ble_eq_true rfl) (Nat.le_of_ble_eq_true rfl) (Row_card_s e_x71) rfl ?_
                      refine Sx.o (fun _ _ _ k => ex_goto 179 dX11_of_173 (by decide) k) ?_
                      obtain rfl := Option.some.inj hb72
                      exact Sx.r (fun _ _ _ k => ex_iret rfl dX11_of_179 k)
    · have hb10 := iq q hb8
      refine Sx.o (fun _ _ _ k => op_sipush (-1001 : Int32) dX11_of_17 (by decide) k) ?_
      obtain rfl := Option.some.inj hb10
      exact Sx.r (fun _ _ _ k => ex_iret rfl dX11_of_20 k)
set_option maxHeartbeats 1000000 in
set_option maxRecDepth 100000 in
theorem Top_of_q {v0 : Nat} {v1 : Int32} {v2 : Int32} {h : am_H} {r : (Int32 × am_H)} (hb : Top_of v0 v1 v2 h = some r) : Eqs h r.2 := by
  unfold Top_of at hb
  have hb := (iz hb).2
  have w0 := Eqs.rf h
  obtain ⟨x1, e_x1, hb2⟩ := ob2 hb
  obtain ⟨x3, e_x3, hb4⟩ := ob2 hb2
  by_cases q : x3 = none
  · have hb5 := ip q hb4
    obtain rfl := Option.some.inj hb5
    exact w0
  · have hb6 := iq q hb4
    obtain ⟨x7, e_x7, hb8⟩ := ob2 hb6
    subst e_x7
    by_cases q : (0 : Int32) ≤ v2
    · have hb9 := ip q hb8
      by_cases q0 : v2 = (0 : Int32)
      · have hb11 := ip q0 hb9
        obtain ⟨x12, e_x12, hb13⟩ := ob2 hb11
        obtain rfl := Option.some.inj hb13
        exact w0
      · have hb14 := iq q0 hb9
        by_cases q1 : v2 = (1 : Int32)
        · have hb15 := ip q1 hb14
          obtain ⟨x16, e_x16, hb17⟩ := ob2 hb15
          obtain rfl := Option.some.inj hb17
          exact w0
        · have hb18 := iq q1 hb14
          by_cases q2 : v2 = (2 : Int32)
          · have hb19 := ip q2 hb18
            obtain ⟨x20, e_x20, hb21⟩ := ob2 hb19
            obtain rfl := Option.some.inj hb21
            exact w0
          · have hb22 := iq q2 hb18
            by_cases q3 : v2 = (3 : Int32)
            · have hb23 := ip q3 hb22
              obtain ⟨x24, e_x24, hb25⟩ := ob2 hb23
              obtain ⟨r26, e_r26, hb27⟩ := ob2 hb25
              have w28 := w0.tr (Steps_look_q e_r26)
              by_cases q : r26.1 = (0 : Int32)
              · have hb30 := ip q hb27
                obtain rfl := Option.some.inj hb30
                exact w28
              · have hb29 := iq q hb27
                obtain rfl := Option.some.inj hb29
                exact w28
            · have hb31 := iq q3 hb22
              by_cases q4 : v2 = (4 : Int32)
              · have hb32 := ip q4 hb31
                obtain ⟨x33, e_x33, hb34⟩ := ob2 hb32
                obtain ⟨r35, e_r35, hb36⟩ := ob2 hb34
                have w37 := w0.tr (Steps_look_q e_r35)
                by_cases q : r35.1 = (1 : Int32)
                · have hb39 := ip q hb36
                  obtain rfl := Option.some.inj hb39
                  exact w37
                · have hb38 := iq q hb36
                  obtain rfl := Option.some.inj hb38
                  exact w37
              · have hb40 := iq q4 hb31
                by_cases q5 : v2 = (5 : Int32)
                · have hb41 := ip q5 hb40
                  obtain ⟨x42, e_x42, hb43⟩ := ob2 hb41
                  obtain ⟨r44, e_r44, hb45⟩ := ob2 hb43
                  have w46 := w0.tr (Steps_look_q e_r44)
                  obtain ⟨x47, e_x47, hb48⟩ := ob2 hb45
                  obtain ⟨x49, e_x49, hb50⟩ := ob2 hb48
                  obtain ⟨x51, e_x51, hb52⟩ := ob2 hb50
                  obtain rfl := Option.some.inj hb52
                  exact w46
                · have hb53 := iq q5 hb40
                  by_cases q6 : v2 = (6 : Int32)
                  · have hb54 := ip q6 hb53
                    obtain ⟨x55, e_x55, hb56⟩ := ob2 hb54
                    obtain ⟨r57, e_r57, hb58⟩ := ob2 hb56
                    have w59 := w0.tr (Steps_look_q e_r57)
                    obtain ⟨x60, e_x60, hb61⟩ := ob2 hb58
                    obtain ⟨x62, e_x62, hb63⟩ := ob2 hb61
                    obtain ⟨x64, e_x64, hb65⟩ := ob2 hb63
                    obtain rfl := Option.some.inj hb65
                    exact w59
                  · have hb66 := iq q6 hb53
                    obtain ⟨x67, e_x67, hb68⟩ := ob2 hb66
                    by_cases q : x67 ≤ (v2 - (7 : Int32))
                    · have hb69 := ip q hb68
                      obtain rfl := Option.some.inj hb69
                      exact w0
                    · have hb70 := iq q hb68
                      obtain ⟨x71, e_x71, hb72⟩ := ob2 hb70
                      obtain rfl := Option.some.inj hb72
                      exact w0
    · have hb10 := iq q hb8
      obtain rfl := Option.some.inj hb10
      exact w0
theorem Top_of_o {v0 : Nat} {v1 : Int32} {v2 : Int32} {h : am_H} {r : (Int32 × am_H)} (hb : Top_of v0 v1 v2 h = some r) : isO h 11 v0 = true := by
  unfold Top_of at hb
  exact (iz hb).1
set_option maxHeartbeats 1000000 in
set_option maxRecDepth 100000 in
noncomputable def Top_orderly (v0 : Nat) (v1 : Int32) (v2 : Int32) (h : am_H) : Option (Int32 × am_H) := if isO h 11 v0 = true then if v1 < (1 : Int32) then some ((-1 : Int32), h) else if (7 : Int32) < v1 then some ((-1 : Int32), h) else if v2 < (0 : Int32) then some ((-1 : Int32), h) else (gR h 11 v0 8).bind fun x7 => (gR h 10 x7 3).bind fun x9 => (aL h x9).bind fun x11 => if v2 < x11 then (gR h 11 v0 11).bind fun x15 => (Row_rise x15 v1 h).bind fun h17 => (gR h17 11 v0 8).bind fun x19 => (gR h17 11 v0 11).bind fun x21 => (Ways_survey x19 x21 h17).bind fun h23 => (gR h23 11 v0 8).bind fun x25 => (gR h23 10 x25 3).bind fun x27 => (aI h23 0 x27 v2).bind fun x29 => some (x29, h23) else some ((-1 : Int32), h) else none
set_option maxHeartbeats 1000000 in
set_option maxRecDepth 100000 in
theorem Top_orderly_s {v0 : Nat} {v1 : Int32} {v2 : Int32} {h : am_H} {r : (Int32 × am_H)} (hb : Top_orderly v0 v1 v2 h = some r) : Sx 6 mX11_orderly 0 (am_en [.ref v0, .int v1, .int v2] 3) [] h (some (.int r.1)) r.2 := by
  unfold Top_orderly at hb
  have hb := (iz hb).2
  show Sx 6 mX11_orderly 0 [.ref v0, .int v1, .int v2] [] h (some (.int r.1)) r.2
  refine Sx.o (fun _ _ _ k => ex_iload_n dX11_orderly_0 rfl k) ?_
  refine Sx.o (fun _ _ _ k => op_iconst (1 : Int32) dX11_orderly_1 (by decide) k) ?_
  refine Sx.b (fun _ _ _ k1 k2 => ex_icmp_lt 27 dX11_orderly_2 (by decide) k1 k2) (fun q => ?_) (fun q => ?_)
  · have hb1 := ip q hb
    refine Sx.o (fun _ _ _ k => op_iconst (-1 : Int32) dX11_orderly_27 (by decide) k) ?_
    obtain rfl := Option.some.inj hb1
    exact Sx.r (fun _ _ _ k => ex_iret rfl dX11_orderly_28 k)
  · have hb2 := iq q hb
    refine Sx.o (fun _ _ _ k => ex_iload_n dX11_orderly_5 rfl k) ?_
    refine Sx.o (fun _ _ _ k => op_bipush (7 : Int32) dX11_orderly_6 (by decide) k) ?_
    refine Sx.b (fun _ _ _ k1 k2 => ex_icmp_gt 27 dX11_orderly_8 (by decide) k1 k2) (fun q => ?_) (fun q => ?_)
    · have hb3 := ip q hb2
      refine Sx.o (fun _ _ _ k => op_iconst (-1 : Int32) dX11_orderly_27 (by decide) k) ?_
      obtain rfl := Option.some.inj hb3
      exact Sx.r (fun _ _ _ k => ex_iret rfl dX11_orderly_28 k)
    · have hb4 := iq q hb2
      refine Sx.o (fun _ _ _ k => ex_iload_n dX11_orderly_11 rfl k) ?_
      refine Sx.b (fun _ _ _ k1 k2 => ex_if_lt 27 dX11_orderly_12 (by decide) k1 k2) (fun q => ?_) (fun q => ?_)
      · have hb5 := ip q hb4
        refine Sx.o (fun _ _ _ k => op_iconst (-1 : Int32) dX11_orderly_27 (by decide) k) ?_
        obtain rfl := Option.some.inj hb5
        exact Sx.r (fun _ _ _ k => ex_iret rfl dX11_orderly_28 k)
      · have hb6 := iq q hb4
        refine Sx.o (fun _ _ _ k => ex_iload_n dX11_orderly_15 rfl k) ?_
        refine Sx.o (fun _ _ _ k => ex_aload_n dX11_orderly_16 rfl rfl k) ?_
        obtain ⟨x7, e_x7, hb8⟩ := ob2 hb6
        refine Sx.o (fun _ _ _ k => op_getR fX11_70 dX11_orderly_17 e_x7 k) ?_
        obtain ⟨x9, e_x9, hb10⟩ := ob2 hb8
        refine Sx.o (fun _ _ _ k => op_getR fX11_256 dX11_orderly_20 e_x9 k) ?_
        obtain ⟨x11, e_x11, hb12⟩ := ob2 hb10
        refine Sx.o (fun _ _ _ k => op_alen dX11_orderly_23 e_x11 k) ?_
        refine Sx.b (fun _ _ _ k1 k2 => ex_icmp_lt 29 dX11_orderly_24 (by decide) k1 k2) (fun q => ?_) (fun q => ?_)
        · have hb13 := ip q hb12
          refine Sx.o (fun _ _ _ k => ex_aload_n dX11_orderly_29 rfl rfl k) ?_
          obtain ⟨x15, e_x15, hb16⟩ := ob2 hb13
          refine Sx.o (fun _ _ _ k => op_getR fX11_93 dX11_orderly_30 e_x15 k) ?_
          refine Sx.o (fun _ _ _ k => ex_iload_n dX11_orderly_33 rfl k) ?_
          obtain ⟨h17, e_h17, hb18⟩ := ob2 hb16
          refine sx_callV (dc := 1) (as := [.int v1]) (stq := []) (by omega) dX11_orderly_34 MX4_rise kX11_238 iX4_rise sX4_rise rfl rfl (Row_rise_o e_h17) rfl rfl (Nat.le_of_ble_eq_true rfl) (Nat.le_of_ble_eq_true rfl) (Row_rise_s e_h17) rfl ?_
          refine Sx.o (fun _ _ _ k => ex_aload_n dX11_orderly_37 rfl rfl k) ?_
          obtain ⟨x19, e_x19, hb20⟩ := ob2 hb18
          refine Sx.o (fun _ _ _ k => op_getR fX11_70 dX11_orderly_38 e_x19 k) ?_
          refine Sx.o (fun _ _ _ k => ex_aload_n dX11_orderly_41 rfl rfl k) ?_
          obtain ⟨x21, e_x21, hb22⟩ := ob2 hb20
          refine Sx.o (fun _ _ _ k => op_getR fX11_93 dX11_orderly_42 e_x21 k) ?_
          obtain ⟨h23, e_h23, hb24⟩ := ob2 hb22
          refine sx_callV (dc := 5) (as := [.ref x21]) (stq := []) (by omega) dX11_orderly_45 MX10_survey kX11_241 iX10_survey sX10_survey rfl rfl (Ways_survey_o e_h23) rfl rfl (Nat.le_of_ble_eq_true rfl) (Nat.le_of_ble_eq_true rfl) (Ways_survey_s e_h23) rfl ?_
          refine Sx.o (fun _ _ _ k => ex_aload_n dX11_orderly_48 rfl rfl k) ?_
          obtain ⟨x25, e_x25, hb26⟩ := ob2 hb24
          refine Sx.o (fun _ _ _ k => op_getR fX11_70 dX11_orderly_49 e_x25 k) ?_
          obtain ⟨x27, e_x27, hb28⟩ := ob2 hb26
          refine Sx.o (fun _ _ _ k => op_getR fX11_256 dX11_orderly_52 e_x27 k) ?_
          refine Sx.o (fun _ _ _ k => ex_iload_n dX11_orderly_55 rfl k) ?_
          obtain ⟨x29, e_x29, hb30⟩ := ob2 hb28
          refine Sx.o (fun _ _ _ k => op_iald dX11_orderly_56 e_x29 k) ?_
          obtain rfl := Option.some.inj hb30
          exact Sx.r (fun _ _ _ k => ex_iret rfl dX11_orderly_57 k)
        · have hb14 := iq q hb12
          refine Sx.o (fun _ _ _ k => op_iconst (-1 : Int32) dX11_orderly_27 (by decide) k) ?_
          obtain rfl := Option.some.inj hb14
          exact Sx.r (fun _ _ _ k => ex_iret rfl dX11_orderly_28 k)
theorem Top_orderly_o {v0 : Nat} {v1 : Int32} {v2 : Int32} {h : am_H} {r : (Int32 × am_H)} (hb : Top_orderly v0 v1 v2 h = some r) : isO h 11 v0 = true := by
  unfold Top_orderly at hb
  exact (iz hb).1
set_option maxHeartbeats 1000000 in
set_option maxRecDepth 100000 in
noncomputable def Top_orders (v0 : Nat) (h : am_H) : Option (Int32 × am_H) := if isO h 11 v0 = true then (gR h 11 v0 7).bind fun x1 => (pV h 1 x1 0 (.int (-1 : Int32))).bind fun h3 => (gR h3 11 v0 5).bind fun x6 => (Reader_read x6 (1 : Int32) h3).bind fun r8 => (pV r8.2 11 v0 13 (.int r8.1)).bind fun h11 => (gR h11 11 v0 0).bind fun x14 => (pV h11 8 x14 1 (.int (0 : Int32))).bind fun h16 => (gI h16 11 v0 13).bind fun x19 => if x19 = (-1 : Int32) then (gR h16 11 v0 7).bind fun x23 => (gR h16 11 v0 5).bind fun x25 => (gR h16 3 x25 0).bind fun x27 => (Hands_run x23 x27 h16).bind fun r29 => if (0 : Int32) ≤ r29.1 then (Top_answer v0 r29.1 r29.2).bind fun r34 => some (r34.1, r34.2) else (Top_refuse v0 r29.1 r29.2).bind fun r37 => some (r37.1, r37.2) else (Top_refuse v0 (-6 : Int32) h16).bind fun r40 => some (r40.1, r40.2) else none
set_option maxHeartbeats 1000000 in
set_option maxRecDepth 100000 in
theorem Top_orders_s {v0 : Nat} {h : am_H} {r : (Int32 × am_H)} (hb : Top_orders v0 h = some r) : Sx 91 mX11_orders 0 (am_en [.ref v0] 2) [] h (some (.int r.1)) r.2 := by
  unfold Top_orders at hb
  have hb := (iz hb).2
  show Sx 91 mX11_orders 0 [.ref v0, .retAddr 0] [] h (some (.int r.1)) r.2
  refine Sx.o (fun _ _ _ k => ex_aload_n dX11_orders_0 rfl rfl k) ?_
  obtain ⟨x1, e_x1, hb2⟩ := ob2 hb
  refine Sx.o (fun _ _ _ k => op_getR fX11_61 dX11_orders_1 e_x1 k) ?_
  refine Sx.o (fun _ _ _ k => op_iconst (-1 : Int32) dX11_orders_4 (by decide) k) ?_
  obtain ⟨h3, e_h3, hb4⟩ := ob2 hb2
  refine Sx.p (pV_q e_h3) (fun _ _ _ k => op_put pX11_194 dX11_orders_5 e_h3 (fun _ => rfl) (fun _ => rfl) k) ?_
  refine Sx.o (fun _ _ _ k => ex_aload_n dX11_orders_8 rfl rfl k) ?_
  refine Sx.o (fun _ _ _ k => ex_aload_n dX11_orders_9 rfl rfl k) ?_
  obtain ⟨x6, e_x6, hb7⟩ := ob2 hb4
  refine Sx.o (fun _ _ _ k => op_getR fX11_43 dX11_orders_10 e_x6 k) ?_
  refine Sx.o (fun _ _ _ k => op_iconst (1 : Int32) dX11_orders_13 (by decide) k) ?_
  obtain ⟨r8, e_r8, hb9⟩ := ob2 hb7
  refine sx_callV (dc := 90) (as := [.int (1 : Int32)]) (stq := [.int r8.1, .ref v0]) (by omega) dX11_orders_14 MX3_read kX11_176 iX3_read sX3_read rfl rfl (Reader_read_o e_r8) rfl rfl (Nat.le_of_ble_eq_true rfl) (Nat.le_of_ble_eq_true rfl) (Reader_read_s e_r8) rfl ?_
  obtain ⟨h11, e_h11, hb12⟩ := ob2 hb9
  refine Sx.p (pV_q e_h11) (fun _ _ _ k => op_put pX11_101 dX11_orders_17 e_h11 (fun _ => rfl) (fun _ => rfl) k) ?_
  refine Sx.o (fun _ _ _ k => ex_aload_n dX11_orders_20 rfl rfl k) ?_
  obtain ⟨x14, e_x14, hb15⟩ := ob2 hb12
  refine Sx.o (fun _ _ _ k => op_getR fX11_10 dX11_orders_21 e_x14 k) ?_
  refine Sx.o (fun _ _ _ k => op_iconst (0 : Int32) dX11_orders_24 (by decide) k) ?_
  obtain ⟨h16, e_h16, hb17⟩ := ob2 hb15
  refine Sx.p (pV_q e_h16) (fun _ _ _ k => op_put pX11_108 dX11_orders_25 e_h16 (fun _ => rfl) (fun _ => rfl) k) ?_
  refine Sx.o (fun _ _ _ k => ex_aload_n dX11_orders_28 rfl rfl k) ?_
  obtain ⟨x19, e_x19, hb20⟩ := ob2 hb17
  refine Sx.o (fun _ _ _ k => op_getI fX11_101 dX11_orders_29 e_x19 k) ?_
  refine Sx.o (fun _ _ _ k => op_iconst (-1 : Int32) dX11_orders_32 (by decide) k) ?_
  refine Sx.b (fun _ _ _ k1 k2 => ex_icmp_eq 43 dX11_orders_33 (by decide) k1 k2) (fun q => ?_) (fun q => ?_)
  · have hb21 := ip q hb20
    refine Sx.o (fun _ _ _ k => ex_aload_n dX11_orders_43 rfl rfl k) ?_
    obtain ⟨x23, e_x23, hb24⟩ := ob2 hb21
    refine Sx.o (fun _ _ _ k => op_getR fX11_61 dX11_orders_44 e_x23 k) ?_
    refine Sx.o (fun _ _ _ k => ex_aload_n dX11_orders_47 rfl rfl k) ?_
    obtain ⟨x25, e_x25, hb26⟩ := ob2 hb24
    refine Sx.o (fun _ _ _ k => op_getR fX11_43 dX11_orders_48 e_x25 k) ?_
    obtain ⟨x27, e_x27, hb28⟩ := ob2 hb26
    refine Sx.o (fun _ _ _ k => op_getR fX11_180 dX11_orders_51 e_x27 k) ?_
    obtain ⟨r29, e_r29, hb30⟩ := ob2 hb28
    refine sx_callV (dc := 6) (as := [.ref x27]) (stq := [.int r29.1]) (by omega) dX11_orders_54 MX1_run kX11_197 iX1_run sX1_run rfl rfl (Hands_run_o e_r29) rfl rfl (Nat.le_of_ble_eq_true rfl) (Nat.le_of_ble_eq_true rfl) (Hands_run_s e_r29) rfl ?_
    refine Sx.o (L' := [.ref v0, .int r29.1]) (fun _ _ _ k => ex_istore_n dX11_orders_57 (by decide) k) ?_
    refine Sx.o (fun _ _ _ k => ex_iload_n dX11_orders_58 rfl k) ?_
    refine Sx.b (fun _ _ _ k1 k2 => ex_if_ge 70 dX11_orders_59 (by decide) k1 k2) (fun q => ?_) (fun q => ?_)
    · have hb32 := ip q hb30
      refine Sx.o (fun _ _ _ k => ex_aload_n dX11_orders_70 rfl rfl k) ?_
      refine Sx.o (fun _ _ _ k => ex_iload_n dX11_orders_71 rfl k) ?_
      obtain ⟨r34, e_r34, hb35⟩ := ob2 hb32
      refine sx_callV (dc := 0) (as := [.int r29.1]) (stq := [.int r34.1]) (by omega) dX11_orders_72 MX11_answer kX11_137 iX11_answer sX11_answer rfl rfl (Top_answer_o e_r34) rfl rfl (Nat.le_of_ble_eq_true rfl) (Nat.le_of_ble_eq_true rfl) (Top_answer_s e_r34) rfl ?_
      obtain rfl := Option.some.inj hb35
      exact Sx.r (fun _ _ _ k => ex_iret rfl dX11_orders_75 k)
    · have hb33 := iq q hb30
      refine Sx.o (fun _ _ _ k => ex_aload_n dX11_orders_62 rfl rfl k) ?_
      refine Sx.o (fun _ _ _ k => ex_iload_n dX11_orders_63 rfl k) ?_
      obtain ⟨r37, e_r37, hb38⟩ := ob2 hb33
      refine sx_callV (dc := 0) (as := [.int r29.1]) (stq := [.int r37.1]) (by omega) dX11_orders_64 MX11_refuse kX11_118 iX11_refuse sX11_refuse rfl rfl (Top_refuse_o e_r37) rfl rfl (Nat.le_of_ble_eq_true rfl) (Nat.le_of_ble_eq_true rfl) (Top_refuse_s e_r37) rfl ?_
      refine Sx.o (fun _ _ _ k => ex_goto 75 dX11_orders_67 (by decide) k) ?_
      obtain rfl := Option.some.inj hb38
      exact Sx.r (fun _ _ _ k => ex_iret rfl dX11_orders_75 k)
  · have hb22 := iq q hb20
    refine Sx.o (fun _ _ _ k => ex_aload_n dX11_orders_36 rfl rfl k) ?_
    refine Sx.o (fun _ _ _ k => op_bipush (-6 : Int32) dX11_orders_37 (by decide) k) ?_
    obtain ⟨r40, e_r40, hb41⟩ := ob2 hb22
    refine sx_callV (dc := 0) (as := [.int (-6 : Int32)]) (stq := [.int r40.1]) (by omega) dX11_orders_39 MX11_refuse kX11_118 iX11_refuse sX11_refuse rfl rfl (Top_refuse_o e_r40) rfl rfl (Nat.le_of_ble_eq_true rfl) (Nat.le_of_ble_eq_true rfl) (Top_refuse_s e_r40) rfl ?_
    obtain rfl := Option.some.inj hb41
    exact Sx.r (fun _ _ _ k => ex_iret rfl dX11_orders_42 k)
set_option maxHeartbeats 1000000 in
set_option maxRecDepth 100000 in
theorem Top_orders_q {v0 : Nat} {h : am_H} {r : (Int32 × am_H)} (hb : Top_orders v0 h = some r) : Eqs h r.2 := by
  unfold Top_orders at hb
  have hb := (iz hb).2
  have w0 := Eqs.rf h
  obtain ⟨x1, e_x1, hb2⟩ := ob2 hb
  obtain ⟨h3, e_h3, hb4⟩ := ob2 hb2
  have w5 := w0.tr (pV_q e_h3)
  obtain ⟨x6, e_x6, hb7⟩ := ob2 hb4
  obtain ⟨r8, e_r8, hb9⟩ := ob2 hb7
  have w10 := w5.tr (Reader_read_q e_r8)
  obtain ⟨h11, e_h11, hb12⟩ := ob2 hb9
  have w13 := w10.tr (pV_q e_h11)
  obtain ⟨x14, e_x14, hb15⟩ := ob2 hb12
  obtain ⟨h16, e_h16, hb17⟩ := ob2 hb15
  have w18 := w13.tr (pV_q e_h16)
  obtain ⟨x19, e_x19, hb20⟩ := ob2 hb17
  by_cases q : x19 = (-1 : Int32)
  · have hb21 := ip q hb20
    obtain ⟨x23, e_x23, hb24⟩ := ob2 hb21
    obtain ⟨x25, e_x25, hb26⟩ := ob2 hb24
    obtain ⟨x27, e_x27, hb28⟩ := ob2 hb26
    obtain ⟨r29, e_r29, hb30⟩ := ob2 hb28
    have w31 := w18.tr (Hands_run_q e_r29)
    by_cases q : (0 : Int32) ≤ r29.1
    · have hb32 := ip q hb30
      obtain ⟨r34, e_r34, hb35⟩ := ob2 hb32
      have w36 := w31.tr (Top_answer_q e_r34)
      obtain rfl := Option.some.inj hb35
      exact w36
    · have hb33 := iq q hb30
      obtain ⟨r37, e_r37, hb38⟩ := ob2 hb33
      have w39 := w31.tr (Top_refuse_q e_r37)
      obtain rfl := Option.some.inj hb38
      exact w39
  · have hb22 := iq q hb20
    obtain ⟨r40, e_r40, hb41⟩ := ob2 hb22
    have w42 := w18.tr (Top_refuse_q e_r40)
    obtain rfl := Option.some.inj hb41
    exact w42
theorem Top_orders_o {v0 : Nat} {h : am_H} {r : (Int32 × am_H)} (hb : Top_orders v0 h = some r) : isO h 11 v0 = true := by
  unfold Top_orders at hb
  exact (iz hb).1
set_option maxHeartbeats 1000000 in
set_option maxRecDepth 100000 in
noncomputable def Top_race (v0 : Nat) (v1 : Int32) (v2 : Int32) (h : am_H) : Option (Int32 × am_H) := if isO h 11 v0 = true then (gR h 11 v0 1).bind fun x1 => (Table_at x1 v1 h).bind fun x3 => (gR h 11 v0 1).bind fun x5 => (Table_at x5 v2 h).bind fun x7 => if x3 = none then some ((-1 : Int32), h) else (x3).bind fun x11 => if x7 = none then some ((-1 : Int32), h) else (x7).bind fun x15 => (gR h 11 v0 11).bind fun x17 => (Row_copy x17 x11 h).bind fun h19 => (gR h19 11 v0 6).bind fun x22 => (gR h19 11 v0 11).bind fun x24 => (Steps_endsBehind x22 x24 h19).bind fun r26 => (gR r26.2 11 v0 11).bind fun x29 => (Row_copy x29 x15 r26.2).bind fun h31 => (gR h31 11 v0 6).bind fun x34 => (gR h31 11 v0 11).bind fun x36 => (Steps_endsBehind x34 x36 h31).bind fun r38 => if r26.1 = r38.1 then if r26.1 = (-1 : Int32) then some ((-1 : Int32), r38.2) else some ((2 : Int32), r38.2) else if r26.1 = (-1 : Int32) then some ((1 : Int32), r38.2) else if r38.1 = (-1 : Int32) then some ((0 : Int32), r38.2) else if r38.1 ≤ r26.1 then some ((1 : Int32), r38.2) else some ((0 : Int32), r38.2) else none
set_option maxHeartbeats 1000000 in
set_option maxRecDepth 100000 in
theorem Top_race_s {v0 : Nat} {v1 : Int32} {v2 : Int32} {h : am_H} {r : (Int32 × am_H)} (hb : Top_race v0 v1 v2 h = some r) : Sx 5 mX11_race 0 (am_en [.ref v0, .int v1, .int v2] 7) [] h (some (.int r.1)) r.2 := by
  unfold Top_race at hb
  have hb := (iz hb).2
  show Sx 5 mX11_race 0 [.ref v0, .int v1, .int v2, .retAddr 0, .retAddr 0, .retAddr 0, .retAddr 0] [] h (some (.int r.1)) r.2
  refine Sx.o (fun _ _ _ k => ex_aload_n dX11_race_0 rfl rfl k) ?_
  obtain ⟨x1, e_x1, hb2⟩ := ob2 hb
  refine Sx.o (fun _ _ _ k => op_getR fX11_19 dX11_race_1 e_x1 k) ?_
  refine Sx.o (fun _ _ _ k => ex_iload_n dX11_race_4 rfl k) ?_
  obtain ⟨x3, e_x3, hb4⟩ := ob2 hb2
  refine sx_callV (dc := 0) (as := [.int v1]) (stq := [va_rf x3]) (by omega) dX11_race_5 MX7_at kX11_140 iX7_at sX7_at rfl rfl (Table_at_o e_x3) rfl rfl (Nat.le_of_ble_eq_true rfl) (Nat.le_of_ble_eq_true rfl) (Table_at_s e_x3) rfl ?_
  refine Sx.o (L' := [.ref v0, .int v1, .int v2, va_rf x3, .retAddr 0, .retAddr 0, .retAddr 0]) (fun _ _ _ k => ex_astore_n dX11_race_8 (am_rfv _) (by decide) k) ?_
  refine Sx.o (fun _ _ _ k => ex_aload_n dX11_race_9 rfl rfl k) ?_
  obtain ⟨x5, e_x5, hb6⟩ := ob2 hb4
  refine Sx.o (fun _ _ _ k => op_getR fX11_19 dX11_race_10 e_x5 k) ?_
  refine Sx.o (fun _ _ _ k => ex_iload_n dX11_race_13 rfl k) ?_
  obtain ⟨x7, e_x7, hb8⟩ := ob2 hb6
  refine sx_callV (dc := 0) (as := [.int v2]) (stq := [va_rf x7]) (by omega) dX11_race_14 MX7_at kX11_140 iX7_at sX7_at rfl rfl (Table_at_o e_x7) rfl rfl (Nat.le_of_ble_eq_true rfl) (Nat.le_of_ble_eq_true rfl) (Table_at_s e_x7) rfl ?_
  refine Sx.o (L' := [.ref v0, .int v1, .int v2, va_rf x3, va_rf x7, .retAddr 0, .retAddr 0]) (fun _ _ _ k => ex_astore dX11_race_17 (am_rfv _) (by decide) (by rw [st1_N (L2 := [.ref v0, .int v1, .int v2, va_rf x3, va_rf x7, .retAddr 0, .retAddr 0]) (by cases x3 <;> rfl) rfl]; exact k)) ?_
  refine Sx.o (fun _ _ _ k => ex_aload_n dX11_race_19 rfl (am_rfv _) k) ?_
  refine Sx.b (fun _ _ _ k1 k2 => op_ifnull (r := x3) 28 dX11_race_20 (by decide) k1 k2) (fun q => ?_) (fun q => ?_)
  · have hb9 := ip q hb8
    refine Sx.o (fun _ _ _ k => op_iconst (-1 : Int32) dX11_race_28 (by decide) k) ?_
    obtain rfl := Option.some.inj hb9
    exact Sx.r (fun _ _ _ k => ex_iret rfl dX11_race_29 k)
  · have hb10 := iq q hb8
    obtain ⟨x11, e_x11, hb12⟩ := ob2 hb10
    subst e_x11
    refine Sx.o (fun _ _ _ k => ex_aload dX11_race_23 rfl (am_rfv _) k) ?_
    refine Sx.bn (fun _ _ _ k1 k2 => op_ifnonnull (r := x7) 30 dX11_race_25 (by decide) k1 k2) (fun q => ?_) (fun q => ?_)
    · have hb13 := iq q hb12
      obtain ⟨x15, e_x15, hb16⟩ := ob2 hb13
      subst e_x15
      refine Sx.o (fun _ _ _ k => ex_aload_n dX11_race_30 rfl rfl k) ?_
      obtain ⟨x17, e_x17, hb18⟩ := ob2 hb16
      refine Sx.o (fun _ _ _ k => op_getR fX11_93 dX11_race_31 e_x17 k) ?_
      refine Sx.o (fun _ _ _ k => ex_aload_n dX11_race_34 rfl rfl k) ?_
      obtain ⟨h19, e_h19, hb20⟩ := ob2 hb18
      refine sx_callV (dc := 1) (as := [.ref x11]) (stq := []) (by omega) dX11_race_35 MX4_copy kX11_219 iX4_copy sX4_copy rfl rfl (Row_copy_o e_h19) rfl rfl (Nat.le_of_ble_eq_true rfl) (Nat.le_of_ble_eq_true rfl) (Row_copy_s e_h19) rfl ?_
      refine Sx.o (fun _ _ _ k => ex_aload_n dX11_race_38 rfl rfl k) ?_
      obtain ⟨x22, e_x22, hb23⟩ := ob2 hb20
      refine Sx.o (fun _ _ _ k => op_getR fX11_52 dX11_race_39 e_x22 k) ?_
      refine Sx.o (fun _ _ _ k => ex_aload_n dX11_race_42 rfl rfl k) ?_
      obtain ⟨x24, e_x24, hb25⟩ := ob2 hb23
      refine Sx.o (fun _ _ _ k => op_getR fX11_93 dX11_race_43 e_x24 k) ?_
      obtain ⟨r26, e_r26, hb27⟩ := ob2 hb25
      refine sx_callV (dc := 4) (as := [.ref x24]) (stq := [.int r26.1]) (by omega) dX11_race_46 MX6_endsBehind kX11_295 iX6_endsBehind sX6_endsBehind rfl rfl (Steps_endsBehind_o e_r26) rfl rfl (Nat.le_of_ble_eq_true rfl) (Nat.le_of_ble_eq_true rfl) (Steps_endsBehind_s e_r26) rfl ?_
      refine Sx.o (L' := [.ref v0, .int v1, .int v2, .ref x11, .ref x15, .int r26.1, .retAddr 0]) (fun _ _ _ k => ex_istore dX11_race_49 (by decide) k) ?_
      refine Sx.o (fun _ _ _ k => ex_aload_n dX11_race_51 rfl rfl k) ?_
      obtain ⟨x29, e_x29, hb30⟩ := ob2 hb27
      refine Sx.o (fun _ _ _ k => op_getR fX11_93 dX11_race_52 e_x29 k) ?_
      refine Sx.o (fun _ _ _ k => ex_aload dX11_race_55 rfl rfl k) ?_
      obtain ⟨h31, e_h31, hb32⟩ := ob2 hb30
      refine sx_callV (dc := 1) (as := [.ref x15]) (stq := []) (by omega) dX11_race_57 MX4_copy kX11_219 iX4_copy sX4_copy rfl rfl (Row_copy_o e_h31) rfl rfl (Nat.le_of_ble_eq_true rfl) (Nat.le_of_ble_eq_true rfl) (Row_copy_s e_h31) rfl ?_
      refine Sx.o (fun _ _ _ k => ex_aload_n dX11_race_60 rfl rfl k) ?_
      obtain ⟨x34, e_x34, hb35⟩ := ob2 hb32
      refine Sx.o (fun _ _ _ k => op_getR fX11_52 dX11_race_61 e_x34 k) ?_
      refine Sx.o (fun _ _ _ k => ex_aload_n dX11_race_64 rfl rfl k) ?_
      obtain ⟨x36, e_x36, hb37⟩ := ob2 hb35
      refine Sx.o (fun _ _ _ k => op_getR fX11_93 dX11_race_65 e_x36 k) ?_
      obtain ⟨r38, e_r38, hb39⟩ := ob2 hb37
      refine sx_callV (dc := 4) (as := [.ref x36]) (stq := [.int r38.1]) (by omega) dX11_race_68 MX6_endsBehind kX11_295 iX6_endsBehind sX6_endsBehind rfl rfl (Steps_endsBehind_o e_r38) rfl rfl (Nat.le_of_ble_eq_true rfl) (Nat.le_of_ble_eq_true rfl) (Steps_endsBehind_s e_r38) rfl ?_
      refine Sx.o (L' := [.ref v0, .int v1, .int v2, .ref x11, .ref x15, .int r26.1, .int r38.1]) (fun _ _ _ k => ex_istore dX11_race_71 (by decide) k) ?_
      refine Sx.o (fun _ _ _ k => ex_iload dX11_race_73 rfl k) ?_
      refine Sx.o (fun _ _ _ k => ex_iload dX11_race_75 rfl k) ?_
      refine Sx.bn (fun _ _ _ k1 k2 => ex_icmp_ne 92 dX11_race_77 (by decide) k1 k2) (fun q => ?_) (fun q => ?_)
      · have hb41 := iq q hb39
        refine Sx.o (fun _ _ _ k => ex_iload dX11_race_92 rfl k) ?_
        refine Sx.o (fun _ _ _ k => op_iconst (-1 : Int32) dX11_race_94 (by decide) k) ?_
        refine Sx.bn (fun _ _ _ k1 k2 => ex_icmp_ne 100 dX11_race_95 (by decide) k1 k2) (fun q => ?_) (fun q => ?_)
        · have hb43 := iq q hb41
          refine Sx.o (fun _ _ _ k => ex_iload dX11_race_100 rfl k) ?_
          refine Sx.o (fun _ _ _ k => op_iconst (-1 : Int32) dX11_race_102 (by decide) k) ?_
          refine Sx.b (fun _ _ _ k1 k2 => ex_icmp_eq 113 dX11_race_103 (by decide) k1 k2) (fun q => ?_) (fun q => ?_)
          · have hb45 := ip q hb43
            refine Sx.o (fun _ _ _ k => op_iconst (0 : Int32) dX11_race_113 (by decide) k) ?_
            refine Sx.o (fun _ _ _ k => ex_goto 118 dX11_race_114 (by decide) k) ?_
            obtain rfl := Option.some.inj hb45
            exact Sx.r (fun _ _ _ k => ex_iret rfl dX11_race_118 k)
          · have hb46 := iq q hb43
            refine Sx.o (fun _ _ _ k => ex_iload dX11_race_106 rfl k) ?_
            refine Sx.o (fun _ _ _ k => ex_iload dX11_race_108 rfl k) ?_
            refine Sx.b (fun _ _ _ k1 k2 => ex_icmp_ge 117 dX11_race_110 (by decide) k1 k2) (fun q => ?_) (fun q => ?_)
            · have hb47 := ip q hb46
              refine Sx.o (fun _ _ _ k => op_iconst (1 : Int32) dX11_race_117 (by decide) k) ?_
              obtain rfl := Option.some.inj hb47
              exact Sx.r (fun _ _ _ k => ex_iret rfl dX11_race_118 k)
            · have hb48 := iq q hb46
              refine Sx.o (fun _ _ _ k => op_iconst (0 : Int32) dX11_race_113 (by decide) k) ?_
              refine Sx.o (fun _ _ _ k => ex_goto 118 dX11_race_114 (by decide) k) ?_
              obtain rfl := Option.some.inj hb48
              exact Sx.r (fun _ _ _ k => ex_iret rfl dX11_race_118 k)
        · have hb44 := ip q hb41
          refine Sx.o (fun _ _ _ k => op_iconst (1 : Int32) dX11_race_98 (by decide) k) ?_
          obtain rfl := Option.some.inj hb44
          exact Sx.r (fun _ _ _ k => ex_iret rfl dX11_race_99 k)
      · have hb42 := ip q hb39
        refine Sx.o (fun _ _ _ k => ex_iload dX11_race_80 rfl k) ?_
        refine Sx.o (fun _ _ _ k => op_iconst (-1 : Int32) dX11_race_82 (by decide) k) ?_
        refine Sx.bn (fun _ _ _ k1 k2 => ex_icmp_ne 90 dX11_race_83 (by decide) k1 k2) (fun q => ?_) (fun q => ?_)
        · have hb49 := iq q hb42
          refine Sx.o (fun _ _ _ k => op_iconst (2 : Int32) dX11_race_90 (by decide) k) ?_
          obtain rfl := Option.some.inj hb49
          exact Sx.r (fun _ _ _ k => ex_iret rfl dX11_race_91 k)
        · have hb50 := ip q hb42
          refine Sx.o (fun _ _ _ k => op_iconst (-1 : Int32) dX11_race_86 (by decide) k) ?_
          refine Sx.o (fun _ _ _ k => ex_goto 91 dX11_race_87 (by decide) k) ?_
          obtain rfl := Option.some.inj hb50
          exact Sx.r (fun _ _ _ k => ex_iret rfl dX11_race_91 k)
    · have hb14 := ip q hb12
      refine Sx.o (fun _ _ _ k => op_iconst (-1 : Int32) dX11_race_28 (by decide) k) ?_
      obtain rfl := Option.some.inj hb14
      exact Sx.r (fun _ _ _ k => ex_iret rfl dX11_race_29 k)
set_option maxHeartbeats 1000000 in
set_option maxRecDepth 100000 in
theorem Top_race_q {v0 : Nat} {v1 : Int32} {v2 : Int32} {h : am_H} {r : (Int32 × am_H)} (hb : Top_race v0 v1 v2 h = some r) : Eqs h r.2 := by
  unfold Top_race at hb
  have hb := (iz hb).2
  have w0 := Eqs.rf h
  obtain ⟨x1, e_x1, hb2⟩ := ob2 hb
  obtain ⟨x3, e_x3, hb4⟩ := ob2 hb2
  obtain ⟨x5, e_x5, hb6⟩ := ob2 hb4
  obtain ⟨x7, e_x7, hb8⟩ := ob2 hb6
  by_cases q : x3 = none
  · have hb9 := ip q hb8
    obtain rfl := Option.some.inj hb9
    exact w0
  · have hb10 := iq q hb8
    obtain ⟨x11, e_x11, hb12⟩ := ob2 hb10
    subst e_x11
    by_cases q : x7 = none
    · have hb14 := ip q hb12
      obtain rfl := Option.some.inj hb14
      exact w0
    · have hb13 := iq q hb12
      obtain ⟨x15, e_x15, hb16⟩ := ob2 hb13
      subst e_x15
      obtain ⟨x17, e_x17, hb18⟩ := ob2 hb16
      obtain ⟨h19, e_h19, hb20⟩ := ob2 hb18
      have w21 := w0.tr (Row_copy_q e_h19)
      obtain ⟨x22, e_x22, hb23⟩ := ob2 hb20
      obtain ⟨x24, e_x24, hb25⟩ := ob2 hb23
      obtain ⟨r26, e_r26, hb27⟩ := ob2 hb25
      have w28 := w21.tr (Steps_endsBehind_q e_r26)
      obtain ⟨x29, e_x29, hb30⟩ := ob2 hb27
      obtain ⟨h31, e_h31, hb32⟩ := ob2 hb30
      have w33 := w28.tr (Row_copy_q e_h31)
      obtain ⟨x34, e_x34, hb35⟩ := ob2 hb32
      obtain ⟨x36, e_x36, hb37⟩ := ob2 hb35
      obtain ⟨r38, e_r38, hb39⟩ := ob2 hb37
      have w40 := w33.tr (Steps_endsBehind_q e_r38)
      by_cases q : r26.1 = r38.1
      · have hb42 := ip q hb39
        by_cases q : r26.1 = (-1 : Int32)
        · have hb50 := ip q hb42
          obtain rfl := Option.some.inj hb50
          exact w40
        · have hb49 := iq q hb42
          obtain rfl := Option.some.inj hb49
          exact w40
      · have hb41 := iq q hb39
        by_cases q : r26.1 = (-1 : Int32)
        · have hb44 := ip q hb41
          obtain rfl := Option.some.inj hb44
          exact w40
        · have hb43 := iq q hb41
          by_cases q : r38.1 = (-1 : Int32)
          · have hb45 := ip q hb43
            obtain rfl := Option.some.inj hb45
            exact w40
          · have hb46 := iq q hb43
            by_cases q : r38.1 ≤ r26.1
            · have hb47 := ip q hb46
              obtain rfl := Option.some.inj hb47
              exact w40
            · have hb48 := iq q hb46
              obtain rfl := Option.some.inj hb48
              exact w40
theorem Top_race_o {v0 : Nat} {v1 : Int32} {v2 : Int32} {h : am_H} {r : (Int32 × am_H)} (hb : Top_race v0 v1 v2 h = some r) : isO h 11 v0 = true := by
  unfold Top_race at hb
  exact (iz hb).1
set_option maxHeartbeats 1000000 in
set_option maxRecDepth 100000 in
noncomputable def Top_sight_20 (v0 : Nat) (h : am_H) : Option (Int32 × am_H) := (Top_refuse v0 (-1 : Int32) h).bind fun r1 => some (r1.1, r1.2)
set_option maxHeartbeats 1000000 in
set_option maxRecDepth 100000 in
theorem Top_sight_20_s {v0 : Nat} {h : am_H} {r : (Int32 × am_H)} (hb : Top_sight_20 v0 h = some r) : Sx 1 mX11_sight 20 [.ref v0, .retAddr 0, .retAddr 0] [] h (some (.int r.1)) r.2 := by
  unfold Top_sight_20 at hb
  refine Sx.o (fun _ _ _ k => ex_aload_n dX11_sight_20 rfl rfl k) ?_
  refine Sx.o (fun _ _ _ k => op_iconst (-1 : Int32) dX11_sight_21 (by decide) k) ?_
  obtain ⟨r1, e_r1, hb2⟩ := ob2 hb
  refine sx_callV (dc := 0) (as := [.int (-1 : Int32)]) (stq := [.int r1.1]) (by omega) dX11_sight_22 MX11_refuse kX11_118 iX11_refuse sX11_refuse rfl rfl (Top_refuse_o e_r1) rfl rfl (Nat.le_of_ble_eq_true rfl) (Nat.le_of_ble_eq_true rfl) (Top_refuse_s e_r1) rfl ?_
  obtain rfl := Option.some.inj hb2
  exact Sx.r (fun _ _ _ k => ex_iret rfl dX11_sight_25 k)
set_option maxHeartbeats 1000000 in
set_option maxRecDepth 100000 in
theorem Top_sight_20_q {v0 : Nat} {h : am_H} {r : (Int32 × am_H)} (hb : Top_sight_20 v0 h = some r) : Eqs h r.2 := by
  unfold Top_sight_20 at hb
  have w0 := Eqs.rf h
  obtain ⟨r1, e_r1, hb2⟩ := ob2 hb
  have w3 := w0.tr (Top_refuse_q e_r1)
  obtain rfl := Option.some.inj hb2
  exact w3
set_option maxHeartbeats 1000000 in
set_option maxRecDepth 100000 in
noncomputable def Top_sight (v0 : Nat) (v1 : Int32) (v2 : Int32) (h : am_H) : Option (Int32 × am_H) := if isO h 11 v0 = true then if v1 < (0 : Int32) then Top_sight_20 v0 h else if (99 : Int32) < v1 then Top_sight_20 v0 h else if v2 < (0 : Int32) then Top_sight_20 v0 h else if v2 ≤ (13 : Int32) then (gR h 11 v0 1).bind fun x12 => (gI h 7 x12 1).bind fun x14 => if x14 < (8 : Int32) then (gR h 11 v0 1).bind fun x18 => (Table_addSight x18 v1 v2 h).bind fun r20 => (Top_answer v0 r20.1 r20.2).bind fun r23 => some (r23.1, r23.2) else (Top_refuse v0 (-5 : Int32) h).bind fun r26 => some (r26.1, r26.2) else Top_sight_20 v0 h else none
set_option maxHeartbeats 1000000 in
set_option maxRecDepth 100000 in
theorem Top_sight_s {v0 : Nat} {v1 : Int32} {v2 : Int32} {h : am_H} {r : (Int32 × am_H)} (hb : Top_sight v0 v1 v2 h = some r) : Sx 1 mX11_sight 0 (am_en [.ref v0, .int v1, .int v2] 3) [] h (some (.int r.1)) r.2 := by
  unfold Top_sight at hb
  have hb := (iz hb).2
  show Sx 1 mX11_sight 0 [.ref v0, .int v1, .int v2] [] h (some (.int r.1)) r.2
  refine Sx.o (fun _ _ _ k => ex_iload_n dX11_sight_0 rfl k) ?_
  refine Sx.b (fun _ _ _ k1 k2 => ex_if_lt 20 dX11_sight_1 (by decide) k1 k2) (fun q => ?_) (fun q => ?_)
  · have hb4 := ip q hb
    refine Sx.fg [true, false, false] ?_
    exact Top_sight_20_s hb4
  · have hb5 := iq q hb
    refine Sx.o (fun _ _ _ k => ex_iload_n dX11_sight_4 rfl k) ?_
    refine Sx.o (fun _ _ _ k => op_bipush (99 : Int32) dX11_sight_5 (by decide) k) ?_
    refine Sx.b (fun _ _ _ k1 k2 => ex_icmp_gt 20 dX11_sight_7 (by decide) k1 k2) (fun q => ?_) (fun q => ?_)
    · have hb6 := ip q hb5
      refine Sx.fg [true, false, false] ?_
      exact Top_sight_20_s hb6
    · have hb7 := iq q hb5
      refine Sx.o (fun _ _ _ k => ex_iload_n dX11_sight_10 rfl k) ?_
      refine Sx.b (fun _ _ _ k1 k2 => ex_if_lt 20 dX11_sight_11 (by decide) k1 k2) (fun q => ?_) (fun q => ?_)
      · have hb8 := ip q hb7
        refine Sx.fg [true, false, false] ?_
        exact Top_sight_20_s hb8
      · have hb9 := iq q hb7
        refine Sx.o (fun _ _ _ k => ex_iload_n dX11_sight_14 rfl k) ?_
        refine Sx.o (fun _ _ _ k => op_bipush (13 : Int32) dX11_sight_15 (by decide) k) ?_
        refine Sx.b (fun _ _ _ k1 k2 => ex_icmp_le 26 dX11_sight_17 (by decide) k1 k2) (fun q => ?_) (fun q => ?_)
        · have hb10 := ip q hb9
          refine Sx.o (fun _ _ _ k => ex_aload_n dX11_sight_26 rfl rfl k) ?_
          obtain ⟨x12, e_x12, hb13⟩ := ob2 hb10
          refine Sx.o (fun _ _ _ k => op_getR fX11_19 dX11_sight_27 e_x12 k) ?_
          obtain ⟨x14, e_x14, hb15⟩ := ob2 hb13
          refine Sx.o (fun _ _ _ k => op_getI fX11_286 dX11_sight_30 e_x14 k) ?_
          refine Sx.o (fun _ _ _ k => op_bipush (8 : Int32) dX11_sight_33 (by decide) k) ?_
          refine Sx.b (fun _ _ _ k1 k2 => ex_icmp_lt 45 dX11_sight_35 (by decide) k1 k2) (fun q => ?_) (fun q => ?_)
          · have hb16 := ip q hb15
            refine Sx.o (fun _ _ _ k => ex_aload_n dX11_sight_45 rfl rfl k) ?_
            refine Sx.o (fun _ _ _ k => ex_aload_n dX11_sight_46 rfl rfl k) ?_
            obtain ⟨x18, e_x18, hb19⟩ := ob2 hb16
            refine Sx.o (fun _ _ _ k => op_getR fX11_19 dX11_sight_47 e_x18 k) ?_
            refine Sx.o (fun _ _ _ k => ex_iload_n dX11_sight_50 rfl k) ?_
            refine Sx.o (fun _ _ _ k => ex_iload_n dX11_sight_51 rfl k) ?_
            obtain ⟨r20, e_r20, hb21⟩ := ob2 hb19
            refine sx_callV (dc := 0) (as := [.int v1, .int v2]) (stq := [.int r20.1, .ref v0]) (by omega) dX11_sight_52 MX7_addSight kX11_289 iX7_addSight sX7_addSight rfl rfl (Table_addSight_o e_r20) rfl rfl (Nat.le_of_ble_eq_true rfl) (Nat.le_of_ble_eq_true rfl) (Table_addSight_s e_r20) rfl ?_
            obtain ⟨r23, e_r23, hb24⟩ := ob2 hb21
            refine sx_callV (dc := 0) (as := [.int r20.1]) (stq := [.int r23.1]) (by omega) dX11_sight_55 MX11_answer kX11_137 iX11_answer sX11_answer rfl rfl (Top_answer_o e_r23) rfl rfl (Nat.le_of_ble_eq_true rfl) (Nat.le_of_ble_eq_true rfl) (Top_answer_s e_r23) rfl ?_
            obtain rfl := Option.some.inj hb24
            exact Sx.r (fun _ _ _ k => ex_iret rfl dX11_sight_58 k)
          · have hb17 := iq q hb15
            refine Sx.o (fun _ _ _ k => ex_aload_n dX11_sight_38 rfl rfl k) ?_
            refine Sx.o (fun _ _ _ k => op_bipush (-5 : Int32) dX11_sight_39 (by decide) k) ?_
            obtain ⟨r26, e_r26, hb27⟩ := ob2 hb17
            refine sx_callV (dc := 0) (as := [.int (-5 : Int32)]) (stq := [.int r26.1]) (by omega) dX11_sight_41 MX11_refuse kX11_118 iX11_refuse sX11_refuse rfl rfl (Top_refuse_o e_r26) rfl rfl (Nat.le_of_ble_eq_true rfl) (Nat.le_of_ble_eq_true rfl) (Top_refuse_s e_r26) rfl ?_
            obtain rfl := Option.some.inj hb27
            exact Sx.r (fun _ _ _ k => ex_iret rfl dX11_sight_44 k)
        · have hb11 := iq q hb9
          refine Sx.fg [true, false, false] ?_
          exact Top_sight_20_s hb11
set_option maxHeartbeats 1000000 in
set_option maxRecDepth 100000 in
theorem Top_sight_q {v0 : Nat} {v1 : Int32} {v2 : Int32} {h : am_H} {r : (Int32 × am_H)} (hb : Top_sight v0 v1 v2 h = some r) : Eqs h r.2 := by
  unfold Top_sight at hb
  have hb := (iz hb).2
  have w0 := Eqs.rf h
  by_cases q : v1 < (0 : Int32)
  · have hb4 := ip q hb
    exact w0.tr (Top_sight_20_q hb4)
  · have hb5 := iq q hb
    by_cases q : (99 : Int32) < v1
    · have hb6 := ip q hb5
      exact w0.tr (Top_sight_20_q hb6)
    · have hb7 := iq q hb5
      by_cases q : v2 < (0 : Int32)
      · have hb8 := ip q hb7
        exact w0.tr (Top_sight_20_q hb8)
      · have hb9 := iq q hb7
        by_cases q : v2 ≤ (13 : Int32)
        · have hb10 := ip q hb9
          obtain ⟨x12, e_x12, hb13⟩ := ob2 hb10
          obtain ⟨x14, e_x14, hb15⟩ := ob2 hb13
          by_cases q : x14 < (8 : Int32)
          · have hb16 := ip q hb15
            obtain ⟨x18, e_x18, hb19⟩ := ob2 hb16
            obtain ⟨r20, e_r20, hb21⟩ := ob2 hb19
            have w22 := w0.tr (Table_addSight_q e_r20)
            obtain ⟨r23, e_r23, hb24⟩ := ob2 hb21
            have w25 := w22.tr (Top_answer_q e_r23)
            obtain rfl := Option.some.inj hb24
            exact w25
          · have hb17 := iq q hb15
            obtain ⟨r26, e_r26, hb27⟩ := ob2 hb17
            have w28 := w0.tr (Top_refuse_q e_r26)
            obtain rfl := Option.some.inj hb27
            exact w28
        · have hb11 := iq q hb9
          exact w0.tr (Top_sight_20_q hb11)
theorem Top_sight_o {v0 : Nat} {v1 : Int32} {v2 : Int32} {h : am_H} {r : (Int32 × am_H)} (hb : Top_sight v0 v1 v2 h = some r) : isO h 11 v0 = true := by
  unfold Top_sight at hb
  exact (iz hb).1
set_option maxHeartbeats 1000000 in
set_option maxRecDepth 100000 in
noncomputable def Top_sorted (v0 : Nat) (v1 : Int32) (v2 : Int32) (h : am_H) : Option (Int32 × am_H) := if isO h 11 v0 = true then (gR h 11 v0 1).bind fun x1 => (Table_at x1 v1 h).bind fun x3 => if x3 = none then some ((-1 : Int32), h) else (x3).bind fun x7 => (gI h 4 x7 1).bind fun x9 => if (7 : Int32) < x9 then some ((-1 : Int32), h) else if (0 : Int32) ≤ v2 then (gR h 11 v0 11).bind fun x15 => (Row_copy x15 x7 h).bind fun h17 => (gR h17 11 v0 9).bind fun x20 => (gR h17 11 v0 11).bind fun x22 => (Sorter_putInOrder x20 x22 h17).bind fun h24 => if v2 = (0 : Int32) then (gR h24 11 v0 9).bind fun x33 => (gI h24 5 x33 0).bind fun x35 => some (x35, h24) else (gR h24 11 v0 9).bind fun x29 => (Sorter_block x29 (v2 - (1 : Int32)) h24).bind fun x31 => some (x31, h24) else some ((-1 : Int32), h) else none
set_option maxHeartbeats 1000000 in
set_option maxRecDepth 100000 in
theorem Top_sorted_s {v0 : Nat} {v1 : Int32} {v2 : Int32} {h : am_H} {r : (Int32 × am_H)} (hb : Top_sorted v0 v1 v2 h = some r) : Sx 44 mX11_sorted 0 (am_en [.ref v0, .int v1, .int v2] 4) [] h (some (.int r.1)) r.2 := by
  unfold Top_sorted at hb
  have hb := (iz hb).2
  show Sx 44 mX11_sorted 0 [.ref v0, .int v1, .int v2, .retAddr 0] [] h (some (.int r.1)) r.2
  refine Sx.o (fun _ _ _ k => ex_aload_n dX11_sorted_0 rfl rfl k) ?_
  obtain ⟨x1, e_x1, hb2⟩ := ob2 hb
  refine Sx.o (fun _ _ _ k => op_getR fX11_19 dX11_sorted_1 e_x1 k) ?_
  refine Sx.o (fun _ _ _ k => ex_iload_n dX11_sorted_4 rfl k) ?_
  obtain ⟨x3, e_x3, hb4⟩ := ob2 hb2
  refine sx_callV (dc := 0) (as := [.int v1]) (stq := [va_rf x3]) (by omega) dX11_sorted_5 MX7_at kX11_140 iX7_at sX7_at rfl rfl (Table_at_o e_x3) rfl rfl (Nat.le_of_ble_eq_true rfl) (Nat.le_of_ble_eq_true rfl) (Table_at_s e_x3) rfl ?_
  refine Sx.o (L' := [.ref v0, .int v1, .int v2, va_rf x3]) (fun _ _ _ k => ex_astore_n dX11_sorted_8 (am_rfv _) (by decide) k) ?_
  refine Sx.o (fun _ _ _ k => ex_aload_n dX11_sorted_9 rfl (am_rfv _) k) ?_
  refine Sx.b (fun _ _ _ k1 k2 => op_ifnull (r := x3) 26 dX11_sorted_10 (by decide) k1 k2) (fun q => ?_) (fun q => ?_)
  · have hb5 := ip q hb4
    refine Sx.o (fun _ _ _ k => op_iconst (-1 : Int32) dX11_sorted_26 (by decide) k) ?_
    obtain rfl := Option.some.inj hb5
    exact Sx.r (fun _ _ _ k => ex_iret rfl dX11_sorted_27 k)
  · have hb6 := iq q hb4
    obtain ⟨x7, e_x7, hb8⟩ := ob2 hb6
    subst e_x7
    refine Sx.o (fun _ _ _ k => ex_aload_n dX11_sorted_13 rfl rfl k) ?_
    obtain ⟨x9, e_x9, hb10⟩ := ob2 hb8
    refine Sx.o (fun _ _ _ k => op_getI fX11_144 dX11_sorted_14 e_x9 k) ?_
    refine Sx.o (fun _ _ _ k => op_bipush (7 : Int32) dX11_sorted_17 (by decide) k) ?_
    refine Sx.b (fun _ _ _ k1 k2 => ex_icmp_gt 26 dX11_sorted_19 (by decide) k1 k2) (fun q => ?_) (fun q => ?_)
    · have hb11 := ip q hb10
      refine Sx.o (fun _ _ _ k => op_iconst (-1 : Int32) dX11_sorted_26 (by decide) k) ?_
      obtain rfl := Option.some.inj hb11
      exact Sx.r (fun _ _ _ k => ex_iret rfl dX11_sorted_27 k)
    · have hb12 := iq q hb10
      refine Sx.o (fun _ _ _ k => ex_iload_n dX11_sorted_22 rfl k) ?_
      refine Sx.b (fun _ _ _ k1 k2 => ex_if_ge 28 dX11_sorted_23 (by decide) k1 k2) (fun q => ?_) (fun q => ?_)
      · have hb13 := ip q hb12
        refine Sx.o (fun _ _ _ k => ex_aload_n dX11_sorted_28 rfl rfl k) ?_
        obtain ⟨x15, e_x15, hb16⟩ := ob2 hb13
        refine Sx.o (fun _ _ _ k => op_getR fX11_93 dX11_sorted_29 e_x15 k) ?_
        refine Sx.o (fun _ _ _ k => ex_aload_n dX11_sorted_32 rfl rfl k) ?_
        obtain ⟨h17, e_h17, hb18⟩ := ob2 hb16
        refine sx_callV (dc := 1) (as := [.ref x7]) (stq := []) (by omega) dX11_sorted_33 MX4_copy kX11_219 iX4_copy sX4_copy rfl rfl (Row_copy_o e_h17) rfl rfl (Nat.le_of_ble_eq_true rfl) (Nat.le_of_ble_eq_true rfl) (Row_copy_s e_h17) rfl ?_
        refine Sx.o (fun _ _ _ k => ex_aload_n dX11_sorted_36 rfl rfl k) ?_
        obtain ⟨x20, e_x20, hb21⟩ := ob2 hb18
        refine Sx.o (fun _ _ _ k => op_getR fX11_77 dX11_sorted_37 e_x20 k) ?_
        refine Sx.o (fun _ _ _ k => ex_aload_n dX11_sorted_40 rfl rfl k) ?_
        obtain ⟨x22, e_x22, hb23⟩ := ob2 hb21
        refine Sx.o (fun _ _ _ k => op_getR fX11_93 dX11_sorted_41 e_x22 k) ?_
        obtain ⟨h24, e_h24, hb25⟩ := ob2 hb23
        refine sx_callV (dc := 43) (as := [.ref x22]) (stq := []) (by omega) dX11_sorted_44 MX5_putInOrder kX11_298 iX5_putInOrder sX5_putInOrder rfl rfl (Sorter_putInOrder_o e_h24) rfl rfl (Nat.le_of_ble_eq_true rfl) (Nat.le_of_ble_eq_true rfl) (Sorter_putInOrder_s e_h24) rfl ?_
        refine Sx.o (fun _ _ _ k => ex_iload_n dX11_sorted_47 rfl k) ?_
        refine Sx.bn (fun _ _ _ k1 k2 => ex_if_ne 61 dX11_sorted_48 (by decide) k1 k2) (fun q => ?_) (fun q => ?_)
        · have hb27 := iq q hb25
          refine Sx.o (fun _ _ _ k => ex_aload_n dX11_sorted_61 rfl rfl k) ?_
          obtain ⟨x29, e_x29, hb30⟩ := ob2 hb27
          refine Sx.o (fun _ _ _ k => op_getR fX11_77 dX11_sorted_62 e_x29 k) ?_
          refine Sx.o (fun _ _ _ k => ex_iload_n dX11_sorted_65 rfl k) ?_
          refine Sx.o (fun _ _ _ k => op_iconst (1 : Int32) dX11_sorted_66 (by decide) k) ?_
          refine Sx.o (fun _ _ _ k => ex_isub dX11_sorted_67 k) ?_
          obtain ⟨x31, e_x31, hb32⟩ := ob2 hb30
          refine sx_callV (dc := 0) (as := [.int (v2 - (1 : Int32))]) (stq := [.int x31]) (by omega) dX11_sorted_68 MX5_block kX11_304 iX5_block sX5_block rfl rfl (Sorter_block_o e_x31) rfl rfl (Nat.le_of_ble_eq_true rfl) (Nat.le_of_ble_eq_true rfl) (Sorter_block_s e_x31) rfl ?_
          obtain rfl := Option.some.inj hb32
          exact Sx.r (fun _ _ _ k => ex_iret rfl dX11_sorted_71 k)
        · have hb28 := ip q hb25
          refine Sx.o (fun _ _ _ k => ex_aload_n dX11_sorted_51 rfl rfl k) ?_
          obtain ⟨x33, e_x33, hb34⟩ := ob2 hb28
          refine Sx.o (fun _ _ _ k => op_getR fX11_77 dX11_sorted_52 e_x33 k) ?_
          obtain ⟨x35, e_x35, hb36⟩ := ob2 hb34
          refine Sx.o (fun _ _ _ k => op_getI fX11_301 dX11_sorted_55 e_x35 k) ?_
          refine Sx.o (fun _ _ _ k => ex_goto 71 dX11_sorted_58 (by decide) k) ?_
          obtain rfl := Option.some.inj hb36
          exact Sx.r (fun _ _ _ k => ex_iret rfl dX11_sorted_71 k)
      · have hb14 := iq q hb12
        refine Sx.o (fun _ _ _ k => op_iconst (-1 : Int32) dX11_sorted_26 (by decide) k) ?_
        obtain rfl := Option.some.inj hb14
        exact Sx.r (fun _ _ _ k => ex_iret rfl dX11_sorted_27 k)
set_option maxHeartbeats 1000000 in
set_option maxRecDepth 100000 in
theorem Top_sorted_q {v0 : Nat} {v1 : Int32} {v2 : Int32} {h : am_H} {r : (Int32 × am_H)} (hb : Top_sorted v0 v1 v2 h = some r) : Eqs h r.2 := by
  unfold Top_sorted at hb
  have hb := (iz hb).2
  have w0 := Eqs.rf h
  obtain ⟨x1, e_x1, hb2⟩ := ob2 hb
  obtain ⟨x3, e_x3, hb4⟩ := ob2 hb2
  by_cases q : x3 = none
  · have hb5 := ip q hb4
    obtain rfl := Option.some.inj hb5
    exact w0
  · have hb6 := iq q hb4
    obtain ⟨x7, e_x7, hb8⟩ := ob2 hb6
    subst e_x7
    obtain ⟨x9, e_x9, hb10⟩ := ob2 hb8
    by_cases q : (7 : Int32) < x9
    · have hb11 := ip q hb10
      obtain rfl := Option.some.inj hb11
      exact w0
    · have hb12 := iq q hb10
      by_cases q : (0 : Int32) ≤ v2
      · have hb13 := ip q hb12
        obtain ⟨x15, e_x15, hb16⟩ := ob2 hb13
        obtain ⟨h17, e_h17, hb18⟩ := ob2 hb16
        have w19 := w0.tr (Row_copy_q e_h17)
        obtain ⟨x20, e_x20, hb21⟩ := ob2 hb18
        obtain ⟨x22, e_x22, hb23⟩ := ob2 hb21
        obtain ⟨h24, e_h24, hb25⟩ := ob2 hb23
        have w26 := w19.tr (Sorter_putInOrder_q e_h24)
        by_cases q : v2 = (0 : Int32)
        · have hb28 := ip q hb25
          obtain ⟨x33, e_x33, hb34⟩ := ob2 hb28
          obtain ⟨x35, e_x35, hb36⟩ := ob2 hb34
          obtain rfl := Option.some.inj hb36
          exact w26
        · have hb27 := iq q hb25
          obtain ⟨x29, e_x29, hb30⟩ := ob2 hb27
          obtain ⟨x31, e_x31, hb32⟩ := ob2 hb30
          obtain rfl := Option.some.inj hb32
          exact w26
      · have hb14 := iq q hb12
        obtain rfl := Option.some.inj hb14
        exact w0
theorem Top_sorted_o {v0 : Nat} {v1 : Int32} {v2 : Int32} {h : am_H} {r : (Int32 × am_H)} (hb : Top_sorted v0 v1 v2 h = some r) : isO h 11 v0 = true := by
  unfold Top_sorted at hb
  exact (iz hb).1
set_option maxHeartbeats 1000000 in
set_option maxRecDepth 100000 in
noncomputable def Top_status (v0 : Nat) (h : am_H) : Option Int32 := if isO h 11 v0 = true then (gI h 11 v0 14).bind fun x1 => some x1 else none
set_option maxHeartbeats 1000000 in
set_option maxRecDepth 100000 in
theorem Top_status_s {v0 : Nat} {h : am_H} {r : Int32} (hb : Top_status v0 h = some r) : Sx 0 mX11_status 0 (am_en [.ref v0] 1) [] h (some (.int r)) h := by
  unfold Top_status at hb
  have hb := (iz hb).2
  show Sx 0 mX11_status 0 [.ref v0] [] h (some (.int r)) h
  refine Sx.o (fun _ _ _ k => ex_aload_n dX11_status_0 rfl rfl k) ?_
  obtain ⟨x1, e_x1, hb2⟩ := ob2 hb
  refine Sx.o (fun _ _ _ k => op_getI fX11_105 dX11_status_1 e_x1 k) ?_
  obtain rfl := Option.some.inj hb2
  exact Sx.r (fun _ _ _ k => ex_iret rfl dX11_status_4 k)
theorem Top_status_o {v0 : Nat} {h : am_H} {r : Int32} (hb : Top_status v0 h = some r) : isO h 11 v0 = true := by
  unfold Top_status at hb
  exact (iz hb).1
set_option maxHeartbeats 1000000 in
set_option maxRecDepth 100000 in
noncomputable def Top_step (v0 : Nat) (v1 : Int32) (h : am_H) : Option (Int32 × am_H) := if isO h 11 v0 = true then (gR h 11 v0 7).bind fun x1 => (Hands_tread x1 v1 h).bind fun r3 => if (0 : Int32) ≤ r3.1 then (Top_answer v0 r3.1 r3.2).bind fun r8 => some (r8.1, r8.2) else (Top_refuse v0 r3.1 r3.2).bind fun r11 => some (r11.1, r11.2) else none
set_option maxHeartbeats 1000000 in
set_option maxRecDepth 100000 in
theorem Top_step_s {v0 : Nat} {v1 : Int32} {h : am_H} {r : (Int32 × am_H)} (hb : Top_step v0 v1 h = some r) : Sx 5 mX11_step 0 (am_en [.ref v0, .int v1] 3) [] h (some (.int r.1)) r.2 := by
  unfold Top_step at hb
  have hb := (iz hb).2
  show Sx 5 mX11_step 0 [.ref v0, .int v1, .retAddr 0] [] h (some (.int r.1)) r.2
  refine Sx.o (fun _ _ _ k => ex_aload_n dX11_step_0 rfl rfl k) ?_
  obtain ⟨x1, e_x1, hb2⟩ := ob2 hb
  refine Sx.o (fun _ _ _ k => op_getR fX11_61 dX11_step_1 e_x1 k) ?_
  refine Sx.o (fun _ _ _ k => ex_iload_n dX11_step_4 rfl k) ?_
  obtain ⟨r3, e_r3, hb4⟩ := ob2 hb2
  refine sx_callV (dc := 4) (as := [.int v1]) (stq := [.int r3.1]) (by omega) dX11_step_5 MX1_tread kX11_203 iX1_tread sX1_tread rfl rfl (Hands_tread_o e_r3) rfl rfl (Nat.le_of_ble_eq_true rfl) (Nat.le_of_ble_eq_true rfl) (Hands_tread_s e_r3) rfl ?_
  refine Sx.o (L' := [.ref v0, .int v1, .int r3.1]) (fun _ _ _ k => ex_istore_n dX11_step_8 (by decide) k) ?_
  refine Sx.o (fun _ _ _ k => ex_iload_n dX11_step_9 rfl k) ?_
  refine Sx.b (fun _ _ _ k1 k2 => ex_if_ge 21 dX11_step_10 (by decide) k1 k2) (fun q => ?_) (fun q => ?_)
  · have hb6 := ip q hb4
    refine Sx.o (fun _ _ _ k => ex_aload_n dX11_step_21 rfl rfl k) ?_
    refine Sx.o (fun _ _ _ k => ex_iload_n dX11_step_22 rfl k) ?_
    obtain ⟨r8, e_r8, hb9⟩ := ob2 hb6
    refine sx_callV (dc := 0) (as := [.int r3.1]) (stq := [.int r8.1]) (by omega) dX11_step_23 MX11_answer kX11_137 iX11_answer sX11_answer rfl rfl (Top_answer_o e_r8) rfl rfl (Nat.le_of_ble_eq_true rfl) (Nat.le_of_ble_eq_true rfl) (Top_answer_s e_r8) rfl ?_
    obtain rfl := Option.some.inj hb9
    exact Sx.r (fun _ _ _ k => ex_iret rfl dX11_step_26 k)
  · have hb7 := iq q hb4
    refine Sx.o (fun _ _ _ k => ex_aload_n dX11_step_13 rfl rfl k) ?_
    refine Sx.o (fun _ _ _ k => ex_iload_n dX11_step_14 rfl k) ?_
    obtain ⟨r11, e_r11, hb12⟩ := ob2 hb7
    refine sx_callV (dc := 0) (as := [.int r3.1]) (stq := [.int r11.1]) (by omega) dX11_step_15 MX11_refuse kX11_118 iX11_refuse sX11_refuse rfl rfl (Top_refuse_o e_r11) rfl rfl (Nat.le_of_ble_eq_true rfl) (Nat.le_of_ble_eq_true rfl) (Top_refuse_s e_r11) rfl ?_
    refine Sx.o (fun _ _ _ k => ex_goto 26 dX11_step_18 (by decide) k) ?_
    obtain rfl := Option.some.inj hb12
    exact Sx.r (fun _ _ _ k => ex_iret rfl dX11_step_26 k)
set_option maxHeartbeats 1000000 in
set_option maxRecDepth 100000 in
theorem Top_step_q {v0 : Nat} {v1 : Int32} {h : am_H} {r : (Int32 × am_H)} (hb : Top_step v0 v1 h = some r) : Eqs h r.2 := by
  unfold Top_step at hb
  have hb := (iz hb).2
  have w0 := Eqs.rf h
  obtain ⟨x1, e_x1, hb2⟩ := ob2 hb
  obtain ⟨r3, e_r3, hb4⟩ := ob2 hb2
  have w5 := w0.tr (Hands_tread_q e_r3)
  by_cases q : (0 : Int32) ≤ r3.1
  · have hb6 := ip q hb4
    obtain ⟨r8, e_r8, hb9⟩ := ob2 hb6
    have w10 := w5.tr (Top_answer_q e_r8)
    obtain rfl := Option.some.inj hb9
    exact w10
  · have hb7 := iq q hb4
    obtain ⟨r11, e_r11, hb12⟩ := ob2 hb7
    have w13 := w5.tr (Top_refuse_q e_r11)
    obtain rfl := Option.some.inj hb12
    exact w13
theorem Top_step_o {v0 : Nat} {v1 : Int32} {h : am_H} {r : (Int32 × am_H)} (hb : Top_step v0 v1 h = some r) : isO h 11 v0 = true := by
  unfold Top_step at hb
  exact (iz hb).1
set_option maxHeartbeats 1000000 in
set_option maxRecDepth 100000 in
noncomputable def Top_stopped (v0 : Nat) (h : am_H) : Option Int32 := if isO h 11 v0 = true then (gR h 11 v0 7).bind fun x1 => (gI h 1 x1 0).bind fun x3 => some x3 else none
set_option maxHeartbeats 1000000 in
set_option maxRecDepth 100000 in
theorem Top_stopped_s {v0 : Nat} {h : am_H} {r : Int32} (hb : Top_stopped v0 h = some r) : Sx 0 mX11_stopped 0 (am_en [.ref v0] 1) [] h (some (.int r)) h := by
  unfold Top_stopped at hb
  have hb := (iz hb).2
  show Sx 0 mX11_stopped 0 [.ref v0] [] h (some (.int r)) h
  refine Sx.o (fun _ _ _ k => ex_aload_n dX11_stopped_0 rfl rfl k) ?_
  obtain ⟨x1, e_x1, hb2⟩ := ob2 hb
  refine Sx.o (fun _ _ _ k => op_getR fX11_61 dX11_stopped_1 e_x1 k) ?_
  obtain ⟨x3, e_x3, hb4⟩ := ob2 hb2
  refine Sx.o (fun _ _ _ k => op_getI fX11_194 dX11_stopped_4 e_x3 k) ?_
  obtain rfl := Option.some.inj hb4
  exact Sx.r (fun _ _ _ k => ex_iret rfl dX11_stopped_7 k)
theorem Top_stopped_o {v0 : Nat} {h : am_H} {r : Int32} (hb : Top_stopped v0 h = some r) : isO h 11 v0 = true := by
  unfold Top_stopped at hb
  exact (iz hb).1
set_option maxHeartbeats 1000000 in
set_option maxRecDepth 100000 in
noncomputable def Top_swap (v0 : Nat) (v1 : Int32) (v2 : Int32) (v3 : Int32) (h : am_H) : Option (Int32 × am_H) := if isO h 11 v0 = true then (gR h 11 v0 7).bind fun x1 => (Hands_exchange x1 v1 v2 v3 h).bind fun r3 => if (0 : Int32) ≤ r3.1 then (Top_answer v0 r3.1 r3.2).bind fun r8 => some (r8.1, r8.2) else (Top_refuse v0 r3.1 r3.2).bind fun r11 => some (r11.1, r11.2) else none
set_option maxHeartbeats 1000000 in
set_option maxRecDepth 100000 in
theorem Top_swap_s {v0 : Nat} {v1 : Int32} {v2 : Int32} {v3 : Int32} {h : am_H} {r : (Int32 × am_H)} (hb : Top_swap v0 v1 v2 v3 h = some r) : Sx 4 mX11_swap 0 (am_en [.ref v0, .int v1, .int v2, .int v3] 5) [] h (some (.int r.1)) r.2 := by
  unfold Top_swap at hb
  have hb := (iz hb).2
  show Sx 4 mX11_swap 0 [.ref v0, .int v1, .int v2, .int v3, .retAddr 0] [] h (some (.int r.1)) r.2
  refine Sx.o (fun _ _ _ k => ex_aload_n dX11_swap_0 rfl rfl k) ?_
  obtain ⟨x1, e_x1, hb2⟩ := ob2 hb
  refine Sx.o (fun _ _ _ k => op_getR fX11_61 dX11_swap_1 e_x1 k) ?_
  refine Sx.o (fun _ _ _ k => ex_iload_n dX11_swap_4 rfl k) ?_
  refine Sx.o (fun _ _ _ k => ex_iload_n dX11_swap_5 rfl k) ?_
  refine Sx.o (fun _ _ _ k => ex_iload_n dX11_swap_6 rfl k) ?_
  obtain ⟨r3, e_r3, hb4⟩ := ob2 hb2
  refine sx_callV (dc := 3) (as := [.int v1, .int v2, .int v3]) (stq := [.int r3.1]) (by omega) dX11_swap_7 MX1_exchange kX11_206 iX1_exchange sX1_exchange rfl rfl (Hands_exchange_o e_r3) rfl rfl (Nat.le_of_ble_eq_true rfl) (Nat.le_of_ble_eq_true rfl) (Hands_exchange_s e_r3) rfl ?_
  refine Sx.o (L' := [.ref v0, .int v1, .int v2, .int v3, .int r3.1]) (fun _ _ _ k => ex_istore dX11_swap_10 (by decide) k) ?_
  refine Sx.o (fun _ _ _ k => ex_iload dX11_swap_12 rfl k) ?_
  refine Sx.b (fun _ _ _ k1 k2 => ex_if_ge 26 dX11_swap_14 (by decide) k1 k2) (fun q => ?_) (fun q => ?_)
  · have hb6 := ip q hb4
    refine Sx.o (fun _ _ _ k => ex_aload_n dX11_swap_26 rfl rfl k) ?_
    refine Sx.o (fun _ _ _ k => ex_iload dX11_swap_27 rfl k) ?_
    obtain ⟨r8, e_r8, hb9⟩ := ob2 hb6
    refine sx_callV (dc := 0) (as := [.int r3.1]) (stq := [.int r8.1]) (by omega) dX11_swap_29 MX11_answer kX11_137 iX11_answer sX11_answer rfl rfl (Top_answer_o e_r8) rfl rfl (Nat.le_of_ble_eq_true rfl) (Nat.le_of_ble_eq_true rfl) (Top_answer_s e_r8) rfl ?_
    obtain rfl := Option.some.inj hb9
    exact Sx.r (fun _ _ _ k => ex_iret rfl dX11_swap_32 k)
  · have hb7 := iq q hb4
    refine Sx.o (fun _ _ _ k => ex_aload_n dX11_swap_17 rfl rfl k) ?_
    refine Sx.o (fun _ _ _ k => ex_iload dX11_swap_18 rfl k) ?_
    obtain ⟨r11, e_r11, hb12⟩ := ob2 hb7
    refine sx_callV (dc := 0) (as := [.int r3.1]) (stq := [.int r11.1]) (by omega) dX11_swap_20 MX11_refuse kX11_118 iX11_refuse sX11_refuse rfl rfl (Top_refuse_o e_r11) rfl rfl (Nat.le_of_ble_eq_true rfl) (Nat.le_of_ble_eq_true rfl) (Top_refuse_s e_r11) rfl ?_
    refine Sx.o (fun _ _ _ k => ex_goto 32 dX11_swap_23 (by decide) k) ?_
    obtain rfl := Option.some.inj hb12
    exact Sx.r (fun _ _ _ k => ex_iret rfl dX11_swap_32 k)
set_option maxHeartbeats 1000000 in
set_option maxRecDepth 100000 in
theorem Top_swap_q {v0 : Nat} {v1 : Int32} {v2 : Int32} {v3 : Int32} {h : am_H} {r : (Int32 × am_H)} (hb : Top_swap v0 v1 v2 v3 h = some r) : Eqs h r.2 := by
  unfold Top_swap at hb
  have hb := (iz hb).2
  have w0 := Eqs.rf h
  obtain ⟨x1, e_x1, hb2⟩ := ob2 hb
  obtain ⟨r3, e_r3, hb4⟩ := ob2 hb2
  have w5 := w0.tr (Hands_exchange_q e_r3)
  by_cases q : (0 : Int32) ≤ r3.1
  · have hb6 := ip q hb4
    obtain ⟨r8, e_r8, hb9⟩ := ob2 hb6
    have w10 := w5.tr (Top_answer_q e_r8)
    obtain rfl := Option.some.inj hb9
    exact w10
  · have hb7 := iq q hb4
    obtain ⟨r11, e_r11, hb12⟩ := ob2 hb7
    have w13 := w5.tr (Top_refuse_q e_r11)
    obtain rfl := Option.some.inj hb12
    exact w13
theorem Top_swap_o {v0 : Nat} {v1 : Int32} {v2 : Int32} {v3 : Int32} {h : am_H} {r : (Int32 × am_H)} (hb : Top_swap v0 v1 v2 v3 h = some r) : isO h 11 v0 = true := by
  unfold Top_swap at hb
  exact (iz hb).1
set_option maxHeartbeats 1000000 in
set_option maxRecDepth 100000 in
noncomputable def Top_terms_69 (v0 : Nat) (h : am_H) : Option (Int32 × am_H) := (Top_refuse v0 (-1 : Int32) h).bind fun r1 => some (r1.1, r1.2)
set_option maxHeartbeats 1000000 in
set_option maxRecDepth 100000 in
theorem Top_terms_69_s {v0 : Nat} {h : am_H} {r : (Int32 × am_H)} (hb : Top_terms_69 v0 h = some r) : Sx 1 mX11_terms 69 [.ref v0, .retAddr 0, .retAddr 0, .retAddr 0] [] h (some (.int r.1)) r.2 := by
  unfold Top_terms_69 at hb
  refine Sx.o (fun _ _ _ k => ex_aload_n dX11_terms_69 rfl rfl k) ?_
  refine Sx.o (fun _ _ _ k => op_iconst (-1 : Int32) dX11_terms_70 (by decide) k) ?_
  obtain ⟨r1, e_r1, hb2⟩ := ob2 hb
  refine sx_callV (dc := 0) (as := [.int (-1 : Int32)]) (stq := [.int r1.1]) (by omega) dX11_terms_71 MX11_refuse kX11_118 iX11_refuse sX11_refuse rfl rfl (Top_refuse_o e_r1) rfl rfl (Nat.le_of_ble_eq_true rfl) (Nat.le_of_ble_eq_true rfl) (Top_refuse_s e_r1) rfl ?_
  obtain rfl := Option.some.inj hb2
  exact Sx.r (fun _ _ _ k => ex_iret rfl dX11_terms_74 k)
set_option maxHeartbeats 1000000 in
set_option maxRecDepth 100000 in
theorem Top_terms_69_q {v0 : Nat} {h : am_H} {r : (Int32 × am_H)} (hb : Top_terms_69 v0 h = some r) : Eqs h r.2 := by
  unfold Top_terms_69 at hb
  have w0 := Eqs.rf h
  obtain ⟨r1, e_r1, hb2⟩ := ob2 hb
  have w3 := w0.tr (Top_refuse_q e_r1)
  obtain rfl := Option.some.inj hb2
  exact w3
set_option maxHeartbeats 1000000 in
set_option maxRecDepth 100000 in
noncomputable def Top_terms_75 (v0 : Nat) (v3 : Int32) (h : am_H) : Option (Int32 × am_H) := (gR h 11 v0 4).bind fun x4 => (Past_clear x4 h).bind fun h6 => (Top_answer v0 v3 h6).bind fun r9 => some (r9.1, r9.2)
set_option maxHeartbeats 1000000 in
set_option maxRecDepth 100000 in
theorem Top_terms_75_s {v0 : Nat} {v3 : Int32} {h : am_H} {r : (Int32 × am_H)} (hb : Top_terms_75 v0 v3 h = some r) : Sx 1 mX11_terms 75 [.ref v0, .retAddr 0, .retAddr 0, .int v3] [] h (some (.int r.1)) r.2 := by
  unfold Top_terms_75 at hb
  refine Sx.o (fun _ _ _ k => ex_aload_n dX11_terms_75 rfl rfl k) ?_
  obtain ⟨x4, e_x4, hb5⟩ := ob2 hb
  refine Sx.o (fun _ _ _ k => op_getR fX11_34 dX11_terms_76 e_x4 k) ?_
  obtain ⟨h6, e_h6, hb7⟩ := ob2 hb5
  refine sx_callV (dc := 0) (as := []) (stq := []) (by omega) dX11_terms_79 MX2_clear kX11_126 iX2_clear sX2_clear rfl rfl (Past_clear_o e_h6) rfl rfl (Nat.le_of_ble_eq_true rfl) (Nat.le_of_ble_eq_true rfl) (Past_clear_s e_h6) rfl ?_
  refine Sx.o (fun _ _ _ k => ex_aload_n dX11_terms_82 rfl rfl k) ?_
  refine Sx.o (fun _ _ _ k => ex_iload_n dX11_terms_83 rfl k) ?_
  obtain ⟨r9, e_r9, hb10⟩ := ob2 hb7
  refine sx_callV (dc := 0) (as := [.int v3]) (stq := [.int r9.1]) (by omega) dX11_terms_84 MX11_answer kX11_137 iX11_answer sX11_answer rfl rfl (Top_answer_o e_r9) rfl rfl (Nat.le_of_ble_eq_true rfl) (Nat.le_of_ble_eq_true rfl) (Top_answer_s e_r9) rfl ?_
  obtain rfl := Option.some.inj hb10
  exact Sx.r (fun _ _ _ k => ex_iret rfl dX11_terms_87 k)
set_option maxHeartbeats 1000000 in
set_option maxRecDepth 100000 in
theorem Top_terms_75_q {v0 : Nat} {v3 : Int32} {h : am_H} {r : (Int32 × am_H)} (hb : Top_terms_75 v0 v3 h = some r) : Eqs h r.2 := by
  unfold Top_terms_75 at hb
  have w0 := Eqs.rf h
  obtain ⟨x4, e_x4, hb5⟩ := ob2 hb
  obtain ⟨h6, e_h6, hb7⟩ := ob2 hb5
  have w8 := w0.tr (Past_clear_q e_h6)
  obtain ⟨r9, e_r9, hb10⟩ := ob2 hb7
  have w11 := w8.tr (Top_answer_q e_r9)
  obtain rfl := Option.some.inj hb10
  exact w11
set_option maxHeartbeats 1000000 in
set_option maxRecDepth 100000 in
noncomputable def Top_terms_33 (v0 : Nat) (v1 : Int32) (v2 : Int32) (h : am_H) : Option (Int32 × am_H) := if v1 = (1 : Int32) then if v2 < (1 : Int32) then Top_terms_69 v0 h else if (300 : Int32) < v2 then Top_terms_69 v0 h else (gR h 11 v0 1).bind fun x18 => (gI h 7 x18 5).bind fun x20 => (gR h 11 v0 1).bind fun x22 => (pV h 7 x22 5 (.int v2)).bind fun h24 => Top_terms_75 v0 x20 h24 else Top_terms_69 v0 h
set_option maxHeartbeats 1000000 in
set_option maxRecDepth 100000 in
theorem Top_terms_33_s {v0 : Nat} {v1 : Int32} {v2 : Int32} {h : am_H} {r : (Int32 × am_H)} (hb : Top_terms_33 v0 v1 v2 h = some r) : Sx 1 mX11_terms 33 [.ref v0, .int v1, .int v2, .retAddr 0] [] h (some (.int r.1)) r.2 := by
  unfold Top_terms_33 at hb
  refine Sx.o (fun _ _ _ k => ex_iload_n dX11_terms_33 rfl k) ?_
  refine Sx.o (fun _ _ _ k => op_iconst (1 : Int32) dX11_terms_34 (by decide) k) ?_
  refine Sx.bn (fun _ _ _ k1 k2 => ex_icmp_ne 69 dX11_terms_35 (by decide) k1 k2) (fun q => ?_) (fun q => ?_)
  · have hb12 := iq q hb
    refine Sx.fg [true, false, false, true] ?_
    exact Top_terms_69_s hb12
  · have hb13 := ip q hb
    refine Sx.o (fun _ _ _ k => ex_iload_n dX11_terms_38 rfl k) ?_
    refine Sx.o (fun _ _ _ k => op_iconst (1 : Int32) dX11_terms_39 (by decide) k) ?_
    refine Sx.b (fun _ _ _ k1 k2 => ex_icmp_lt 69 dX11_terms_40 (by decide) k1 k2) (fun q => ?_) (fun q => ?_)
    · have hb14 := ip q hb13
      refine Sx.fg [true, false, false, true] ?_
      exact Top_terms_69_s hb14
    · have hb15 := iq q hb13
      refine Sx.o (fun _ _ _ k => ex_iload_n dX11_terms_43 rfl k) ?_
      refine Sx.o (fun _ _ _ k => op_sipush (300 : Int32) dX11_terms_44 (by decide) k) ?_
      refine Sx.b (fun _ _ _ k1 k2 => ex_icmp_gt 69 dX11_terms_47 (by decide) k1 k2) (fun q => ?_) (fun q => ?_)
      · have hb16 := ip q hb15
        refine Sx.fg [true, false, false, true] ?_
        exact Top_terms_69_s hb16
      · have hb17 := iq q hb15
        refine Sx.o (fun _ _ _ k => ex_aload_n dX11_terms_50 rfl rfl k) ?_
        obtain ⟨x18, e_x18, hb19⟩ := ob2 hb17
        refine Sx.o (fun _ _ _ k => op_getR fX11_19 dX11_terms_51 e_x18 k) ?_
        obtain ⟨x20, e_x20, hb21⟩ := ob2 hb19
        refine Sx.o (fun _ _ _ k => op_getI fX11_170 dX11_terms_54 e_x20 k) ?_
        refine Sx.o (L' := [.ref v0, .int v1, .int v2, .int x20]) (fun _ _ _ k => ex_istore_n dX11_terms_57 (by decide) k) ?_
        refine Sx.o (fun _ _ _ k => ex_aload_n dX11_terms_58 rfl rfl k) ?_
        obtain ⟨x22, e_x22, hb23⟩ := ob2 hb21
        refine Sx.o (fun _ _ _ k => op_getR fX11_19 dX11_terms_59 e_x22 k) ?_
        refine Sx.o (fun _ _ _ k => ex_iload_n dX11_terms_62 rfl k) ?_
        obtain ⟨h24, e_h24, hb25⟩ := ob2 hb23
        refine Sx.p (pV_q e_h24) (fun _ _ _ k => op_put pX11_170 dX11_terms_63 e_h24 (fun _ => rfl) (fun _ => rfl) k) ?_
        refine Sx.o (fun _ _ _ k => ex_goto 75 dX11_terms_66 (by decide) k) ?_
        refine Sx.fg [true, false, false, true] ?_
        exact Top_terms_75_s hb25
set_option maxHeartbeats 1000000 in
set_option maxRecDepth 100000 in
theorem Top_terms_33_q {v0 : Nat} {v1 : Int32} {v2 : Int32} {h : am_H} {r : (Int32 × am_H)} (hb : Top_terms_33 v0 v1 v2 h = some r) : Eqs h r.2 := by
  unfold Top_terms_33 at hb
  have w0 := Eqs.rf h
  by_cases q : v1 = (1 : Int32)
  · have hb13 := ip q hb
    by_cases q : v2 < (1 : Int32)
    · have hb14 := ip q hb13
      exact w0.tr (Top_terms_69_q hb14)
    · have hb15 := iq q hb13
      by_cases q : (300 : Int32) < v2
      · have hb16 := ip q hb15
        exact w0.tr (Top_terms_69_q hb16)
      · have hb17 := iq q hb15
        obtain ⟨x18, e_x18, hb19⟩ := ob2 hb17
        obtain ⟨x20, e_x20, hb21⟩ := ob2 hb19
        obtain ⟨x22, e_x22, hb23⟩ := ob2 hb21
        obtain ⟨h24, e_h24, hb25⟩ := ob2 hb23
        have w26 := w0.tr (pV_q e_h24)
        exact w26.tr (Top_terms_75_q hb25)
  · have hb12 := iq q hb
    exact w0.tr (Top_terms_69_q hb12)
set_option maxHeartbeats 1000000 in
set_option maxRecDepth 100000 in
noncomputable def Top_terms (v0 : Nat) (v1 : Int32) (v2 : Int32) (h : am_H) : Option (Int32 × am_H) := if isO h 11 v0 = true then if v1 = (0 : Int32) then if v2 < (0 : Int32) then Top_terms_33 v0 v1 v2 h else if (9 : Int32) < v2 then Top_terms_33 v0 v1 v2 h else (gR h 11 v0 1).bind fun x33 => (gI h 7 x33 4).bind fun x35 => (gR h 11 v0 1).bind fun x37 => (pV h 7 x37 4 (.int v2)).bind fun h39 => Top_terms_75 v0 x35 h39 else Top_terms_33 v0 v1 v2 h else none
set_option maxHeartbeats 1000000 in
set_option maxRecDepth 100000 in
theorem Top_terms_s {v0 : Nat} {v1 : Int32} {v2 : Int32} {h : am_H} {r : (Int32 × am_H)} (hb : Top_terms v0 v1 v2 h = some r) : Sx 1 mX11_terms 0 (am_en [.ref v0, .int v1, .int v2] 4) [] h (some (.int r.1)) r.2 := by
  unfold Top_terms at hb
  have hb := (iz hb).2
  show Sx 1 mX11_terms 0 [.ref v0, .int v1, .int v2, .retAddr 0] [] h (some (.int r.1)) r.2
  refine Sx.o (fun _ _ _ k => ex_iload_n dX11_terms_0 rfl k) ?_
  refine Sx.bn (fun _ _ _ k1 k2 => ex_if_ne 33 dX11_terms_1 (by decide) k1 k2) (fun q => ?_) (fun q => ?_)
  · have hb27 := iq q hb
    exact Top_terms_33_s hb27
  · have hb28 := ip q hb
    refine Sx.o (fun _ _ _ k => ex_iload_n dX11_terms_4 rfl k) ?_
    refine Sx.b (fun _ _ _ k1 k2 => ex_if_lt 33 dX11_terms_5 (by decide) k1 k2) (fun q => ?_) (fun q => ?_)
    · have hb29 := ip q hb28
      exact Top_terms_33_s hb29
    · have hb30 := iq q hb28
      refine Sx.o (fun _ _ _ k => ex_iload_n dX11_terms_8 rfl k) ?_
      refine Sx.o (fun _ _ _ k => op_bipush (9 : Int32) dX11_terms_9 (by decide) k) ?_
      refine Sx.b (fun _ _ _ k1 k2 => ex_icmp_gt 33 dX11_terms_11 (by decide) k1 k2) (fun q => ?_) (fun q => ?_)
      · have hb31 := ip q hb30
        exact Top_terms_33_s hb31
      · have hb32 := iq q hb30
        refine Sx.o (fun _ _ _ k => ex_aload_n dX11_terms_14 rfl rfl k) ?_
        obtain ⟨x33, e_x33, hb34⟩ := ob2 hb32
        refine Sx.o (fun _ _ _ k => op_getR fX11_19 dX11_terms_15 e_x33 k) ?_
        obtain ⟨x35, e_x35, hb36⟩ := ob2 hb34
        refine Sx.o (fun _ _ _ k => op_getI fX11_167 dX11_terms_18 e_x35 k) ?_
        refine Sx.o (L' := [.ref v0, .int v1, .int v2, .int x35]) (fun _ _ _ k => ex_istore_n dX11_terms_21 (by decide) k) ?_
        refine Sx.o (fun _ _ _ k => ex_aload_n dX11_terms_22 rfl rfl k) ?_
        obtain ⟨x37, e_x37, hb38⟩ := ob2 hb36
        refine Sx.o (fun _ _ _ k => op_getR fX11_19 dX11_terms_23 e_x37 k) ?_
        refine Sx.o (fun _ _ _ k => ex_iload_n dX11_terms_26 rfl k) ?_
        obtain ⟨h39, e_h39, hb40⟩ := ob2 hb38
        refine Sx.p (pV_q e_h39) (fun _ _ _ k => op_put pX11_167 dX11_terms_27 e_h39 (fun _ => rfl) (fun _ => rfl) k) ?_
        refine Sx.o (fun _ _ _ k => ex_goto 75 dX11_terms_30 (by decide) k) ?_
        refine Sx.fg [true, false, false, true] ?_
        exact Top_terms_75_s hb40
set_option maxHeartbeats 1000000 in
set_option maxRecDepth 100000 in
theorem Top_terms_q {v0 : Nat} {v1 : Int32} {v2 : Int32} {h : am_H} {r : (Int32 × am_H)} (hb : Top_terms v0 v1 v2 h = some r) : Eqs h r.2 := by
  unfold Top_terms at hb
  have hb := (iz hb).2
  have w0 := Eqs.rf h
  by_cases q : v1 = (0 : Int32)
  · have hb28 := ip q hb
    by_cases q : v2 < (0 : Int32)
    · have hb29 := ip q hb28
      exact w0.tr (Top_terms_33_q hb29)
    · have hb30 := iq q hb28
      by_cases q : (9 : Int32) < v2
      · have hb31 := ip q hb30
        exact w0.tr (Top_terms_33_q hb31)
      · have hb32 := iq q hb30
        obtain ⟨x33, e_x33, hb34⟩ := ob2 hb32
        obtain ⟨x35, e_x35, hb36⟩ := ob2 hb34
        obtain ⟨x37, e_x37, hb38⟩ := ob2 hb36
        obtain ⟨h39, e_h39, hb40⟩ := ob2 hb38
        have w41 := w0.tr (pV_q e_h39)
        exact w41.tr (Top_terms_75_q hb40)
  · have hb27 := iq q hb
    exact w0.tr (Top_terms_33_q hb27)
theorem Top_terms_o {v0 : Nat} {v1 : Int32} {v2 : Int32} {h : am_H} {r : (Int32 × am_H)} (hb : Top_terms v0 v1 v2 h = some r) : isO h 11 v0 = true := by
  unfold Top_terms at hb
  exact (iz hb).1
set_option maxHeartbeats 1000000 in
set_option maxRecDepth 100000 in
noncomputable def Top_to (v0 : Nat) (v1 : Int32) (v2 : Int32) (v3 : Int32) (h : am_H) : Option (Int32 × am_H) := if isO h 11 v0 = true then (gR h 11 v0 1).bind fun x1 => (Table_at x1 v1 h).bind fun x3 => if x3 = none then some ((-1 : Int32), h) else (x3).bind fun x7 => (gI h 4 x7 1).bind fun x9 => if (7 : Int32) < x9 then some ((-1 : Int32), h) else if (-1 : Int32) ≤ v2 then (gR h 11 v0 8).bind fun x15 => (Ways_leading x15 x7 v2 v3 h).bind fun r17 => some (r17.1, r17.2) else some ((-1 : Int32), h) else none
set_option maxHeartbeats 1000000 in
set_option maxRecDepth 100000 in
theorem Top_to_s {v0 : Nat} {v1 : Int32} {v2 : Int32} {v3 : Int32} {h : am_H} {r : (Int32 × am_H)} (hb : Top_to v0 v1 v2 v3 h = some r) : Sx 6 mX11_to 0 (am_en [.ref v0, .int v1, .int v2, .int v3] 5) [] h (some (.int r.1)) r.2 := by
  unfold Top_to at hb
  have hb := (iz hb).2
  show Sx 6 mX11_to 0 [.ref v0, .int v1, .int v2, .int v3, .retAddr 0] [] h (some (.int r.1)) r.2
  refine Sx.o (fun _ _ _ k => ex_aload_n dX11_to_0 rfl rfl k) ?_
  obtain ⟨x1, e_x1, hb2⟩ := ob2 hb
  refine Sx.o (fun _ _ _ k => op_getR fX11_19 dX11_to_1 e_x1 k) ?_
  refine Sx.o (fun _ _ _ k => ex_iload_n dX11_to_4 rfl k) ?_
  obtain ⟨x3, e_x3, hb4⟩ := ob2 hb2
  refine sx_callV (dc := 0) (as := [.int v1]) (stq := [va_rf x3]) (by omega) dX11_to_5 MX7_at kX11_140 iX7_at sX7_at rfl rfl (Table_at_o e_x3) rfl rfl (Nat.le_of_ble_eq_true rfl) (Nat.le_of_ble_eq_true rfl) (Table_at_s e_x3) rfl ?_
  refine Sx.o (L' := [.ref v0, .int v1, .int v2, .int v3, va_rf x3]) (fun _ _ _ k => ex_astore dX11_to_8 (am_rfv _) (by decide) k) ?_
  refine Sx.o (fun _ _ _ k => ex_aload dX11_to_10 rfl (am_rfv _) k) ?_
  refine Sx.b (fun _ _ _ k1 k2 => op_ifnull (r := x3) 30 dX11_to_12 (by decide) k1 k2) (fun q => ?_) (fun q => ?_)
  · have hb5 := ip q hb4
    refine Sx.o (fun _ _ _ k => op_iconst (-1 : Int32) dX11_to_30 (by decide) k) ?_
    obtain rfl := Option.some.inj hb5
    exact Sx.r (fun _ _ _ k => ex_iret rfl dX11_to_31 k)
  · have hb6 := iq q hb4
    obtain ⟨x7, e_x7, hb8⟩ := ob2 hb6
    subst e_x7
    refine Sx.o (fun _ _ _ k => ex_aload dX11_to_15 rfl rfl k) ?_
    obtain ⟨x9, e_x9, hb10⟩ := ob2 hb8
    refine Sx.o (fun _ _ _ k => op_getI fX11_144 dX11_to_17 e_x9 k) ?_
    refine Sx.o (fun _ _ _ k => op_bipush (7 : Int32) dX11_to_20 (by decide) k) ?_
    refine Sx.b (fun _ _ _ k1 k2 => ex_icmp_gt 30 dX11_to_22 (by decide) k1 k2) (fun q => ?_) (fun q => ?_)
    · have hb11 := ip q hb10
      refine Sx.o (fun _ _ _ k => op_iconst (-1 : Int32) dX11_to_30 (by decide) k) ?_
      obtain rfl := Option.some.inj hb11
      exact Sx.r (fun _ _ _ k => ex_iret rfl dX11_to_31 k)
    · have hb12 := iq q hb10
      refine Sx.o (fun _ _ _ k => ex_iload_n dX11_to_25 rfl k) ?_
      refine Sx.o (fun _ _ _ k => op_iconst (-1 : Int32) dX11_to_26 (by decide) k) ?_
      refine Sx.b (fun _ _ _ k1 k2 => ex_icmp_ge 32 dX11_to_27 (by decide) k1 k2) (fun q => ?_) (fun q => ?_)
      · have hb13 := ip q hb12
        refine Sx.o (fun _ _ _ k => ex_aload_n dX11_to_32 rfl rfl k) ?_
        obtain ⟨x15, e_x15, hb16⟩ := ob2 hb13
        refine Sx.o (fun _ _ _ k => op_getR fX11_70 dX11_to_33 e_x15 k) ?_
        refine Sx.o (fun _ _ _ k => ex_aload dX11_to_36 rfl rfl k) ?_
        refine Sx.o (fun _ _ _ k => ex_iload_n dX11_to_38 rfl k) ?_
        refine Sx.o (fun _ _ _ k => ex_iload_n dX11_to_39 rfl k) ?_
        obtain ⟨r17, e_r17, hb18⟩ := ob2 hb16
        refine sx_callV (dc := 5) (as := [.ref x7, .int v2, .int v3]) (stq := [.int r17.1]) (by omega) dX11_to_40 MX10_leading kX11_259 iX10_leading sX10_leading rfl rfl (Ways_leading_o e_r17) rfl rfl (Nat.le_of_ble_eq_true rfl) (Nat.le_of_ble_eq_true rfl) (Ways_leading_s e_r17) rfl ?_
        obtain rfl := Option.some.inj hb18
        exact Sx.r (fun _ _ _ k => ex_iret rfl dX11_to_43 k)
      · have hb14 := iq q hb12
        refine Sx.o (fun _ _ _ k => op_iconst (-1 : Int32) dX11_to_30 (by decide) k) ?_
        obtain rfl := Option.some.inj hb14
        exact Sx.r (fun _ _ _ k => ex_iret rfl dX11_to_31 k)
theorem Top_to_o {v0 : Nat} {v1 : Int32} {v2 : Int32} {v3 : Int32} {h : am_H} {r : (Int32 × am_H)} (hb : Top_to v0 v1 v2 v3 h = some r) : isO h 11 v0 = true := by
  unfold Top_to at hb
  exact (iz hb).1
set_option maxHeartbeats 1000000 in
set_option maxRecDepth 100000 in
noncomputable def Top_undo (v0 : Nat) (h : am_H) : Option (Int32 × am_H) := if isO h 11 v0 = true then (gR h 11 v0 4).bind fun x1 => (gI h 2 x1 0).bind fun x3 => if x3 = (0 : Int32) then (Top_refuse v0 (-3 : Int32) h).bind fun r17 => some (r17.1, r17.2) else (gR h 11 v0 4).bind fun x7 => (gR h 11 v0 1).bind fun x9 => (Past_takeBack x7 x9 h).bind fun r11 => (Top_answer v0 r11.1 r11.2).bind fun r14 => some (r14.1, r14.2) else none
set_option maxHeartbeats 1000000 in
set_option maxRecDepth 100000 in
theorem Top_undo_s {v0 : Nat} {h : am_H} {r : (Int32 × am_H)} (hb : Top_undo v0 h = some r) : Sx 3 mX11_undo 0 (am_en [.ref v0] 1) [] h (some (.int r.1)) r.2 := by
  unfold Top_undo at hb
  have hb := (iz hb).2
  show Sx 3 mX11_undo 0 [.ref v0] [] h (some (.int r.1)) r.2
  refine Sx.o (fun _ _ _ k => ex_aload_n dX11_undo_0 rfl rfl k) ?_
  obtain ⟨x1, e_x1, hb2⟩ := ob2 hb
  refine Sx.o (fun _ _ _ k => op_getR fX11_34 dX11_undo_1 e_x1 k) ?_
  obtain ⟨x3, e_x3, hb4⟩ := ob2 hb2
  refine Sx.o (fun _ _ _ k => op_getI fX11_214 dX11_undo_4 e_x3 k) ?_
  refine Sx.bn (fun _ _ _ k1 k2 => ex_if_ne 17 dX11_undo_7 (by decide) k1 k2) (fun q => ?_) (fun q => ?_)
  · have hb5 := iq q hb4
    refine Sx.o (fun _ _ _ k => ex_aload_n dX11_undo_17 rfl rfl k) ?_
    refine Sx.o (fun _ _ _ k => ex_aload_n dX11_undo_18 rfl rfl k) ?_
    obtain ⟨x7, e_x7, hb8⟩ := ob2 hb5
    refine Sx.o (fun _ _ _ k => op_getR fX11_34 dX11_undo_19 e_x7 k) ?_
    refine Sx.o (fun _ _ _ k => ex_aload_n dX11_undo_22 rfl rfl k) ?_
    obtain ⟨x9, e_x9, hb10⟩ := ob2 hb8
    refine Sx.o (fun _ _ _ k => op_getR fX11_19 dX11_undo_23 e_x9 k) ?_
    obtain ⟨r11, e_r11, hb12⟩ := ob2 hb10
    refine sx_callV (dc := 2) (as := [.ref x9]) (stq := [.int r11.1, .ref v0]) (by omega) dX11_undo_26 MX2_takeBack kX11_215 iX2_takeBack sX2_takeBack rfl rfl (Past_takeBack_o e_r11) rfl rfl (Nat.le_of_ble_eq_true rfl) (Nat.le_of_ble_eq_true rfl) (Past_takeBack_s e_r11) rfl ?_
    obtain ⟨r14, e_r14, hb15⟩ := ob2 hb12
    refine sx_callV (dc := 0) (as := [.int r11.1]) (stq := [.int r14.1]) (by omega) dX11_undo_29 MX11_answer kX11_137 iX11_answer sX11_answer rfl rfl (Top_answer_o e_r14) rfl rfl (Nat.le_of_ble_eq_true rfl) (Nat.le_of_ble_eq_true rfl) (Top_answer_s e_r14) rfl ?_
    obtain rfl := Option.some.inj hb15
    exact Sx.r (fun _ _ _ k => ex_iret rfl dX11_undo_32 k)
  · have hb6 := ip q hb4
    refine Sx.o (fun _ _ _ k => ex_aload_n dX11_undo_10 rfl rfl k) ?_
    refine Sx.o (fun _ _ _ k => op_bipush (-3 : Int32) dX11_undo_11 (by decide) k) ?_
    obtain ⟨r17, e_r17, hb18⟩ := ob2 hb6
    refine sx_callV (dc := 0) (as := [.int (-3 : Int32)]) (stq := [.int r17.1]) (by omega) dX11_undo_13 MX11_refuse kX11_118 iX11_refuse sX11_refuse rfl rfl (Top_refuse_o e_r17) rfl rfl (Nat.le_of_ble_eq_true rfl) (Nat.le_of_ble_eq_true rfl) (Top_refuse_s e_r17) rfl ?_
    obtain rfl := Option.some.inj hb18
    exact Sx.r (fun _ _ _ k => ex_iret rfl dX11_undo_16 k)
set_option maxHeartbeats 1000000 in
set_option maxRecDepth 100000 in
theorem Top_undo_q {v0 : Nat} {h : am_H} {r : (Int32 × am_H)} (hb : Top_undo v0 h = some r) : Eqs h r.2 := by
  unfold Top_undo at hb
  have hb := (iz hb).2
  have w0 := Eqs.rf h
  obtain ⟨x1, e_x1, hb2⟩ := ob2 hb
  obtain ⟨x3, e_x3, hb4⟩ := ob2 hb2
  by_cases q : x3 = (0 : Int32)
  · have hb6 := ip q hb4
    obtain ⟨r17, e_r17, hb18⟩ := ob2 hb6
    have w19 := w0.tr (Top_refuse_q e_r17)
    obtain rfl := Option.some.inj hb18
    exact w19
  · have hb5 := iq q hb4
    obtain ⟨x7, e_x7, hb8⟩ := ob2 hb5
    obtain ⟨x9, e_x9, hb10⟩ := ob2 hb8
    obtain ⟨r11, e_r11, hb12⟩ := ob2 hb10
    have w13 := w0.tr (Past_takeBack_q e_r11)
    obtain ⟨r14, e_r14, hb15⟩ := ob2 hb12
    have w16 := w13.tr (Top_answer_q e_r14)
    obtain rfl := Option.some.inj hb15
    exact w16
theorem Top_undo_o {v0 : Nat} {h : am_H} {r : (Int32 × am_H)} (hb : Top_undo v0 h = some r) : isO h 11 v0 = true := by
  unfold Top_undo at hb
  exact (iz hb).1
