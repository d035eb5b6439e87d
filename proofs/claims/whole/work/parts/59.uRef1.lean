/-! the reference: its methods as functions (by wip/whole/dec.py) -/
set_option maxHeartbeats 1000000 in
set_option maxRecDepth 100000 in
noncomputable def Ref_codeAt (v0 : Nat) (v1 : Int32) (h : am_H) : Option Int32 := if isO h 12 v0 = true then (gI h 12 v0 22).bind fun x1 => if x1 ≤ v1 then some (0 : Int32) else (gR h 12 v0 2).bind fun x5 => (aI h 0 x5 ((125 : Int32) + v1)).bind fun x7 => some x7 else none
set_option maxHeartbeats 1000000 in
set_option maxRecDepth 100000 in
theorem Ref_codeAt_s {v0 : Nat} {v1 : Int32} {h : am_H} {r : Int32} (hb : Ref_codeAt v0 v1 h = some r) : Sx 0 mX12_codeAt 0 (am_en [.ref v0, .int v1] 2) [] h (some (.int r)) h := by
  unfold Ref_codeAt at hb
  have hb := (iz hb).2
  show Sx 0 mX12_codeAt 0 [.ref v0, .int v1] [] h (some (.int r)) h
  refine Sx.o (fun _ _ _ k => ex_iload_n dX12_codeAt_0 rfl k) ?_
  refine Sx.o (fun _ _ _ k => ex_aload_n dX12_codeAt_1 rfl rfl k) ?_
  obtain ⟨x1, e_x1, hb2⟩ := ob2 hb
  refine Sx.o (fun _ _ _ k => op_getI fX12_253 dX12_codeAt_2 e_x1 k) ?_
  refine Sx.b (fun _ _ _ k1 k2 => ex_icmp_ge 20 dX12_codeAt_5 (by decide) k1 k2) (fun q => ?_) (fun q => ?_)
  · have hb3 := ip q hb2
    refine Sx.o (fun _ _ _ k => op_iconst (0 : Int32) dX12_codeAt_20 (by decide) k) ?_
    obtain rfl := Option.some.inj hb3
    exact Sx.r (fun _ _ _ k => ex_iret rfl dX12_codeAt_21 k)
  · have hb4 := iq q hb2
    refine Sx.o (fun _ _ _ k => ex_aload_n dX12_codeAt_8 rfl rfl k) ?_
    obtain ⟨x5, e_x5, hb6⟩ := ob2 hb4
    refine Sx.o (fun _ _ _ k => op_getR fX12_24 dX12_codeAt_9 e_x5 k) ?_
    refine Sx.o (fun _ _ _ k => op_bipush (125 : Int32) dX12_codeAt_12 (by decide) k) ?_
    refine Sx.o (fun _ _ _ k => ex_iload_n dX12_codeAt_14 rfl k) ?_
    refine Sx.o (fun _ _ _ k => ex_iadd dX12_codeAt_15 k) ?_
    obtain ⟨x7, e_x7, hb8⟩ := ob2 hb6
    refine Sx.o (fun _ _ _ k => op_iald dX12_codeAt_16 e_x7 k) ?_
    refine Sx.o (fun _ _ _ k => ex_goto 21 dX12_codeAt_17 (by decide) k) ?_
    obtain rfl := Option.some.inj hb8
    exact Sx.r (fun _ _ _ k => ex_iret rfl dX12_codeAt_21 k)
theorem Ref_codeAt_o {v0 : Nat} {v1 : Int32} {h : am_H} {r : Int32} (hb : Ref_codeAt v0 v1 h = some r) : isO h 12 v0 = true := by
  unfold Ref_codeAt at hb
  exact (iz hb).1
set_option maxHeartbeats 1000000 in
set_option maxRecDepth 100000 in
noncomputable def Ref_passes0_17 (v0 : Nat) (s0 : Int32) (h : am_H) : Option (Int32 × am_H) := if s0 = (0 : Int32) then (nrZ s0).bind fun u3 => some (s0, h) else (gI h 12 v0 21).bind fun x5 => (pV h 12 v0 21 (.int (x5 + (1 : Int32)))).bind fun h7 => (nrZ s0).bind fun u10 => some (s0, h7)
set_option maxHeartbeats 1000000 in
set_option maxRecDepth 100000 in
theorem Ref_passes0_17_s {v0 : Nat} {s0 : Int32} {h : am_H} {r : (Int32 × am_H)} (hb : Ref_passes0_17 v0 s0 h = some r) : Sx 1 mX12_passes0 17 [.ref v0, .retAddr 0, .retAddr 0] [.int s0] h (some (.int r.1)) r.2 := by
  unfold Ref_passes0_17 at hb
  refine Sx.o (L' := [.ref v0, .retAddr 0, .int s0]) (fun _ _ _ k => ex_istore_n dX12_passes0_17 (by decide) k) ?_
  refine Sx.o (fun _ _ _ k => ex_iload_n dX12_passes0_18 rfl k) ?_
  refine Sx.b (fun _ _ _ k1 k2 => ex_if_eq 32 dX12_passes0_19 (by decide) k1 k2) (fun q => ?_) (fun q => ?_)
  · have hb1 := ip q hb
    refine Sx.o (fun _ _ _ k => ex_iload_n dX12_passes0_32 rfl k) ?_
    obtain ⟨u3, e_u3, hb4⟩ := ob2 hb1
    obtain rfl := Option.some.inj hb4
    exact Sx.r (fun _ _ _ k => ex_zret rfl (nrZ_n e_u3) dX12_passes0_33 k)
  · have hb2 := iq q hb
    refine Sx.o (fun _ _ _ k => ex_aload_n dX12_passes0_22 rfl rfl k) ?_
    refine Sx.o (fun _ _ _ k => ex_dup dX12_passes0_23 rfl k) ?_
    obtain ⟨x5, e_x5, hb6⟩ := ob2 hb2
    refine Sx.o (fun _ _ _ k => op_getI fX12_256 dX12_passes0_24 e_x5 k) ?_
    refine Sx.o (fun _ _ _ k => op_iconst (1 : Int32) dX12_passes0_27 (by decide) k) ?_
    refine Sx.o (fun _ _ _ k => ex_iadd dX12_passes0_28 k) ?_
    obtain ⟨h7, e_h7, hb8⟩ := ob2 hb6
    refine Sx.p (pV_q e_h7) (fun _ _ _ k => op_put pX12_256 dX12_passes0_29 e_h7 (fun _ => rfl) (fun _ => rfl) k) ?_
    refine Sx.o (fun _ _ _ k => ex_iload_n dX12_passes0_32 rfl k) ?_
    obtain ⟨u10, e_u10, hb11⟩ := ob2 hb8
    obtain rfl := Option.some.inj hb11
    exact Sx.r (fun _ _ _ k => ex_zret rfl (nrZ_n e_u10) dX12_passes0_33 k)
set_option maxHeartbeats 1000000 in
set_option maxRecDepth 100000 in
theorem Ref_passes0_17_q {v0 : Nat} {s0 : Int32} {h : am_H} {r : (Int32 × am_H)} (hb : Ref_passes0_17 v0 s0 h = some r) : Eqs h r.2 := by
  unfold Ref_passes0_17 at hb
  have w0 := Eqs.rf h
  by_cases q : s0 = (0 : Int32)
  · have hb1 := ip q hb
    obtain ⟨u3, e_u3, hb4⟩ := ob2 hb1
    obtain rfl := Option.some.inj hb4
    exact w0
  · have hb2 := iq q hb
    obtain ⟨x5, e_x5, hb6⟩ := ob2 hb2
    obtain ⟨h7, e_h7, hb8⟩ := ob2 hb6
    have w9 := w0.tr (pV_q e_h7)
    obtain ⟨u10, e_u10, hb11⟩ := ob2 hb8
    obtain rfl := Option.some.inj hb11
    exact w9
set_option maxHeartbeats 1000000 in
set_option maxRecDepth 100000 in
noncomputable def Ref_passes0 (v0 : Nat) (v1 : Int32) (h : am_H) : Option (Int32 × am_H) := if isO h 12 v0 = true then (gI h 12 v0 21).bind fun x12 => (Ref_codeAt v0 x12 h).bind fun x14 => if x14 = v1 then Ref_passes0_17 v0 (1 : Int32) h else Ref_passes0_17 v0 (0 : Int32) h else none
set_option maxHeartbeats 1000000 in
set_option maxRecDepth 100000 in
theorem Ref_passes0_s {v0 : Nat} {v1 : Int32} {h : am_H} {r : (Int32 × am_H)} (hb : Ref_passes0 v0 v1 h = some r) : Sx 1 mX12_passes0 0 (am_en [.ref v0, .int v1] 3) [] h (some (.int r.1)) r.2 := by
  unfold Ref_passes0 at hb
  have hb := (iz hb).2
  show Sx 1 mX12_passes0 0 [.ref v0, .int v1, .retAddr 0] [] h (some (.int r.1)) r.2
  refine Sx.o (fun _ _ _ k => ex_aload_n dX12_passes0_0 rfl rfl k) ?_
  refine Sx.o (fun _ _ _ k => ex_aload_n dX12_passes0_1 rfl rfl k) ?_
  obtain ⟨x12, e_x12, hb13⟩ := ob2 hb
  refine Sx.o (fun _ _ _ k => op_getI fX12_256 dX12_passes0_2 e_x12 k) ?_
  obtain ⟨x14, e_x14, hb15⟩ := ob2 hb13
  refine sx_callV (dc := 0) (as := [.int x12]) (stq := [.int x14]) (by omega) dX12_passes0_5 MX12_codeAt kX12_259 iX12_codeAt sX12_codeAt rfl rfl (Ref_codeAt_o e_x14) rfl rfl (Nat.le_of_ble_eq_true rfl) (Nat.le_of_ble_eq_true rfl) (Ref_codeAt_s e_x14) rfl ?_
  refine Sx.o (fun _ _ _ k => ex_iload_n dX12_passes0_8 rfl k) ?_
  refine Sx.bn (fun _ _ _ k1 k2 => ex_icmp_ne 16 dX12_passes0_9 (by decide) k1 k2) (fun q => ?_) (fun q => ?_)
  · have hb16 := iq q hb15
    refine Sx.o (fun _ _ _ k => op_iconst (0 : Int32) dX12_passes0_16 (by decide) k) ?_
    refine Sx.fg [true, false, true] ?_
    exact Ref_passes0_17_s hb16
  · have hb17 := ip q hb15
    refine Sx.o (fun _ _ _ k => op_iconst (1 : Int32) dX12_passes0_12 (by decide) k) ?_
    refine Sx.o (fun _ _ _ k => ex_goto 17 dX12_passes0_13 (by decide) k) ?_
    refine Sx.fg [true, false, true] ?_
    exact Ref_passes0_17_s hb17
set_option maxHeartbeats 1000000 in
set_option maxRecDepth 100000 in
theorem Ref_passes0_q {v0 : Nat} {v1 : Int32} {h : am_H} {r : (Int32 × am_H)} (hb : Ref_passes0 v0 v1 h = some r) : Eqs h r.2 := by
  unfold Ref_passes0 at hb
  have hb := (iz hb).2
  have w0 := Eqs.rf h
  obtain ⟨x12, e_x12, hb13⟩ := ob2 hb
  obtain ⟨x14, e_x14, hb15⟩ := ob2 hb13
  by_cases q : x14 = v1
  · have hb17 := ip q hb15
    exact w0.tr (Ref_passes0_17_q hb17)
  · have hb16 := iq q hb15
    exact w0.tr (Ref_passes0_17_q hb16)
theorem Ref_passes0_o {v0 : Nat} {v1 : Int32} {h : am_H} {r : (Int32 × am_H)} (hb : Ref_passes0 v0 v1 h = some r) : isO h 12 v0 = true := by
  unfold Ref_passes0 at hb
  exact (iz hb).1
set_option maxHeartbeats 1000000 in
set_option maxRecDepth 100000 in
noncomputable def Ref_bounded_25 (v0 : Nat) (v1 : Int64) (h : am_H) : Option (Int64 × am_H) := (gI h 12 v0 23).bind fun x1 => if x1 = (0 : Int32) then some (v1, h) else some ((0 : Int64), h)
set_option maxHeartbeats 1000000 in
set_option maxRecDepth 100000 in
theorem Ref_bounded_25_s {v0 : Nat} {v1 : Int64} {h : am_H} {r : (Int64 × am_H)} (hb : Ref_bounded_25 v0 v1 h = some r) : Sx 0 mX12_bounded 25 [.ref v0, .long v1, .retAddr 0, .retAddr 0] [] h (some (.long r.1)) r.2 := by
  unfold Ref_bounded_25 at hb
  refine Sx.o (fun _ _ _ k => ex_aload_n dX12_bounded_25 rfl rfl k) ?_
  obtain ⟨x1, e_x1, hb2⟩ := ob2 hb
  refine Sx.o (fun _ _ _ k => op_getI fX12_266 dX12_bounded_26 e_x1 k) ?_
  refine Sx.b (fun _ _ _ k1 k2 => ex_if_eq 36 dX12_bounded_29 (by decide) k1 k2) (fun q => ?_) (fun q => ?_)
  · have hb3 := ip q hb2
    refine Sx.o (fun _ _ _ k => ex_lload_n dX12_bounded_36 rfl k) ?_
    obtain rfl := Option.some.inj hb3
    exact Sx.r (fun _ _ _ k => ex_lret rfl dX12_bounded_37 k)
  · have hb4 := iq q hb2
    refine Sx.o (fun _ _ _ k => op_lconst (0 : Int64) dX12_bounded_32 (by decide) k) ?_
    refine Sx.o (fun _ _ _ k => ex_goto 37 dX12_bounded_33 (by decide) k) ?_
    obtain rfl := Option.some.inj hb4
    exact Sx.r (fun _ _ _ k => ex_lret rfl dX12_bounded_37 k)
set_option maxHeartbeats 1000000 in
set_option maxRecDepth 100000 in
theorem Ref_bounded_25_q {v0 : Nat} {v1 : Int64} {h : am_H} {r : (Int64 × am_H)} (hb : Ref_bounded_25 v0 v1 h = some r) : Eqs h r.2 := by
  unfold Ref_bounded_25 at hb
  have w0 := Eqs.rf h
  obtain ⟨x1, e_x1, hb2⟩ := ob2 hb
  by_cases q : x1 = (0 : Int32)
  · have hb3 := ip q hb2
    obtain rfl := Option.some.inj hb3
    exact w0
  · have hb4 := iq q hb2
    obtain rfl := Option.some.inj hb4
    exact w0
set_option maxHeartbeats 1000000 in
set_option maxRecDepth 100000 in
noncomputable def Ref_bounded_20 (v0 : Nat) (v1 : Int64) (h : am_H) : Option (Int64 × am_H) := (pV h 12 v0 23 (.int (1 : Int32))).bind fun h5 => Ref_bounded_25 v0 v1 h5
set_option maxHeartbeats 1000000 in
set_option maxRecDepth 100000 in
theorem Ref_bounded_20_s {v0 : Nat} {v1 : Int64} {h : am_H} {r : (Int64 × am_H)} (hb : Ref_bounded_20 v0 v1 h = some r) : Sx 0 mX12_bounded 20 [.ref v0, .long v1, .retAddr 0, .retAddr 0] [] h (some (.long r.1)) r.2 := by
  unfold Ref_bounded_20 at hb
  refine Sx.o (fun _ _ _ k => ex_aload_n dX12_bounded_20 rfl rfl k) ?_
  refine Sx.o (fun _ _ _ k => op_iconst (1 : Int32) dX12_bounded_21 (by decide) k) ?_
  obtain ⟨h5, e_h5, hb6⟩ := ob2 hb
  refine Sx.p (pV_q e_h5) (fun _ _ _ k => op_put pX12_266 dX12_bounded_22 e_h5 (fun _ => rfl) (fun _ => rfl) k) ?_
  exact Ref_bounded_25_s hb6
set_option maxHeartbeats 1000000 in
set_option maxRecDepth 100000 in
theorem Ref_bounded_20_q {v0 : Nat} {v1 : Int64} {h : am_H} {r : (Int64 × am_H)} (hb : Ref_bounded_20 v0 v1 h = some r) : Eqs h r.2 := by
  unfold Ref_bounded_20 at hb
  have w0 := Eqs.rf h
  obtain ⟨h5, e_h5, hb6⟩ := ob2 hb
  have w7 := w0.tr (pV_q e_h5)
  exact w7.tr (Ref_bounded_25_q hb6)
set_option maxHeartbeats 1000000 in
set_option maxRecDepth 100000 in
noncomputable def Ref_bounded (v0 : Nat) (v1 : Int64) (v3 : Int32) (h : am_H) : Option (Int64 × am_H) := if isO h 12 v0 = true then if v3 = (0 : Int32) then Ref_bounded_25 v0 v1 h else if (0 : Int32) < (lg_cmp v1 (1000000000 : Int64)) then Ref_bounded_20 v0 v1 h else if (0 : Int32) ≤ (lg_cmp v1 (-1000000000 : Int64)) then Ref_bounded_25 v0 v1 h else Ref_bounded_20 v0 v1 h else none
set_option maxHeartbeats 1000000 in
set_option maxRecDepth 100000 in
theorem Ref_bounded_s {v0 : Nat} {v1 : Int64} {v3 : Int32} {h : am_H} {r : (Int64 × am_H)} (hb : Ref_bounded v0 v1 v3 h = some r) : Sx 0 mX12_bounded 0 (am_en [.ref v0, .long v1, .int v3] 4) [] h (some (.long r.1)) r.2 := by
  unfold Ref_bounded at hb
  have hb := (iz hb).2
  show Sx 0 mX12_bounded 0 [.ref v0, .long v1, .retAddr 0, .int v3] [] h (some (.long r.1)) r.2
  refine Sx.o (fun _ _ _ k => ex_iload_n dX12_bounded_0 rfl k) ?_
  refine Sx.b (fun _ _ _ k1 k2 => ex_if_eq 25 dX12_bounded_1 (by decide) k1 k2) (fun q => ?_) (fun q => ?_)
  · have hb8 := ip q hb
    refine Sx.fg [true, true, true, false] ?_
    exact Ref_bounded_25_s hb8
  · have hb9 := iq q hb
    refine Sx.o (fun _ _ _ k => ex_lload_n dX12_bounded_4 rfl k) ?_
    refine Sx.o (fun _ _ _ k => ex_ldc2 dX12_bounded_5 qX12_262 k) ?_
    refine Sx.o (fun _ _ _ k => ex_lcmp dX12_bounded_8 k) ?_
    refine Sx.b (fun _ _ _ k1 k2 => ex_if_gt 20 dX12_bounded_9 (by decide) k1 k2) (fun q => ?_) (fun q => ?_)
    · have hb10 := ip q hb9
      refine Sx.fg [true, true, true, false] ?_
      exact Ref_bounded_20_s hb10
    · have hb11 := iq q hb9
      refine Sx.o (fun _ _ _ k => ex_lload_n dX12_bounded_12 rfl k) ?_
      refine Sx.o (fun _ _ _ k => ex_ldc2 dX12_bounded_13 qX12_264 k) ?_
      refine Sx.o (fun _ _ _ k => ex_lcmp dX12_bounded_16 k) ?_
      refine Sx.b (fun _ _ _ k1 k2 => ex_if_ge 25 dX12_bounded_17 (by decide) k1 k2) (fun q => ?_) (fun q => ?_)
      · have hb12 := ip q hb11
        refine Sx.fg [true, true, true, false] ?_
        exact Ref_bounded_25_s hb12
      · have hb13 := iq q hb11
        refine Sx.fg [true, true, true, false] ?_
        exact Ref_bounded_20_s hb13
set_option maxHeartbeats 1000000 in
set_option maxRecDepth 100000 in
theorem Ref_bounded_q {v0 : Nat} {v1 : Int64} {v3 : Int32} {h : am_H} {r : (Int64 × am_H)} (hb : Ref_bounded v0 v1 v3 h = some r) : Eqs h r.2 := by
  unfold Ref_bounded at hb
  have hb := (iz hb).2
  have w0 := Eqs.rf h
  by_cases q : v3 = (0 : Int32)
  · have hb8 := ip q hb
    exact w0.tr (Ref_bounded_25_q hb8)
  · have hb9 := iq q hb
    by_cases q : (0 : Int32) < (lg_cmp v1 (1000000000 : Int64))
    · have hb10 := ip q hb9
      exact w0.tr (Ref_bounded_20_q hb10)
    · have hb11 := iq q hb9
      by_cases q : (0 : Int32) ≤ (lg_cmp v1 (-1000000000 : Int64))
      · have hb12 := ip q hb11
        exact w0.tr (Ref_bounded_25_q hb12)
      · have hb13 := iq q hb11
        exact w0.tr (Ref_bounded_20_q hb13)
theorem Ref_bounded_o {v0 : Nat} {v1 : Int64} {v3 : Int32} {h : am_H} {r : (Int64 × am_H)} (hb : Ref_bounded v0 v1 v3 h = some r) : isO h 12 v0 = true := by
  unfold Ref_bounded at hb
  exact (iz hb).1
set_option maxHeartbeats 1000000 in
set_option maxRecDepth 100000 in
noncomputable def Ref_sign (v0 : Int32) (h : am_H) : Option Int32 := some ((100 : Int32) + v0)
set_option maxHeartbeats 1000000 in
set_option maxRecDepth 100000 in
theorem Ref_sign_s {v0 : Int32} {h : am_H} {r : Int32} (hb : Ref_sign v0 h = some r) : Sx 0 mX12_sign 0 (am_en [.int v0] 1) [] h (some (.int r)) h := by
  unfold Ref_sign at hb
  show Sx 0 mX12_sign 0 [.int v0] [] h (some (.int r)) h
  refine Sx.o (fun _ _ _ k => op_bipush (100 : Int32) dX12_sign_0 (by decide) k) ?_
  refine Sx.o (fun _ _ _ k => ex_iload_n dX12_sign_2 rfl k) ?_
  refine Sx.o (fun _ _ _ k => ex_iadd dX12_sign_3 k) ?_
  obtain rfl := Option.some.inj hb
  exact Sx.r (fun _ _ _ k => ex_iret rfl dX12_sign_4 k)
set_option maxHeartbeats 1000000 in
set_option maxRecDepth 100000 in
noncomputable def Ref_placeOf (v0 : Int32) (h : am_H) : Option Int32 := some ((0 : Int32) + ((16 : Int32) * v0))
set_option maxHeartbeats 1000000 in
set_option maxRecDepth 100000 in
theorem Ref_placeOf_s {v0 : Int32} {h : am_H} {r : Int32} (hb : Ref_placeOf v0 h = some r) : Sx 0 mX12_placeOf 0 (am_en [.int v0] 1) [] h (some (.int r)) h := by
  unfold Ref_placeOf at hb
  show Sx 0 mX12_placeOf 0 [.int v0] [] h (some (.int r)) h
  refine Sx.o (fun _ _ _ k => op_iconst (0 : Int32) dX12_placeOf_0 (by decide) k) ?_
  refine Sx.o (fun _ _ _ k => op_bipush (16 : Int32) dX12_placeOf_1 (by decide) k) ?_
  refine Sx.o (fun _ _ _ k => ex_iload_n dX12_placeOf_3 rfl k) ?_
  refine Sx.o (fun _ _ _ k => ex_imul dX12_placeOf_4 k) ?_
  refine Sx.o (fun _ _ _ k => ex_iadd dX12_placeOf_5 k) ?_
  obtain rfl := Option.some.inj hb
  exact Sx.r (fun _ _ _ k => ex_iret rfl dX12_placeOf_6 k)
set_option maxHeartbeats 1000000 in
set_option maxRecDepth 100000 in
noncomputable def Ref_cardOf (v0 : Nat) (v1 : Int32) (v2 : Int32) (h : am_H) : Option Int32 := if isO h 12 v0 = true then (gR h 12 v0 2).bind fun x1 => (Ref_placeOf v1 h).bind fun x3 => (aI h 0 x1 ((x3 + (3 : Int32)) + v2)).bind fun x5 => some x5 else none
set_option maxHeartbeats 1000000 in
set_option maxRecDepth 100000 in
theorem Ref_cardOf_s {v0 : Nat} {v1 : Int32} {v2 : Int32} {h : am_H} {r : Int32} (hb : Ref_cardOf v0 v1 v2 h = some r) : Sx 1 mX12_cardOf 0 (am_en [.ref v0, .int v1, .int v2] 3) [] h (some (.int r)) h := by
  unfold Ref_cardOf at hb
  have hb := (iz hb).2
  show Sx 1 mX12_cardOf 0 [.ref v0, .int v1, .int v2] [] h (some (.int r)) h
  refine Sx.o (fun _ _ _ k => ex_aload_n dX12_cardOf_0 rfl rfl k) ?_
  obtain ⟨x1, e_x1, hb2⟩ := ob2 hb
  refine Sx.o (fun _ _ _ k => op_getR fX12_24 dX12_cardOf_1 e_x1 k) ?_
  refine Sx.o (fun _ _ _ k => ex_iload_n dX12_cardOf_4 rfl k) ?_
  obtain ⟨x3, e_x3, hb4⟩ := ob2 hb2
  refine sx_callS (dc := 0) (as := [.int v1]) (stq := [.int x3, .ref x1]) (by omega) dX12_cardOf_5 MX12_placeOf kX12_112 tX12_placeOf rfl rfl (Nat.le_of_ble_eq_true rfl) (Nat.le_of_ble_eq_true rfl) (Ref_placeOf_s e_x3) rfl ?_
  refine Sx.o (fun _ _ _ k => op_iconst (3 : Int32) dX12_cardOf_8 (by decide) k) ?_
  refine Sx.o (fun _ _ _ k => ex_iadd dX12_cardOf_9 k) ?_
  refine Sx.o (fun _ _ _ k => ex_iload_n dX12_cardOf_10 rfl k) ?_
  refine Sx.o (fun _ _ _ k => ex_iadd dX12_cardOf_11 k) ?_
  obtain ⟨x5, e_x5, hb6⟩ := ob2 hb4
  refine Sx.o (fun _ _ _ k => op_iald dX12_cardOf_12 e_x5 k) ?_
  obtain rfl := Option.some.inj hb6
  exact Sx.r (fun _ _ _ k => ex_iret rfl dX12_cardOf_13 k)
theorem Ref_cardOf_o {v0 : Nat} {v1 : Int32} {v2 : Int32} {h : am_H} {r : Int32} (hb : Ref_cardOf v0 v1 v2 h = some r) : isO h 12 v0 = true := by
  unfold Ref_cardOf at hb
  exact (iz hb).1
set_option maxHeartbeats 1000000 in
set_option maxRecDepth 100000 in
noncomputable def Ref_lies (v0 : Int32) (v1 : Int32) (v2 : Int32) (h : am_H) : Option Int32 := if v0 < v1 then some (0 : Int32) else if v2 < v0 then some (0 : Int32) else some (1 : Int32)
set_option maxHeartbeats 1000000 in
set_option maxRecDepth 100000 in
theorem Ref_lies_s {v0 : Int32} {v1 : Int32} {v2 : Int32} {h : am_H} {r : Int32} (hb : Ref_lies v0 v1 v2 h = some r) : Sx 0 mX12_lies 0 (am_en [.int v0, .int v1, .int v2] 3) [] h (some (.int r)) h := by
  unfold Ref_lies at hb
  show Sx 0 mX12_lies 0 [.int v0, .int v1, .int v2] [] h (some (.int r)) h
  refine Sx.o (fun _ _ _ k => ex_iload_n dX12_lies_0 rfl k) ?_
  refine Sx.o (fun _ _ _ k => ex_iload_n dX12_lies_1 rfl k) ?_
  refine Sx.b (fun _ _ _ k1 k2 => ex_icmp_lt 14 dX12_lies_2 (by decide) k1 k2) (fun q => ?_) (fun q => ?_)
  · have hb1 := ip q hb
    refine Sx.o (fun _ _ _ k => op_iconst (0 : Int32) dX12_lies_14 (by decide) k) ?_
    obtain rfl := Option.some.inj hb1
    exact Sx.r (fun _ _ _ k => ex_zret rfl rfl dX12_lies_15 k)
  · have hb2 := iq q hb
    refine Sx.o (fun _ _ _ k => ex_iload_n dX12_lies_5 rfl k) ?_
    refine Sx.o (fun _ _ _ k => ex_iload_n dX12_lies_6 rfl k) ?_
    refine Sx.b (fun _ _ _ k1 k2 => ex_icmp_gt 14 dX12_lies_7 (by decide) k1 k2) (fun q => ?_) (fun q => ?_)
    · have hb3 := ip q hb2
      refine Sx.o (fun _ _ _ k => op_iconst (0 : Int32) dX12_lies_14 (by decide) k) ?_
      obtain rfl := Option.some.inj hb3
      exact Sx.r (fun _ _ _ k => ex_zret rfl rfl dX12_lies_15 k)
    · have hb4 := iq q hb2
      refine Sx.o (fun _ _ _ k => op_iconst (1 : Int32) dX12_lies_10 (by decide) k) ?_
      refine Sx.o (fun _ _ _ k => ex_goto 15 dX12_lies_11 (by decide) k) ?_
      obtain rfl := Option.some.inj hb4
      exact Sx.r (fun _ _ _ k => ex_zret rfl rfl dX12_lies_15 k)
set_option maxHeartbeats 1000000 in
set_option maxRecDepth 100000 in
noncomputable def Ref_isHeap (v0 : Nat) (v1 : Int32) (h : am_H) : Option Int32 := if isO h 12 v0 = true then (gR h 12 v0 2).bind fun x1 => (aI h 0 x1 (96 : Int32)).bind fun x3 => (Ref_lies v1 (0 : Int32) (x3 - (1 : Int32)) h).bind fun x5 => (nrZ x5).bind fun u7 => some x5 else none
set_option maxHeartbeats 1000000 in
set_option maxRecDepth 100000 in
theorem Ref_isHeap_s {v0 : Nat} {v1 : Int32} {h : am_H} {r : Int32} (hb : Ref_isHeap v0 v1 h = some r) : Sx 1 mX12_isHeap 0 (am_en [.ref v0, .int v1] 2) [] h (some (.int r)) h := by
  unfold Ref_isHeap at hb
  have hb := (iz hb).2
  show Sx 1 mX12_isHeap 0 [.ref v0, .int v1] [] h (some (.int r)) h
  refine Sx.o (fun _ _ _ k => ex_iload_n dX12_isHeap_0 rfl k) ?_
  refine Sx.o (fun _ _ _ k => op_iconst (0 : Int32) dX12_isHeap_1 (by decide) k) ?_
  refine Sx.o (fun _ _ _ k => ex_aload_n dX12_isHeap_2 rfl rfl k) ?_
  obtain ⟨x1, e_x1, hb2⟩ := ob2 hb
  refine Sx.o (fun _ _ _ k => op_getR fX12_24 dX12_isHeap_3 e_x1 k) ?_
  refine Sx.o (fun _ _ _ k => op_bipush (96 : Int32) dX12_isHeap_6 (by decide) k) ?_
  obtain ⟨x3, e_x3, hb4⟩ := ob2 hb2
  refine Sx.o (fun _ _ _ k => op_iald dX12_isHeap_8 e_x3 k) ?_
  refine Sx.o (fun _ _ _ k => op_iconst (1 : Int32) dX12_isHeap_9 (by decide) k) ?_
  refine Sx.o (fun _ _ _ k => ex_isub dX12_isHeap_10 k) ?_
  obtain ⟨x5, e_x5, hb6⟩ := ob2 hb4
  refine sx_callS (dc := 0) (as := [.int v1, .int (0 : Int32), .int (x3 - (1 : Int32))]) (stq := [.int x5]) (by omega) dX12_isHeap_11 MX12_lies kX12_102 tX12_lies rfl rfl (Nat.le_of_ble_eq_true rfl) (Nat.le_of_ble_eq_true rfl) (Ref_lies_s e_x5) rfl ?_
  obtain ⟨u7, e_u7, hb8⟩ := ob2 hb6
  obtain rfl := Option.some.inj hb8
  exact Sx.r (fun _ _ _ k => ex_zret rfl (nrZ_n e_u7) dX12_isHeap_14 k)
theorem Ref_isHeap_o {v0 : Nat} {v1 : Int32} {h : am_H} {r : Int32} (hb : Ref_isHeap v0 v1 h = some r) : isO h 12 v0 = true := by
  unfold Ref_isHeap at hb
  exact (iz hb).1
set_option maxHeartbeats 1000000 in
set_option maxRecDepth 100000 in
noncomputable def Ref_heapValue (v0 : Nat) (v1 : Int32) (v2 : Int32) (h : am_H) : Option Int32 := if isO h 12 v0 = true then (Ref_isHeap v0 v2 h).bind fun x1 => if x1 = (0 : Int32) then some (-1 : Int32) else if v1 = (14 : Int32) then (Ref_cardOf v0 v2 (0 : Int32) h).bind fun x17 => some x17 else (gR h 12 v0 2).bind fun x7 => (Ref_placeOf v2 h).bind fun x9 => if v1 = (15 : Int32) then (aI h 0 x7 (x9 + (0 : Int32))).bind fun x15 => some x15 else (aI h 0 x7 (x9 + (1 : Int32))).bind fun x13 => some x13 else none
set_option maxHeartbeats 1000000 in
set_option maxRecDepth 100000 in
theorem Ref_heapValue_s {v0 : Nat} {v1 : Int32} {v2 : Int32} {h : am_H} {r : Int32} (hb : Ref_heapValue v0 v1 v2 h = some r) : Sx 2 mX12_heapValue 0 (am_en [.ref v0, .int v1, .int v2] 3) [] h (some (.int r)) h := by
  unfold Ref_heapValue at hb
  have hb := (iz hb).2
  show Sx 2 mX12_heapValue 0 [.ref v0, .int v1, .int v2] [] h (some (.int r)) h
  refine Sx.o (fun _ _ _ k => ex_aload_n dX12_heapValue_0 rfl rfl k) ?_
  refine Sx.o (fun _ _ _ k => ex_iload_n dX12_heapValue_1 rfl k) ?_
  obtain ⟨x1, e_x1, hb2⟩ := ob2 hb
  refine sx_callV (dc := 1) (as := [.int v2]) (stq := [.int x1]) (by omega) dX12_heapValue_2 MX12_isHeap kX12_122 iX12_isHeap sX12_isHeap rfl rfl (Ref_isHeap_o e_x1) rfl rfl (Nat.le_of_ble_eq_true rfl) (Nat.le_of_ble_eq_true rfl) (Ref_isHeap_s e_x1) rfl ?_
  refine Sx.bn (fun _ _ _ k1 k2 => ex_if_ne 10 dX12_heapValue_5 (by decide) k1 k2) (fun q => ?_) (fun q => ?_)
  · have hb3 := iq q hb2
    refine Sx.o (fun _ _ _ k => ex_iload_n dX12_heapValue_10 rfl k) ?_
    refine Sx.o (fun _ _ _ k => op_bipush (14 : Int32) dX12_heapValue_11 (by decide) k) ?_
    refine Sx.bn (fun _ _ _ k1 k2 => ex_icmp_ne 25 dX12_heapValue_13 (by decide) k1 k2) (fun q => ?_) (fun q => ?_)
    · have hb5 := iq q hb3
      refine Sx.o (fun _ _ _ k => ex_aload_n dX12_heapValue_25 rfl rfl k) ?_
      obtain ⟨x7, e_x7, hb8⟩ := ob2 hb5
      refine Sx.o (fun _ _ _ k => op_getR fX12_24 dX12_heapValue_26 e_x7 k) ?_
      refine Sx.o (fun _ _ _ k => ex_iload_n dX12_heapValue_29 rfl k) ?_
      obtain ⟨x9, e_x9, hb10⟩ := ob2 hb8
      refine sx_callS (dc := 0) (as := [.int v2]) (stq := [.int x9, .ref x7]) (by omega) dX12_heapValue_30 MX12_placeOf kX12_112 tX12_placeOf rfl rfl (Nat.le_of_ble_eq_true rfl) (Nat.le_of_ble_eq_true rfl) (Ref_placeOf_s e_x9) rfl ?_
      refine Sx.o (fun _ _ _ k => ex_iload_n dX12_heapValue_33 rfl k) ?_
      refine Sx.o (fun _ _ _ k => op_bipush (15 : Int32) dX12_heapValue_34 (by decide) k) ?_
      refine Sx.bn (fun _ _ _ k1 k2 => ex_icmp_ne 43 dX12_heapValue_36 (by decide) k1 k2) (fun q => ?_) (fun q => ?_)
      · have hb11 := iq q hb10
        refine Sx.o (fun _ _ _ k => op_iconst (1 : Int32) dX12_heapValue_43 (by decide) k) ?_
        refine Sx.o (fun _ _ _ k => ex_iadd dX12_heapValue_44 k) ?_
        obtain ⟨x13, e_x13, hb14⟩ := ob2 hb11
        refine Sx.o (fun _ _ _ k => op_iald dX12_heapValue_45 e_x13 k) ?_
        obtain rfl := Option.some.inj hb14
        exact Sx.r (fun _ _ _ k => ex_iret rfl dX12_heapValue_46 k)
      · have hb12 := ip q hb10
        refine Sx.o (fun _ _ _ k => op_iconst (0 : Int32) dX12_heapValue_39 (by decide) k) ?_
        refine Sx.o (fun _ _ _ k => ex_goto 44 dX12_heapValue_40 (by decide) k) ?_
        refine Sx.o (fun _ _ _ k => ex_iadd dX12_heapValue_44 k) ?_
        obtain ⟨x15, e_x15, hb16⟩ := ob2 hb12
        refine Sx.o (fun _ _ _ k => op_iald dX12_heapValue_45 e_x15 k) ?_
        obtain rfl := Option.some.inj hb16
        exact Sx.r (fun _ _ _ k => ex_iret rfl dX12_heapValue_46 k)
    · have hb6 := ip q hb3
      refine Sx.o (fun _ _ _ k => ex_aload_n dX12_heapValue_16 rfl rfl k) ?_
      refine Sx.o (fun _ _ _ k => ex_iload_n dX12_heapValue_17 rfl k) ?_
      refine Sx.o (fun _ _ _ k => op_iconst (0 : Int32) dX12_heapValue_18 (by decide) k) ?_
      obtain ⟨x17, e_x17, hb18⟩ := ob2 hb6
      refine sx_callV (dc := 1) (as := [.int v2, .int (0 : Int32)]) (stq := [.int x17]) (by omega) dX12_heapValue_19 MX12_cardOf kX12_280 iX12_cardOf sX12_cardOf rfl rfl (Ref_cardOf_o e_x17) rfl rfl (Nat.le_of_ble_eq_true rfl) (Nat.le_of_ble_eq_true rfl) (Ref_cardOf_s e_x17) rfl ?_
      refine Sx.o (fun _ _ _ k => ex_goto 46 dX12_heapValue_22 (by decide) k) ?_
      obtain rfl := Option.some.inj hb18
      exact Sx.r (fun _ _ _ k => ex_iret rfl dX12_heapValue_46 k)
  · have hb4 := ip q hb2
    refine Sx.o (fun _ _ _ k => op_iconst (-1 : Int32) dX12_heapValue_8 (by decide) k) ?_
    obtain rfl := Option.some.inj hb4
    exact Sx.r (fun _ _ _ k => ex_iret rfl dX12_heapValue_9 k)
theorem Ref_heapValue_o {v0 : Nat} {v1 : Int32} {v2 : Int32} {h : am_H} {r : Int32} (hb : Ref_heapValue v0 v1 v2 h = some r) : isO h 12 v0 = true := by
  unfold Ref_heapValue at hb
  exact (iz hb).1
set_option maxHeartbeats 1000000 in
set_option maxRecDepth 100000 in
noncomputable def Ref_isOfHeap (v0 : Int32) (h : am_H) : Option Int32 := if v0 = (14 : Int32) then some (1 : Int32) else if v0 = (15 : Int32) then some (1 : Int32) else if v0 = (19 : Int32) then some (1 : Int32) else some (0 : Int32)
set_option maxHeartbeats 1000000 in
set_option maxRecDepth 100000 in
theorem Ref_isOfHeap_s {v0 : Int32} {h : am_H} {r : Int32} (hb : Ref_isOfHeap v0 h = some r) : Sx 0 mX12_isOfHeap 0 (am_en [.int v0] 1) [] h (some (.int r)) h := by
  unfold Ref_isOfHeap at hb
  show Sx 0 mX12_isOfHeap 0 [.int v0] [] h (some (.int r)) h
  refine Sx.o (fun _ _ _ k => ex_iload_n dX12_isOfHeap_0 rfl k) ?_
  refine Sx.o (fun _ _ _ k => op_bipush (14 : Int32) dX12_isOfHeap_1 (by decide) k) ?_
  refine Sx.b (fun _ _ _ k1 k2 => ex_icmp_eq 18 dX12_isOfHeap_3 (by decide) k1 k2) (fun q => ?_) (fun q => ?_)
  · have hb1 := ip q hb
    refine Sx.o (fun _ _ _ k => op_iconst (1 : Int32) dX12_isOfHeap_18 (by decide) k) ?_
    refine Sx.o (fun _ _ _ k => ex_goto 23 dX12_isOfHeap_19 (by decide) k) ?_
    obtain rfl := Option.some.inj hb1
    exact Sx.r (fun _ _ _ k => ex_zret rfl rfl dX12_isOfHeap_23 k)
  · have hb2 := iq q hb
    refine Sx.o (fun _ _ _ k => ex_iload_n dX12_isOfHeap_6 rfl k) ?_
    refine Sx.o (fun _ _ _ k => op_bipush (15 : Int32) dX12_isOfHeap_7 (by decide) k) ?_
    refine Sx.b (fun _ _ _ k1 k2 => ex_icmp_eq 18 dX12_isOfHeap_9 (by decide) k1 k2) (fun q => ?_) (fun q => ?_)
    · have hb3 := ip q hb2
      refine Sx.o (fun _ _ _ k => op_iconst (1 : Int32) dX12_isOfHeap_18 (by decide) k) ?_
      refine Sx.o (fun _ _ _ k => ex_goto 23 dX12_isOfHeap_19 (by decide) k) ?_
      obtain rfl := Option.some.inj hb3
      exact Sx.r (fun _ _ _ k => ex_zret rfl rfl dX12_isOfHeap_23 k)
    · have hb4 := iq q hb2
      refine Sx.o (fun _ _ _ k => ex_iload_n dX12_isOfHeap_12 rfl k) ?_
      refine Sx.o (fun _ _ _ k => op_bipush (19 : Int32) dX12_isOfHeap_13 (by decide) k) ?_
      refine Sx.bn (fun _ _ _ k1 k2 => ex_icmp_ne 22 dX12_isOfHeap_15 (by decide) k1 k2) (fun q => ?_) (fun q => ?_)
      · have hb5 := iq q hb4
        refine Sx.o (fun _ _ _ k => op_iconst (0 : Int32) dX12_isOfHeap_22 (by decide) k) ?_
        obtain rfl := Option.some.inj hb5
        exact Sx.r (fun _ _ _ k => ex_zret rfl rfl dX12_isOfHeap_23 k)
      · have hb6 := ip q hb4
        refine Sx.o (fun _ _ _ k => op_iconst (1 : Int32) dX12_isOfHeap_18 (by decide) k) ?_
        refine Sx.o (fun _ _ _ k => ex_goto 23 dX12_isOfHeap_19 (by decide) k) ?_
        obtain rfl := Option.some.inj hb6
        exact Sx.r (fun _ _ _ k => ex_zret rfl rfl dX12_isOfHeap_23 k)
set_option maxHeartbeats 1000000 in
set_option maxRecDepth 100000 in
noncomputable def Ref_partOf_b (g : (Nat × Nat × Int32 × Int32 × Int32 × Int64 × Int64 × Nat × Nat × am_H) → Option (Int64 × am_H)) (dd : Nat) (v0 : Nat) (v1 : Int32) (h : am_H) : Option (Int64 × am_H) := if isO h 12 v0 = true then (Ref_sign (91 : Int32) h).bind fun x1 => (Ref_passes0 v0 x1 h).bind fun r3 => if r3.1 = (0 : Int32) then (gI r3.2 12 v0 21).bind fun x8 => (Ref_codeAt v0 x8 r3.2).bind fun x10 => (gI r3.2 12 v0 21).bind fun x12 => (pV r3.2 12 v0 21 (.int (x12 + (1 : Int32)))).bind fun h14 => (gI h14 12 v0 24).bind fun x17 => if x17 = (0 : Int32) then g (89, dd, v1, x10, (0 : Int32), 0, 0, v0, 0, h14) else (Ref_isOfHeap x10 h14).bind fun x21 => if x21 = (0 : Int32) then g (89, dd, v1, x10, (0 : Int32), 0, 0, v0, 0, h14) else (gR h14 12 v0 2).bind fun x25 => (gI h14 12 v0 21).bind fun x27 => (aI h14 0 x25 ((2925 : Int32) + x27)).bind fun x29 => (gI h14 12 v0 21).bind fun x31 => (pV h14 12 v0 21 (.int (x31 + (1 : Int32)))).bind fun h33 => g (89, dd, v1, x10, x29, 0, 0, v0, 0, h33) else (if 0 < dd then g (20000, dd - 1, v1, 0, 0, 0, 0, v0, 0, r3.2) else none).bind fun r36 => (gI r36.2 12 v0 21).bind fun x39 => (pV r36.2 12 v0 21 (.int (x39 + (1 : Int32)))).bind fun h41 => some (r36.1, h41) else none
set_option maxHeartbeats 1000000 in
set_option maxRecDepth 100000 in
theorem Ref_partOf_m {g g2 : (Nat × Nat × Int32 × Int32 × Int32 × Int64 × Int64 × Nat × Nat × am_H) → Option (Int64 × am_H)} (hg : ∀ s, Le (g s) (g2 s)) (dd : Nat) (v0 : Nat) (v1 : Int32) (h : am_H) : Le (Ref_partOf_b g dd v0 v1 h) (Ref_partOf_b g2 dd v0 v1 h) := by unfold Ref_partOf_b; exact le_i (le_b (le_r _) fun x1 => le_b (le_r _) fun r3 => le_i (le_b (le_r _) fun x8 => le_b (le_r _) fun x10 => le_b (le_r _) fun x12 => le_b (le_r _) fun h14 => le_b (le_r _) fun x17 => le_i (hg _) (le_b (le_r _) fun x21 => le_i (hg _) (le_b (le_r _) fun x25 => le_b (le_r _) fun x27 => le_b (le_r _) fun x29 => le_b (le_r _) fun x31 => le_b (le_r _) fun h33 => hg _))) (le_b (le_i (hg _) (le_r _)) fun r36 => le_r _)) (le_r _)
set_option maxHeartbeats 1000000 in
set_option maxRecDepth 100000 in
noncomputable def Ref_partOf_89_b (g : (Nat × Nat × Int32 × Int32 × Int32 × Int64 × Int64 × Nat × Nat × am_H) → Option (Int64 × am_H)) (dd : Nat) (v0 : Nat) (v1 : Int32) (v2 : Int32) (v3 : Int32) (h : am_H) : Option (Int64 × am_H) := if v1 = (0 : Int32) then some ((0 : Int64), h) else (gI h 12 v0 23).bind fun x46 => if x46 = (0 : Int32) then if v2 = (50 : Int32) then (gR h 12 v0 2).bind fun x70 => (gI h 12 v0 21).bind fun x72 => (aI h 0 x70 (((2925 : Int32) + x72) - (1 : Int32))).bind fun x74 => some (Int32.toInt64 x74, h) else (gI h 12 v0 24).bind fun x52 => if x52 = (0 : Int32) then (gR h 12 v0 27).bind fun x66 => (aI h 0 x66 (v2 - (8 : Int32))).bind fun x68 => some (Int32.toInt64 x68, h) else (Ref_isOfHeap v2 h).bind fun x56 => if x56 = (0 : Int32) then (gR h 12 v0 28).bind fun x60 => (aI h 0 x60 (v2 - (16 : Int32))).bind fun x62 => some (Int32.toInt64 x62, h) else (Ref_heapValue v0 v2 v3 h).bind fun x64 => some (Int32.toInt64 x64, h) else some ((0 : Int64), h)
set_option maxHeartbeats 1000000 in
set_option maxRecDepth 100000 in
theorem Ref_partOf_89_m {g g2 : (Nat × Nat × Int32 × Int32 × Int32 × Int64 × Int64 × Nat × Nat × am_H) → Option (Int64 × am_H)} (hg : ∀ s, Le (g s) (g2 s)) (dd : Nat) (v0 : Nat) (v1 : Int32) (v2 : Int32) (v3 : Int32) (h : am_H) : Le (Ref_partOf_89_b g dd v0 v1 v2 v3 h) (Ref_partOf_89_b g2 dd v0 v1 v2 v3 h) := by unfold Ref_partOf_89_b; exact le_r _
set_option maxHeartbeats 1000000 in
set_option maxRecDepth 100000 in
noncomputable def Ref_termOf_b (g : (Nat × Nat × Int32 × Int32 × Int32 × Int64 × Int64 × Nat × Nat × am_H) → Option (Int64 × am_H)) (dd : Nat) (v0 : Nat) (v1 : Int32) (h : am_H) : Option (Int64 × am_H) := if isO h 12 v0 = true then (if 0 < dd then g (0, dd - 1, v1, 0, 0, 0, 0, v0, 0, h) else none).bind fun r76 => g (10006, dd, v1, 0, 0, r76.1, 0, v0, 0, r76.2) else none
set_option maxHeartbeats 1000000 in
set_option maxRecDepth 100000 in
theorem Ref_termOf_m {g g2 : (Nat × Nat × Int32 × Int32 × Int32 × Int64 × Int64 × Nat × Nat × am_H) → Option (Int64 × am_H)} (hg : ∀ s, Le (g s) (g2 s)) (dd : Nat) (v0 : Nat) (v1 : Int32) (h : am_H) : Le (Ref_termOf_b g dd v0 v1 h) (Ref_termOf_b g2 dd v0 v1 h) := by unfold Ref_termOf_b; exact le_i (le_b (le_i (hg _) (le_r _)) fun r76 => hg _) (le_r _)
set_option maxHeartbeats 1000000 in
set_option maxRecDepth 100000 in
noncomputable def Ref_termOf_6_b (g : (Nat × Nat × Int32 × Int32 × Int32 × Int64 × Int64 × Nat × Nat × am_H) → Option (Int64 × am_H)) (dd : Nat) (v0 : Nat) (v1 : Int32) (v2 : Int64) (h : am_H) : Option (Int64 × am_H) := (gI h 12 v0 21).bind fun x79 => (Ref_codeAt v0 x79 h).bind fun x81 => (Ref_sign (42 : Int32) h).bind fun x83 => if x81 = x83 then g (10054, dd, v1, 0, 0, v2, 0, v0, 0, h) else (gI h 12 v0 21).bind fun x87 => (Ref_codeAt v0 x87 h).bind fun x89 => (Ref_sign (47 : Int32) h).bind fun x91 => if x89 = x91 then g (10054, dd, v1, 0, 0, v2, 0, v0, 0, h) else (gI h 12 v0 21).bind fun x95 => (Ref_codeAt v0 x95 h).bind fun x97 => (Ref_sign (37 : Int32) h).bind fun x99 => if x97 = x99 then g (10054, dd, v1, 0, 0, v2, 0, v0, 0, h) else some (v2, h)
set_option maxHeartbeats 1000000 in
set_option maxRecDepth 100000 in
theorem Ref_termOf_6_m {g g2 : (Nat × Nat × Int32 × Int32 × Int32 × Int64 × Int64 × Nat × Nat × am_H) → Option (Int64 × am_H)} (hg : ∀ s, Le (g s) (g2 s)) (dd : Nat) (v0 : Nat) (v1 : Int32) (v2 : Int64) (h : am_H) : Le (Ref_termOf_6_b g dd v0 v1 v2 h) (Ref_termOf_6_b g2 dd v0 v1 v2 h) := by unfold Ref_termOf_6_b; exact le_b (le_r _) fun x79 => le_b (le_r _) fun x81 => le_b (le_r _) fun x83 => le_i (hg _) (le_b (le_r _) fun x87 => le_b (le_r _) fun x89 => le_b (le_r _) fun x91 => le_i (hg _) (le_b (le_r _) fun x95 => le_b (le_r _) fun x97 => le_b (le_r _) fun x99 => le_i (hg _) (le_r _)))
set_option maxHeartbeats 1000000 in
set_option maxRecDepth 100000 in
noncomputable def Ref_termOf_54_b (g : (Nat × Nat × Int32 × Int32 × Int32 × Int64 × Int64 × Nat × Nat × am_H) → Option (Int64 × am_H)) (dd : Nat) (v0 : Nat) (v1 : Int32) (v2 : Int64) (h : am_H) : Option (Int64 × am_H) := (gI h 12 v0 21).bind fun x103 => (Ref_codeAt v0 x103 h).bind fun x105 => (gI h 12 v0 21).bind fun x107 => (pV h 12 v0 21 (.int (x107 + (1 : Int32)))).bind fun h109 => (if 0 < dd then g (0, dd - 1, v1, 0, 0, 0, 0, v0, 0, h109) else none).bind fun r112 => (Ref_sign (42 : Int32) r112.2).bind fun x115 => if x105 = x115 then g (10121, dd, v1, x105, 0, v2, r112.1, v0, 0, r112.2) else if (lg_cmp r112.1 (0 : Int64)) = (0 : Int32) then (gI r112.2 12 v0 23).bind fun x121 => if x121 = (0 : Int32) then if v1 = (0 : Int32) then g (10115, dd, v1, x105, (0 : Int32), v2, 0, v0, v0, r112.2) else g (10110, dd, v1, x105, 0, v2, 0, v0, v0, r112.2) else g (10110, dd, v1, x105, 0, v2, 0, v0, v0, r112.2) else g (10121, dd, v1, x105, 0, v2, r112.1, v0, 0, r112.2)
set_option maxHeartbeats 1000000 in
set_option maxRecDepth 100000 in
theorem Ref_termOf_54_m {g g2 : (Nat × Nat × Int32 × Int32 × Int32 × Int64 × Int64 × Nat × Nat × am_H) → Option (Int64 × am_H)} (hg : ∀ s, Le (g s) (g2 s)) (dd : Nat) (v0 : Nat) (v1 : Int32) (v2 : Int64) (h : am_H) : Le (Ref_termOf_54_b g dd v0 v1 v2 h) (Ref_termOf_54_b g2 dd v0 v1 v2 h) := by unfold Ref_termOf_54_b; exact le_b (le_r _) fun x103 => le_b (le_r _) fun x105 => le_b (le_r _) fun x107 => le_b (le_r _) fun h109 => le_b (le_i (hg _) (le_r _)) fun r112 => le_b (le_r _) fun x115 => le_i (hg _) (le_i (le_b (le_r _) fun x121 => le_i (le_i (hg _) (hg _)) (hg _)) (hg _))
set_option maxHeartbeats 1000000 in
set_option maxRecDepth 100000 in
noncomputable def Ref_termOf_110_b (g : (Nat × Nat × Int32 × Int32 × Int32 × Int64 × Int64 × Nat × Nat × am_H) → Option (Int64 × am_H)) (dd : Nat) (v0 : Nat) (v1 : Int32) (v2 : Int64) (v4 : Int32) (s0 : Nat) (h : am_H) : Option (Int64 × am_H) := g (10115, dd, v1, v4, (1 : Int32), v2, 0, v0, s0, h)
set_option maxHeartbeats 1000000 in
set_option maxRecDepth 100000 in
theorem Ref_termOf_110_m {g g2 : (Nat × Nat × Int32 × Int32 × Int32 × Int64 × Int64 × Nat × Nat × am_H) → Option (Int64 × am_H)} (hg : ∀ s, Le (g s) (g2 s)) (dd : Nat) (v0 : Nat) (v1 : Int32) (v2 : Int64) (v4 : Int32) (s0 : Nat) (h : am_H) : Le (Ref_termOf_110_b g dd v0 v1 v2 v4 s0 h) (Ref_termOf_110_b g2 dd v0 v1 v2 v4 s0 h) := by unfold Ref_termOf_110_b; exact hg _
set_option maxHeartbeats 1000000 in
set_option maxRecDepth 100000 in
noncomputable def Ref_termOf_115_b (g : (Nat × Nat × Int32 × Int32 × Int32 × Int64 × Int64 × Nat × Nat × am_H) → Option (Int64 × am_H)) (dd : Nat) (v0 : Nat) (v1 : Int32) (v2 : Int64) (v4 : Int32) (s0 : Int32) (s1 : Nat) (h : am_H) : Option (Int64 × am_H) := (nrZ s0).bind fun u127 => (pV h 12 s1 23 (.int s0)).bind fun h129 => g (10121, dd, v1, v4, 0, v2, (1 : Int64), v0, 0, h129)
set_option maxHeartbeats 1000000 in
set_option maxRecDepth 100000 in
theorem Ref_termOf_115_m {g g2 : (Nat × Nat × Int32 × Int32 × Int32 × Int64 × Int64 × Nat × Nat × am_H) → Option (Int64 × am_H)} (hg : ∀ s, Le (g s) (g2 s)) (dd : Nat) (v0 : Nat) (v1 : Int32) (v2 : Int64) (v4 : Int32) (s0 : Int32) (s1 : Nat) (h : am_H) : Le (Ref_termOf_115_b g dd v0 v1 v2 v4 s0 s1 h) (Ref_termOf_115_b g2 dd v0 v1 v2 v4 s0 s1 h) := by unfold Ref_termOf_115_b; exact le_b (le_r _) fun u127 => le_b (le_r _) fun h129 => hg _
set_option maxHeartbeats 1000000 in
set_option maxRecDepth 100000 in
noncomputable def Ref_termOf_121_b (g : (Nat × Nat × Int32 × Int32 × Int32 × Int64 × Int64 × Nat × Nat × am_H) → Option (Int64 × am_H)) (dd : Nat) (v0 : Nat) (v1 : Int32) (v2 : Int64) (v4 : Int32) (v5 : Int64) (h : am_H) : Option (Int64 × am_H) := (Ref_sign (42 : Int32) h).bind fun x132 => if v4 = x132 then g (10160, dd, v1, 0, 0, (v2 * v5), 0, v0, v0, h) else (Ref_sign (47 : Int32) h).bind fun x136 => if v4 = x136 then (dvJ v2 v5).bind fun x142 => g (10160, dd, v1, 0, 0, x142, 0, v0, v0, h) else (rmJ v2 v5).bind fun x140 => g (10160, dd, v1, 0, 0, x140, 0, v0, v0, h)
set_option maxHeartbeats 1000000 in
set_option maxRecDepth 100000 in
theorem Ref_termOf_121_m {g g2 : (Nat × Nat × Int32 × Int32 × Int32 × Int64 × Int64 × Nat × Nat × am_H) → Option (Int64 × am_H)} (hg : ∀ s, Le (g s) (g2 s)) (dd : Nat) (v0 : Nat) (v1 : Int32) (v2 : Int64) (v4 : Int32) (v5 : Int64) (h : am_H) : Le (Ref_termOf_121_b g dd v0 v1 v2 v4 v5 h) (Ref_termOf_121_b g2 dd v0 v1 v2 v4 v5 h) := by unfold Ref_termOf_121_b; exact le_b (le_r _) fun x132 => le_i (hg _) (le_b (le_r _) fun x136 => le_i (le_b (le_r _) fun x142 => hg _) (le_b (le_r _) fun x140 => hg _))
set_option maxHeartbeats 1000000 in
set_option maxRecDepth 100000 in
noncomputable def Ref_termOf_160_b (g : (Nat × Nat × Int32 × Int32 × Int32 × Int64 × Int64 × Nat × Nat × am_H) → Option (Int64 × am_H)) (dd : Nat) (v0 : Nat) (v1 : Int32) (s0 : Int64) (s1 : Nat) (h : am_H) : Option (Int64 × am_H) := (Ref_bounded s1 s0 v1 h).bind fun r144 => g (10006, dd, v1, 0, 0, r144.1, 0, v0, 0, r144.2)
set_option maxHeartbeats 1000000 in
set_option maxRecDepth 100000 in
theorem Ref_termOf_160_m {g g2 : (Nat × Nat × Int32 × Int32 × Int32 × Int64 × Int64 × Nat × Nat × am_H) → Option (Int64 × am_H)} (hg : ∀ s, Le (g s) (g2 s)) (dd : Nat) (v0 : Nat) (v1 : Int32) (s0 : Int64) (s1 : Nat) (h : am_H) : Le (Ref_termOf_160_b g dd v0 v1 s0 s1 h) (Ref_termOf_160_b g2 dd v0 v1 s0 s1 h) := by unfold Ref_termOf_160_b; exact le_b (le_r _) fun r144 => hg _
set_option maxHeartbeats 1000000 in
set_option maxRecDepth 100000 in
noncomputable def Ref_sumOf_b (g : (Nat × Nat × Int32 × Int32 × Int32 × Int64 × Int64 × Nat × Nat × am_H) → Option (Int64 × am_H)) (dd : Nat) (v0 : Nat) (v1 : Int32) (h : am_H) : Option (Int64 × am_H) := if isO h 12 v0 = true then (if 0 < dd then g (10000, dd - 1, v1, 0, 0, 0, 0, v0, 0, h) else none).bind fun r147 => g (20006, dd, v1, 0, 0, r147.1, 0, v0, 0, r147.2) else none
set_option maxHeartbeats 1000000 in
set_option maxRecDepth 100000 in
theorem Ref_sumOf_m {g g2 : (Nat × Nat × Int32 × Int32 × Int32 × Int64 × Int64 × Nat × Nat × am_H) → Option (Int64 × am_H)} (hg : ∀ s, Le (g s) (g2 s)) (dd : Nat) (v0 : Nat) (v1 : Int32) (h : am_H) : Le (Ref_sumOf_b g dd v0 v1 h) (Ref_sumOf_b g2 dd v0 v1 h) := by unfold Ref_sumOf_b; exact le_i (le_b (le_i (hg _) (le_r _)) fun r147 => hg _) (le_r _)
set_option maxHeartbeats 1000000 in
set_option maxRecDepth 100000 in
noncomputable def Ref_sumOf_6_b (g : (Nat × Nat × Int32 × Int32 × Int32 × Int64 × Int64 × Nat × Nat × am_H) → Option (Int64 × am_H)) (dd : Nat) (v0 : Nat) (v1 : Int32) (v2 : Int64) (h : am_H) : Option (Int64 × am_H) := (gI h 12 v0 21).bind fun x150 => (Ref_codeAt v0 x150 h).bind fun x152 => (Ref_sign (43 : Int32) h).bind fun x154 => if x152 = x154 then g (20038, dd, v1, 0, 0, v2, 0, v0, 0, h) else (gI h 12 v0 21).bind fun x158 => (Ref_codeAt v0 x158 h).bind fun x160 => (Ref_sign (45 : Int32) h).bind fun x162 => if x160 = x162 then g (20038, dd, v1, 0, 0, v2, 0, v0, 0, h) else some (v2, h)
set_option maxHeartbeats 1000000 in
set_option maxRecDepth 100000 in
theorem Ref_sumOf_6_m {g g2 : (Nat × Nat × Int32 × Int32 × Int32 × Int64 × Int64 × Nat × Nat × am_H) → Option (Int64 × am_H)} (hg : ∀ s, Le (g s) (g2 s)) (dd : Nat) (v0 : Nat) (v1 : Int32) (v2 : Int64) (h : am_H) : Le (Ref_sumOf_6_b g dd v0 v1 v2 h) (Ref_sumOf_6_b g2 dd v0 v1 v2 h) := by unfold Ref_sumOf_6_b; exact le_b (le_r _) fun x150 => le_b (le_r _) fun x152 => le_b (le_r _) fun x154 => le_i (hg _) (le_b (le_r _) fun x158 => le_b (le_r _) fun x160 => le_b (le_r _) fun x162 => le_i (hg _) (le_r _))
set_option maxHeartbeats 1000000 in
set_option maxRecDepth 100000 in
noncomputable def Ref_sumOf_38_b (g : (Nat × Nat × Int32 × Int32 × Int32 × Int64 × Int64 × Nat × Nat × am_H) → Option (Int64 × am_H)) (dd : Nat) (v0 : Nat) (v1 : Int32) (v2 : Int64) (h : am_H) : Option (Int64 × am_H) := (gI h 12 v0 21).bind fun x166 => (Ref_codeAt v0 x166 h).bind fun x168 => (Ref_sign (43 : Int32) h).bind fun x170 => if x168 = x170 then g (20059, dd, v1, (1 : Int32), 0, v2, 0, v0, 0, h) else g (20059, dd, v1, (0 : Int32), 0, v2, 0, v0, 0, h)
set_option maxHeartbeats 1000000 in
set_option maxRecDepth 100000 in
theorem Ref_sumOf_38_m {g g2 : (Nat × Nat × Int32 × Int32 × Int32 × Int64 × Int64 × Nat × Nat × am_H) → Option (Int64 × am_H)} (hg : ∀ s, Le (g s) (g2 s)) (dd : Nat) (v0 : Nat) (v1 : Int32) (v2 : Int64) (h : am_H) : Le (Ref_sumOf_38_b g dd v0 v1 v2 h) (Ref_sumOf_38_b g2 dd v0 v1 v2 h) := by unfold Ref_sumOf_38_b; exact le_b (le_r _) fun x166 => le_b (le_r _) fun x168 => le_b (le_r _) fun x170 => le_i (hg _) (hg _)
set_option maxHeartbeats 1000000 in
set_option maxRecDepth 100000 in
noncomputable def Ref_sumOf_59_b (g : (Nat × Nat × Int32 × Int32 × Int32 × Int64 × Int64 × Nat × Nat × am_H) → Option (Int64 × am_H)) (dd : Nat) (v0 : Nat) (v1 : Int32) (v2 : Int64) (s0 : Int32) (h : am_H) : Option (Int64 × am_H) := (gI h 12 v0 21).bind fun x174 => (pV h 12 v0 21 (.int (x174 + (1 : Int32)))).bind fun h176 => (if 0 < dd then g (10000, dd - 1, v1, 0, 0, 0, 0, v0, 0, h176) else none).bind fun r179 => if s0 = (0 : Int32) then g (20095, dd, v1, 0, 0, (v2 - r179.1), 0, v0, v0, r179.2) else g (20095, dd, v1, 0, 0, (v2 + r179.1), 0, v0, v0, r179.2)
set_option maxHeartbeats 1000000 in
set_option maxRecDepth 100000 in
theorem Ref_sumOf_59_m {g g2 : (Nat × Nat × Int32 × Int32 × Int32 × Int64 × Int64 × Nat × Nat × am_H) → Option (Int64 × am_H)} (hg : ∀ s, Le (g s) (g2 s)) (dd : Nat) (v0 : Nat) (v1 : Int32) (v2 : Int64) (s0 : Int32) (h : am_H) : Le (Ref_sumOf_59_b g dd v0 v1 v2 s0 h) (Ref_sumOf_59_b g2 dd v0 v1 v2 s0 h) := by unfold Ref_sumOf_59_b; exact le_b (le_r _) fun x174 => le_b (le_r _) fun h176 => le_b (le_i (hg _) (le_r _)) fun r179 => le_i (hg _) (hg _)
set_option maxHeartbeats 1000000 in
set_option maxRecDepth 100000 in
noncomputable def Ref_sumOf_95_b (g : (Nat × Nat × Int32 × Int32 × Int32 × Int64 × Int64 × Nat × Nat × am_H) → Option (Int64 × am_H)) (dd : Nat) (v0 : Nat) (v1 : Int32) (s0 : Int64) (s1 : Nat) (h : am_H) : Option (Int64 × am_H) := (Ref_bounded s1 s0 v1 h).bind fun r184 => g (20006, dd, v1, 0, 0, r184.1, 0, v0, 0, r184.2)
set_option maxHeartbeats 1000000 in
set_option maxRecDepth 100000 in
theorem Ref_sumOf_95_m {g g2 : (Nat × Nat × Int32 × Int32 × Int32 × Int64 × Int64 × Nat × Nat × am_H) → Option (Int64 × am_H)} (hg : ∀ s, Le (g s) (g2 s)) (dd : Nat) (v0 : Nat) (v1 : Int32) (s0 : Int64) (s1 : Nat) (h : am_H) : Le (Ref_sumOf_95_b g dd v0 v1 s0 s1 h) (Ref_sumOf_95_b g2 dd v0 v1 s0 s1 h) := by unfold Ref_sumOf_95_b; exact le_b (le_r _) fun r184 => hg _
noncomputable def Ref_partOfG_F (g : (Nat × Nat × Int32 × Int32 × Int32 × Int64 × Int64 × Nat × Nat × am_H) → Option (Int64 × am_H)) (s : (Nat × Nat × Int32 × Int32 × Int32 × Int64 × Int64 × Nat × Nat × am_H)) : Option (Int64 × am_H) := if s.1 = 0 then Ref_partOf_b g s.2.1 s.2.2.2.2.2.2.2.1 s.2.2.1 s.2.2.2.2.2.2.2.2.2 else if s.1 = 89 then Ref_partOf_89_b g s.2.1 s.2.2.2.2.2.2.2.1 s.2.2.1 s.2.2.2.1 s.2.2.2.2.1 s.2.2.2.2.2.2.2.2.2 else if s.1 = 10000 then Ref_termOf_b g s.2.1 s.2.2.2.2.2.2.2.1 s.2.2.1 s.2.2.2.2.2.2.2.2.2 else if s.1 = 10006 then Ref_termOf_6_b g s.2.1 s.2.2.2.2.2.2.2.1 s.2.2.1 s.2.2.2.2.2.1 s.2.2.2.2.2.2.2.2.2 else if s.1 = 10054 then Ref_termOf_54_b g s.2.1 s.2.2.2.2.2.2.2.1 s.2.2.1 s.2.2.2.2.2.1 s.2.2.2.2.2.2.2.2.2 else if s.1 = 10110 then Ref_termOf_110_b g s.2.1 s.2.2.2.2.2.2.2.1 s.2.2.1 s.2.2.2.2.2.1 s.2.2.2.1 s.2.2.2.2.2.2.2.2.1 s.2.2.2.2.2.2.2.2.2 else if s.1 = 10115 then Ref_termOf_115_b g s.2.1 s.2.2.2.2.2.2.2.1 s.2.2.1 s.2.2.2.2.2.1 s.2.2.2.1 s.2.2.2.2.1 s.2.2.2.2.2.2.2.2.1 s.2.2.2.2.2.2.2.2.2 else if s.1 = 10121 then Ref_termOf_121_b g s.2.1 s.2.2.2.2.2.2.2.1 s.2.2.1 s.2.2.2.2.2.1 s.2.2.2.1 s.2.2.2.2.2.2.1 s.2.2.2.2.2.2.2.2.2 else if s.1 = 10160 then Ref_termOf_160_b g s.2.1 s.2.2.2.2.2.2.2.1 s.2.2.1 s.2.2.2.2.2.1 s.2.2.2.2.2.2.2.2.1 s.2.2.2.2.2.2.2.2.2 else if s.1 = 20000 then Ref_sumOf_b g s.2.1 s.2.2.2.2.2.2.2.1 s.2.2.1 s.2.2.2.2.2.2.2.2.2 else if s.1 = 20006 then Ref_sumOf_6_b g s.2.1 s.2.2.2.2.2.2.2.1 s.2.2.1 s.2.2.2.2.2.1 s.2.2.2.2.2.2.2.2.2 else if s.1 = 20038 then Ref_sumOf_38_b g s.2.1 s.2.2.2.2.2.2.2.1 s.2.2.1 s.2.2.2.2.2.1 s.2.2.2.2.2.2.2.2.2 else if s.1 = 20059 then Ref_sumOf_59_b g s.2.1 s.2.2.2.2.2.2.2.1 s.2.2.1 s.2.2.2.2.2.1 s.2.2.2.1 s.2.2.2.2.2.2.2.2.2 else if s.1 = 20095 then Ref_sumOf_95_b g s.2.1 s.2.2.2.2.2.2.2.1 s.2.2.1 s.2.2.2.2.2.1 s.2.2.2.2.2.2.2.2.1 s.2.2.2.2.2.2.2.2.2 else none
theorem Ref_partOfG_M : Mn Ref_partOfG_F := fun g g2 hg s => by unfold Ref_partOfG_F; exact le_i (Ref_partOf_m hg s.2.1 s.2.2.2.2.2.2.2.1 s.2.2.1 s.2.2.2.2.2.2.2.2.2) (le_i (Ref_partOf_89_m hg s.2.1 s.2.2.2.2.2.2.2.1 s.2.2.1 s.2.2.2.1 s.2.2.2.2.1 s.2.2.2.2.2.2.2.2.2) (le_i (Ref_termOf_m hg s.2.1 s.2.2.2.2.2.2.2.1 s.2.2.1 s.2.2.2.2.2.2.2.2.2) (le_i (Ref_termOf_6_m hg s.2.1 s.2.2.2.2.2.2.2.1 s.2.2.1 s.2.2.2.2.2.1 s.2.2.2.2.2.2.2.2.2) (le_i (Ref_termOf_54_m hg s.2.1 s.2.2.2.2.2.2.2.1 s.2.2.1 s.2.2.2.2.2.1 s.2.2.2.2.2.2.2.2.2) (le_i (Ref_termOf_110_m hg s.2.1 s.2.2.2.2.2.2.2.1 s.2.2.1 s.2.2.2.2.2.1 s.2.2.2.1 s.2.2.2.2.2.2.2.2.1 s.2.2.2.2.2.2.2.2.2) (le_i (Ref_termOf_115_m hg s.2.1 s.2.2.2.2.2.2.2.1 s.2.2.1 s.2.2.2.2.2.1 s.2.2.2.1 s.2.2.2.2.1 s.2.2.2.2.2.2.2.2.1 s.2.2.2.2.2.2.2.2.2) (le_i (Ref_termOf_121_m hg s.2.1 s.2.2.2.2.2.2.2.1 s.2.2.1 s.2.2.2.2.2.1 s.2.2.2.1 s.2.2.2.2.2.2.1 s.2.2.2.2.2.2.2.2.2) (le_i (Ref_termOf_160_m hg s.2.1 s.2.2.2.2.2.2.2.1 s.2.2.1 s.2.2.2.2.2.1 s.2.2.2.2.2.2.2.2.1 s.2.2.2.2.2.2.2.2.2) (le_i (Ref_sumOf_m hg s.2.1 s.2.2.2.2.2.2.2.1 s.2.2.1 s.2.2.2.2.2.2.2.2.2) (le_i (Ref_sumOf_6_m hg s.2.1 s.2.2.2.2.2.2.2.1 s.2.2.1 s.2.2.2.2.2.1 s.2.2.2.2.2.2.2.2.2) (le_i (Ref_sumOf_38_m hg s.2.1 s.2.2.2.2.2.2.2.1 s.2.2.1 s.2.2.2.2.2.1 s.2.2.2.2.2.2.2.2.2) (le_i (Ref_sumOf_59_m hg s.2.1 s.2.2.2.2.2.2.2.1 s.2.2.1 s.2.2.2.2.2.1 s.2.2.2.1 s.2.2.2.2.2.2.2.2.2) (le_i (Ref_sumOf_95_m hg s.2.1 s.2.2.2.2.2.2.2.1 s.2.2.1 s.2.2.2.2.2.1 s.2.2.2.2.2.2.2.2.1 s.2.2.2.2.2.2.2.2.2) (le_r _))))))))))))))
def Ref_partOfG_P (s : (Nat × Nat × Int32 × Int32 × Int32 × Int64 × Int64 × Nat × Nat × am_H)) (r : (Int64 × am_H)) : Prop := (s.1 = 0 → isO s.2.2.2.2.2.2.2.2.2 12 s.2.2.2.2.2.2.2.1 = true ∧ Sx (3 + s.2.1) mX12_partOf 0 (am_en [.ref s.2.2.2.2.2.2.2.1, .int s.2.2.1] 4) [] s.2.2.2.2.2.2.2.2.2 (some (.long r.1)) r.2) ∧ (s.1 = 89 → Sx (3 + s.2.1) mX12_partOf 89 [.ref s.2.2.2.2.2.2.2.1, .int s.2.2.1, .int s.2.2.2.1, .int s.2.2.2.2.1] [] s.2.2.2.2.2.2.2.2.2 (some (.long r.1)) r.2) ∧ (s.1 = 10000 → isO s.2.2.2.2.2.2.2.2.2 12 s.2.2.2.2.2.2.2.1 = true ∧ Sx (3 + s.2.1) mX12_termOf 0 (am_en [.ref s.2.2.2.2.2.2.2.1, .int s.2.2.1] 7) [] s.2.2.2.2.2.2.2.2.2 (some (.long r.1)) r.2) ∧ (s.1 = 10006 → Sx (3 + s.2.1) mX12_termOf 6 [.ref s.2.2.2.2.2.2.2.1, .int s.2.2.1, .long s.2.2.2.2.2.1, .retAddr 0, .retAddr 0, .retAddr 0, .retAddr 0] [] s.2.2.2.2.2.2.2.2.2 (some (.long r.1)) r.2) ∧ (s.1 = 10054 → Sx (3 + s.2.1) mX12_termOf 54 [.ref s.2.2.2.2.2.2.2.1, .int s.2.2.1, .long s.2.2.2.2.2.1, .retAddr 0, .retAddr 0, .retAddr 0, .retAddr 0] [] s.2.2.2.2.2.2.2.2.2 (some (.long r.1)) r.2) ∧ (s.1 = 10110 → Sx (3 + s.2.1) mX12_termOf 110 [.ref s.2.2.2.2.2.2.2.1, .int s.2.2.1, .long s.2.2.2.2.2.1, .retAddr 0, .int s.2.2.2.1, .retAddr 0, .retAddr 0] [.ref s.2.2.2.2.2.2.2.2.1] s.2.2.2.2.2.2.2.2.2 (some (.long r.1)) r.2) ∧ (s.1 = 10115 → Sx (3 + s.2.1) mX12_termOf 115 [.ref s.2.2.2.2.2.2.2.1, .int s.2.2.1, .long s.2.2.2.2.2.1, .retAddr 0, .int s.2.2.2.1, .retAddr 0, .retAddr 0] [.int s.2.2.2.2.1, .ref s.2.2.2.2.2.2.2.2.1] s.2.2.2.2.2.2.2.2.2 (some (.long r.1)) r.2) ∧ (s.1 = 10121 → Sx (3 + s.2.1) mX12_termOf 121 [.ref s.2.2.2.2.2.2.2.1, .int s.2.2.1, .long s.2.2.2.2.2.1, .retAddr 0, .int s.2.2.2.1, .long s.2.2.2.2.2.2.1, .retAddr 0] [] s.2.2.2.2.2.2.2.2.2 (some (.long r.1)) r.2) ∧ (s.1 = 10160 → Sx (3 + s.2.1) mX12_termOf 160 [.ref s.2.2.2.2.2.2.2.1, .int s.2.2.1, .retAddr 0, .retAddr 0, .retAddr 0, .retAddr 0, .retAddr 0] [.long s.2.2.2.2.2.1, .ref s.2.2.2.2.2.2.2.2.1] s.2.2.2.2.2.2.2.2.2 (some (.long r.1)) r.2) ∧ (s.1 = 20000 → isO s.2.2.2.2.2.2.2.2.2 12 s.2.2.2.2.2.2.2.1 = true ∧ Sx (3 + s.2.1) mX12_sumOf 0 (am_en [.ref s.2.2.2.2.2.2.2.1, .int s.2.2.1] 7) [] s.2.2.2.2.2.2.2.2.2 (some (.long r.1)) r.2) ∧ (s.1 = 20006 → Sx (3 + s.2.1) mX12_sumOf 6 [.ref s.2.2.2.2.2.2.2.1, .int s.2.2.1, .long s.2.2.2.2.2.1, .retAddr 0, .retAddr 0, .retAddr 0, .retAddr 0] [] s.2.2.2.2.2.2.2.2.2 (some (.long r.1)) r.2) ∧ (s.1 = 20038 → Sx (3 + s.2.1) mX12_sumOf 38 [.ref s.2.2.2.2.2.2.2.1, .int s.2.2.1, .long s.2.2.2.2.2.1, .retAddr 0, .retAddr 0, .retAddr 0, .retAddr 0] [] s.2.2.2.2.2.2.2.2.2 (some (.long r.1)) r.2) ∧ (s.1 = 20059 → Sx (3 + s.2.1) mX12_sumOf 59 [.ref s.2.2.2.2.2.2.2.1, .int s.2.2.1, .long s.2.2.2.2.2.1, .retAddr 0, .retAddr 0, .retAddr 0, .retAddr 0] [.int s.2.2.2.1] s.2.2.2.2.2.2.2.2.2 (some (.long r.1)) r.2) ∧ (s.1 = 20095 → Sx (3 + s.2.1) mX12_sumOf 95 [.ref s.2.2.2.2.2.2.2.1, .int s.2.2.1, .retAddr 0, .retAddr 0, .retAddr 0, .retAddr 0, .retAddr 0] [.long s.2.2.2.2.2.1, .ref s.2.2.2.2.2.2.2.2.1] s.2.2.2.2.2.2.2.2.2 (some (.long r.1)) r.2) ∧ True
set_option maxHeartbeats 1000000 in
set_option maxRecDepth 100000 in
theorem Ref_partOf_t {g : (Nat × Nat × Int32 × Int32 × Int32 × Int64 × Int64 × Nat × Nat × am_H) → Option (Int64 × am_H)} (hg : ∀ s r, g s = some r → Ref_partOfG_P s r) {dd : Nat} {v0 : Nat} {v1 : Int32} {h : am_H} {r : (Int64 × am_H)} (hb : Ref_partOf_b g dd v0 v1 h = some r) : isO h 12 v0 = true ∧ Sx (3 + dd) mX12_partOf 0 (am_en [.ref v0, .int v1] 4) [] h (some (.long r.1)) r.2 := by
  unfold Ref_partOf_b at hb
  obtain ⟨ho, hb⟩ := iz hb
  refine ⟨ho, ?_⟩
  show Sx (3 + dd) mX12_partOf 0 [.ref v0, .int v1, .retAddr 0, .retAddr 0] [] h (some (.long r.1)) r.2
  refine Sx.o (fun _ _ _ k => ex_aload_n dX12_partOf_0 rfl rfl k) ?_
  refine Sx.o (fun _ _ _ k => op_bipush (91 : Int32) dX12_partOf_1 (by decide) k) ?_
  obtain ⟨x1, e_x1, hb2⟩ := ob2 hb
  refine sx_callS (dc := 0) (as := [.int (91 : Int32)]) (stq := [.int x1, .ref v0]) (by omega) dX12_partOf_3 MX12_sign kX12_215 tX12_sign rfl rfl (Nat.le_of_ble_eq_true rfl) (Nat.le_of_ble_eq_true rfl) (Ref_sign_s e_x1) rfl ?_
  obtain ⟨r3, e_r3, hb4⟩ := ob2 hb2
  refine sx_callV (dc := 1) (as := [.int x1]) (stq := [.int r3.1]) (by omega) dX12_partOf_6 MX12_passes0 kX12_283 iX12_passes0 sX12_passes0 rfl rfl (Ref_passes0_o e_r3) rfl rfl (Nat.le_of_ble_eq_true rfl) (Nat.le_of_ble_eq_true rfl) (Ref_passes0_s e_r3) rfl ?_
  refine Sx.b (fun _ _ _ k1 k2 => ex_if_eq 30 dX12_partOf_9 (by decide) k1 k2) (fun q => ?_) (fun q => ?_)
  · have hb6 := ip q hb4
    refine Sx.o (fun _ _ _ k => ex_aload_n dX12_partOf_30 rfl rfl k) ?_
    refine Sx.o (fun _ _ _ k => ex_aload_n dX12_partOf_31 rfl rfl k) ?_
    obtain ⟨x8, e_x8, hb9⟩ := ob2 hb6
    refine Sx.o (fun _ _ _ k => op_getI fX12_256 dX12_partOf_32 e_x8 k) ?_
    obtain ⟨x10, e_x10, hb11⟩ := ob2 hb9
    refine sx_callV (dc := 0) (as := [.int x8]) (stq := [.int x10]) (by omega) dX12_partOf_35 MX12_codeAt kX12_259 iX12_codeAt sX12_codeAt rfl rfl (Ref_codeAt_o e_x10) rfl rfl (Nat.le_of_ble_eq_true rfl) (Nat.le_of_ble_eq_true rfl) (Ref_codeAt_s e_x10) rfl ?_
    refine Sx.o (L' := [.ref v0, .int v1, .int x10, .retAddr 0]) (fun _ _ _ k => ex_istore_n dX12_partOf_38 (by decide) k) ?_
    refine Sx.o (fun _ _ _ k => op_iconst (0 : Int32) dX12_partOf_39 (by decide) k) ?_
    refine Sx.o (L' := [.ref v0, .int v1, .int x10, .int (0 : Int32)]) (fun _ _ _ k => ex_istore_n dX12_partOf_40 (by decide) k) ?_
    refine Sx.o (fun _ _ _ k => ex_aload_n dX12_partOf_41 rfl rfl k) ?_
    refine Sx.o (fun _ _ _ k => ex_dup dX12_partOf_42 rfl k) ?_
    obtain ⟨x12, e_x12, hb13⟩ := ob2 hb11
    refine Sx.o (fun _ _ _ k => op_getI fX12_256 dX12_partOf_43 e_x12 k) ?_
    refine Sx.o (fun _ _ _ k => op_iconst (1 : Int32) dX12_partOf_46 (by decide) k) ?_
    refine Sx.o (fun _ _ _ k => ex_iadd dX12_partOf_47 k) ?_
    obtain ⟨h14, e_h14, hb15⟩ := ob2 hb13
    refine Sx.p (pV_q e_h14) (fun _ _ _ k => op_put pX12_256 dX12_partOf_48 e_h14 (fun _ => rfl) (fun _ => rfl) k) ?_
    refine Sx.o (fun _ _ _ k => ex_aload_n dX12_partOf_51 rfl rfl k) ?_
    obtain ⟨x17, e_x17, hb18⟩ := ob2 hb15
    refine Sx.o (fun _ _ _ k => op_getI fX12_289 dX12_partOf_52 e_x17 k) ?_
    refine Sx.b (fun _ _ _ k1 k2 => ex_if_eq 89 dX12_partOf_55 (by decide) k1 k2) (fun q => ?_) (fun q => ?_)
    · have hb19 := ip q hb18
      exact (hg _ _ hb19).2.1 rfl
    · have hb20 := iq q hb18
      refine Sx.o (fun _ _ _ k => ex_iload_n dX12_partOf_58 rfl k) ?_
      obtain ⟨x21, e_x21, hb22⟩ := ob2 hb20
      refine sx_callS (dc := 0) (as := [.int x10]) (stq := [.int x21]) (by omega) dX12_partOf_59 MX12_isOfHeap kX12_234 tX12_isOfHeap rfl rfl (Nat.le_of_ble_eq_true rfl) (Nat.le_of_ble_eq_true rfl) (Ref_isOfHeap_s e_x21) rfl ?_
      refine Sx.b (fun _ _ _ k1 k2 => ex_if_eq 89 dX12_partOf_62 (by decide) k1 k2) (fun q => ?_) (fun q => ?_)
      · have hb23 := ip q hb22
        exact (hg _ _ hb23).2.1 rfl
      · have hb24 := iq q hb22
        refine Sx.o (fun _ _ _ k => ex_aload_n dX12_partOf_65 rfl rfl k) ?_
        obtain ⟨x25, e_x25, hb26⟩ := ob2 hb24
        refine Sx.o (fun _ _ _ k => op_getR fX12_24 dX12_partOf_66 e_x25 k) ?_
        refine Sx.o (fun _ _ _ k => op_sipush (2925 : Int32) dX12_partOf_69 (by decide) k) ?_
        refine Sx.o (fun _ _ _ k => ex_aload_n dX12_partOf_72 rfl rfl k) ?_
        obtain ⟨x27, e_x27, hb28⟩ := ob2 hb26
        refine Sx.o (fun _ _ _ k => op_getI fX12_256 dX12_partOf_73 e_x27 k) ?_
        refine Sx.o (fun _ _ _ k => ex_iadd dX12_partOf_76 k) ?_
        obtain ⟨x29, e_x29, hb30⟩ := ob2 hb28
        refine Sx.o (fun _ _ _ k => op_iald dX12_partOf_77 e_x29 k) ?_
        refine Sx.o (L' := [.ref v0, .int v1, .int x10, .int x29]) (fun _ _ _ k => ex_istore_n dX12_partOf_78 (by decide) k) ?_
        refine Sx.o (fun _ _ _ k => ex_aload_n dX12_partOf_79 rfl rfl k) ?_
        refine Sx.o (fun _ _ _ k => ex_dup dX12_partOf_80 rfl k) ?_
        obtain ⟨x31, e_x31, hb32⟩ := ob2 hb30
        refine Sx.o (fun _ _ _ k => op_getI fX12_256 dX12_partOf_81 e_x31 k) ?_
        refine Sx.o (fun _ _ _ k => op_iconst (1 : Int32) dX12_partOf_84 (by decide) k) ?_
        refine Sx.o (fun _ _ _ k => ex_iadd dX12_partOf_85 k) ?_
        obtain ⟨h33, e_h33, hb34⟩ := ob2 hb32
        refine Sx.p (pV_q e_h33) (fun _ _ _ k => op_put pX12_256 dX12_partOf_86 e_h33 (fun _ => rfl) (fun _ => rfl) k) ?_
        exact (hg _ _ hb34).2.1 rfl
  · have hb7 := iq q hb4
    refine Sx.o (fun _ _ _ k => ex_aload_n dX12_partOf_12 rfl rfl k) ?_
    refine Sx.o (fun _ _ _ k => ex_iload_n dX12_partOf_13 rfl k) ?_
    obtain ⟨r36, e_r36, hb37⟩ := ob2 hb7
    obtain ⟨hdd_r36, e_r36⟩ := iz e_r36
    refine sx_callV (dc := (3 + (dd - 1))) (as := [.int v1]) (stq := [.long r36.1]) (by omega) dX12_partOf_14 MX12_sumOf kX12_286 iX12_sumOf sX12_sumOf rfl rfl ((fun e => ((hg _ _ e).2.2.2.2.2.2.2.2.2.1 rfl).1) e_r36) rfl rfl (Nat.le_of_ble_eq_true rfl) (Nat.le_of_ble_eq_true rfl) ((fun e => ((hg _ _ e).2.2.2.2.2.2.2.2.2.1 rfl).2) e_r36) rfl ?_
    refine Sx.o (L' := [.ref v0, .int v1, .long r36.1, .retAddr 0]) (fun _ _ _ k => ex_lstore_n dX12_partOf_17 (by decide) k) ?_
    refine Sx.o (fun _ _ _ k => ex_aload_n dX12_partOf_18 rfl rfl k) ?_
    refine Sx.o (fun _ _ _ k => ex_dup dX12_partOf_19 rfl k) ?_
    obtain ⟨x39, e_x39, hb40⟩ := ob2 hb37
    refine Sx.o (fun _ _ _ k => op_getI fX12_256 dX12_partOf_20 e_x39 k) ?_
    refine Sx.o (fun _ _ _ k => op_iconst (1 : Int32) dX12_partOf_23 (by decide) k) ?_
    refine Sx.o (fun _ _ _ k => ex_iadd dX12_partOf_24 k) ?_
    obtain ⟨h41, e_h41, hb42⟩ := ob2 hb40
    refine Sx.p (pV_q e_h41) (fun _ _ _ k => op_put pX12_256 dX12_partOf_25 e_h41 (fun _ => rfl) (fun _ => rfl) k) ?_
    refine Sx.o (fun _ _ _ k => ex_lload_n dX12_partOf_28 rfl k) ?_
    obtain rfl := Option.some.inj hb42
    exact Sx.r (fun _ _ _ k => ex_lret rfl dX12_partOf_29 k)
set_option maxHeartbeats 1000000 in
set_option maxRecDepth 100000 in
theorem Ref_partOf_89_t {g : (Nat × Nat × Int32 × Int32 × Int32 × Int64 × Int64 × Nat × Nat × am_H) → Option (Int64 × am_H)} (hg : ∀ s r, g s = some r → Ref_partOfG_P s r) {dd : Nat} {v0 : Nat} {v1 : Int32} {v2 : Int32} {v3 : Int32} {h : am_H} {r : (Int64 × am_H)} (hb : Ref_partOf_89_b g dd v0 v1 v2 v3 h = some r) : Sx (3 + dd) mX12_partOf 89 [.ref v0, .int v1, .int v2, .int v3] [] h (some (.long r.1)) r.2 := by
  unfold Ref_partOf_89_b at hb
  refine Sx.o (fun _ _ _ k => ex_iload_n dX12_partOf_89 rfl k) ?_
  refine Sx.b (fun _ _ _ k1 k2 => ex_if_eq 100 dX12_partOf_90 (by decide) k1 k2) (fun q => ?_) (fun q => ?_)
  · have hb44 := ip q hb
    refine Sx.o (fun _ _ _ k => op_lconst (0 : Int64) dX12_partOf_100 (by decide) k) ?_
    obtain rfl := Option.some.inj hb44
    exact Sx.r (fun _ _ _ k => ex_lret rfl dX12_partOf_101 k)
  · have hb45 := iq q hb
    refine Sx.o (fun _ _ _ k => ex_aload_n dX12_partOf_93 rfl rfl k) ?_
    obtain ⟨x46, e_x46, hb47⟩ := ob2 hb45
    refine Sx.o (fun _ _ _ k => op_getI fX12_266 dX12_partOf_94 e_x46 k) ?_
    refine Sx.b (fun _ _ _ k1 k2 => ex_if_eq 102 dX12_partOf_97 (by decide) k1 k2) (fun q => ?_) (fun q => ?_)
    · have hb48 := ip q hb47
      refine Sx.o (fun _ _ _ k => ex_iload_n dX12_partOf_102 rfl k) ?_
      refine Sx.o (fun _ _ _ k => op_bipush (50 : Int32) dX12_partOf_103 (by decide) k) ?_
      refine Sx.bn (fun _ _ _ k1 k2 => ex_icmp_ne 125 dX12_partOf_105 (by decide) k1 k2) (fun q => ?_) (fun q => ?_)
      · have hb50 := iq q hb48
        refine Sx.o (fun _ _ _ k => ex_aload_n dX12_partOf_125 rfl rfl k) ?_
        obtain ⟨x52, e_x52, hb53⟩ := ob2 hb50
        refine Sx.o (fun _ _ _ k => op_getI fX12_289 dX12_partOf_126 e_x52 k) ?_
        refine Sx.bn (fun _ _ _ k1 k2 => ex_if_ne 143 dX12_partOf_129 (by decide) k1 k2) (fun q => ?_) (fun q => ?_)
        · have hb54 := iq q hb53
          refine Sx.o (fun _ _ _ k => ex_iload_n dX12_partOf_143 rfl k) ?_
          obtain ⟨x56, e_x56, hb57⟩ := ob2 hb54
          refine sx_callS (dc := 0) (as := [.int v2]) (stq := [.int x56]) (by omega) dX12_partOf_144 MX12_isOfHeap kX12_234 tX12_isOfHeap rfl rfl (Nat.le_of_ble_eq_true rfl) (Nat.le_of_ble_eq_true rfl) (Ref_isOfHeap_s e_x56) rfl ?_
          refine Sx.b (fun _ _ _ k1 k2 => ex_if_eq 160 dX12_partOf_147 (by decide) k1 k2) (fun q => ?_) (fun q => ?_)
          · have hb58 := ip q hb57
            refine Sx.o (fun _ _ _ k => ex_aload_n dX12_partOf_160 rfl rfl k) ?_
            obtain ⟨x60, e_x60, hb61⟩ := ob2 hb58
            refine Sx.o (fun _ _ _ k => op_getR fX12_62 dX12_partOf_161 e_x60 k) ?_
            refine Sx.o (fun _ _ _ k => ex_iload_n dX12_partOf_164 rfl k) ?_
            refine Sx.o (fun _ _ _ k => op_bipush (16 : Int32) dX12_partOf_165 (by decide) k) ?_
            refine Sx.o (fun _ _ _ k => ex_isub dX12_partOf_167 k) ?_
            obtain ⟨x62, e_x62, hb63⟩ := ob2 hb61
            refine Sx.o (fun _ _ _ k => op_iald dX12_partOf_168 e_x62 k) ?_
            refine Sx.o (fun _ _ _ k => ex_i2l dX12_partOf_169 k) ?_
            obtain rfl := Option.some.inj hb63
            exact Sx.r (fun _ _ _ k => ex_lret rfl dX12_partOf_170 k)
          · have hb59 := iq q hb57
            refine Sx.o (fun _ _ _ k => ex_aload_n dX12_partOf_150 rfl rfl k) ?_
            refine Sx.o (fun _ _ _ k => ex_iload_n dX12_partOf_151 rfl k) ?_
            refine Sx.o (fun _ _ _ k => ex_iload_n dX12_partOf_152 rfl k) ?_
            obtain ⟨x64, e_x64, hb65⟩ := ob2 hb59
            refine sx_callV (dc := 2) (as := [.int v2, .int v3]) (stq := [.int x64]) (by omega) dX12_partOf_153 MX12_heapValue kX12_292 iX12_heapValue sX12_heapValue rfl rfl (Ref_heapValue_o e_x64) rfl rfl (Nat.le_of_ble_eq_true rfl) (Nat.le_of_ble_eq_true rfl) (Ref_heapValue_s e_x64) rfl ?_
            refine Sx.o (fun _ _ _ k => ex_i2l dX12_partOf_156 k) ?_
            refine Sx.o (fun _ _ _ k => ex_goto 170 dX12_partOf_157 (by decide) k) ?_
            obtain rfl := Option.some.inj hb65
            exact Sx.r (fun _ _ _ k => ex_lret rfl dX12_partOf_170 k)
        · have hb55 := ip q hb53
          refine Sx.o (fun _ _ _ k => ex_aload_n dX12_partOf_132 rfl rfl k) ?_
          obtain ⟨x66, e_x66, hb67⟩ := ob2 hb55
          refine Sx.o (fun _ _ _ k => op_getR fX12_59 dX12_partOf_133 e_x66 k) ?_
          refine Sx.o (fun _ _ _ k => ex_iload_n dX12_partOf_136 rfl k) ?_
          refine Sx.o (fun _ _ _ k => op_bipush (8 : Int32) dX12_partOf_137 (by decide) k) ?_
          refine Sx.o (fun _ _ _ k => ex_isub dX12_partOf_139 k) ?_
          obtain ⟨x68, e_x68, hb69⟩ := ob2 hb67
          refine Sx.o (fun _ _ _ k => op_iald dX12_partOf_140 e_x68 k) ?_
          refine Sx.o (fun _ _ _ k => ex_i2l dX12_partOf_141 k) ?_
          obtain rfl := Option.some.inj hb69
          exact Sx.r (fun _ _ _ k => ex_lret rfl dX12_partOf_142 k)
      · have hb51 := ip q hb48
        refine Sx.o (fun _ _ _ k => ex_aload_n dX12_partOf_108 rfl rfl k) ?_
        obtain ⟨x70, e_x70, hb71⟩ := ob2 hb51
        refine Sx.o (fun _ _ _ k => op_getR fX12_24 dX12_partOf_109 e_x70 k) ?_
        refine Sx.o (fun _ _ _ k => op_sipush (2925 : Int32) dX12_partOf_112 (by decide) k) ?_
        refine Sx.o (fun _ _ _ k => ex_aload_n dX12_partOf_115 rfl rfl k) ?_
        obtain ⟨x72, e_x72, hb73⟩ := ob2 hb71
        refine Sx.o (fun _ _ _ k => op_getI fX12_256 dX12_partOf_116 e_x72 k) ?_
        refine Sx.o (fun _ _ _ k => ex_iadd dX12_partOf_119 k) ?_
        refine Sx.o (fun _ _ _ k => op_iconst (1 : Int32) dX12_partOf_120 (by decide) k) ?_
        refine Sx.o (fun _ _ _ k => ex_isub dX12_partOf_121 k) ?_
        obtain ⟨x74, e_x74, hb75⟩ := ob2 hb73
        refine Sx.o (fun _ _ _ k => op_iald dX12_partOf_122 e_x74 k) ?_
        refine Sx.o (fun _ _ _ k => ex_i2l dX12_partOf_123 k) ?_
        obtain rfl := Option.some.inj hb75
        exact Sx.r (fun _ _ _ k => ex_lret rfl dX12_partOf_124 k)
    · have hb49 := iq q hb47
      refine Sx.o (fun _ _ _ k => op_lconst (0 : Int64) dX12_partOf_100 (by decide) k) ?_
      obtain rfl := Option.some.inj hb49
      exact Sx.r (fun _ _ _ k => ex_lret rfl dX12_partOf_101 k)
set_option maxHeartbeats 1000000 in
set_option maxRecDepth 100000 in
theorem Ref_termOf_t {g : (Nat × Nat × Int32 × Int32 × Int32 × Int64 × Int64 × Nat × Nat × am_H) → Option (Int64 × am_H)} (hg : ∀ s r, g s = some r → Ref_partOfG_P s r) {dd : Nat} {v0 : Nat} {v1 : Int32} {h : am_H} {r : (Int64 × am_H)} (hb : Ref_termOf_b g dd v0 v1 h = some r) : isO h 12 v0 = true ∧ Sx (3 + dd) mX12_termOf 0 (am_en [.ref v0, .int v1] 7) [] h (some (.long r.1)) r.2 := by
  unfold Ref_termOf_b at hb
  obtain ⟨ho, hb⟩ := iz hb
  refine ⟨ho, ?_⟩
  show Sx (3 + dd) mX12_termOf 0 [.ref v0, .int v1, .retAddr 0, .retAddr 0, .retAddr 0, .retAddr 0, .retAddr 0] [] h (some (.long r.1)) r.2
  refine Sx.o (fun _ _ _ k => ex_aload_n dX12_termOf_0 rfl rfl k) ?_
  refine Sx.o (fun _ _ _ k => ex_iload_n dX12_termOf_1 rfl k) ?_
  obtain ⟨r76, e_r76, hb77⟩ := ob2 hb
  obtain ⟨hdd_r76, e_r76⟩ := iz e_r76
  refine sx_callV (dc := (3 + (dd - 1))) (as := [.int v1]) (stq := [.long r76.1]) (by omega) dX12_termOf_2 MX12_partOf kX12_277 iX12_partOf sX12_partOf rfl rfl ((fun e => ((hg _ _ e).1 rfl).1) e_r76) rfl rfl (Nat.le_of_ble_eq_true rfl) (Nat.le_of_ble_eq_true rfl) ((fun e => ((hg _ _ e).1 rfl).2) e_r76) rfl ?_
  refine Sx.o (L' := [.ref v0, .int v1, .long r76.1, .retAddr 0, .retAddr 0, .retAddr 0, .retAddr 0]) (fun _ _ _ k => ex_lstore_n dX12_termOf_5 (by decide) k) ?_
  exact (hg _ _ hb77).2.2.2.1 rfl
set_option maxHeartbeats 1000000 in
set_option maxRecDepth 100000 in
theorem Ref_termOf_6_t {g : (Nat × Nat × Int32 × Int32 × Int32 × Int64 × Int64 × Nat × Nat × am_H) → Option (Int64 × am_H)} (hg : ∀ s r, g s = some r → Ref_partOfG_P s r) {dd : Nat} {v0 : Nat} {v1 : Int32} {v2 : Int64} {h : am_H} {r : (Int64 × am_H)} (hb : Ref_termOf_6_b g dd v0 v1 v2 h = some r) : Sx (3 + dd) mX12_termOf 6 [.ref v0, .int v1, .long v2, .retAddr 0, .retAddr 0, .retAddr 0, .retAddr 0] [] h (some (.long r.1)) r.2 := by
  unfold Ref_termOf_6_b at hb
  refine Sx.o (fun _ _ _ k => ex_aload_n dX12_termOf_6 rfl rfl k) ?_
  refine Sx.o (fun _ _ _ k => ex_aload_n dX12_termOf_7 rfl rfl k) ?_
  obtain ⟨x79, e_x79, hb80⟩ := ob2 hb
  refine Sx.o (fun _ _ _ k => op_getI fX12_256 dX12_termOf_8 e_x79 k) ?_
  obtain ⟨x81, e_x81, hb82⟩ := ob2 hb80
  refine sx_callV (dc := 0) (as := [.int x79]) (stq := [.int x81]) (by omega) dX12_termOf_11 MX12_codeAt kX12_259 iX12_codeAt sX12_codeAt rfl rfl (Ref_codeAt_o e_x81) rfl rfl (Nat.le_of_ble_eq_true rfl) (Nat.le_of_ble_eq_true rfl) (Ref_codeAt_s e_x81) rfl ?_
  refine Sx.o (fun _ _ _ k => op_bipush (42 : Int32) dX12_termOf_14 (by decide) k) ?_
  obtain ⟨x83, e_x83, hb84⟩ := ob2 hb82
  refine sx_callS (dc := 0) (as := [.int (42 : Int32)]) (stq := [.int x83, .int x81]) (by omega) dX12_termOf_16 MX12_sign kX12_215 tX12_sign rfl rfl (Nat.le_of_ble_eq_true rfl) (Nat.le_of_ble_eq_true rfl) (Ref_sign_s e_x83) rfl ?_
  refine Sx.b (fun _ _ _ k1 k2 => ex_icmp_eq 54 dX12_termOf_19 (by decide) k1 k2) (fun q => ?_) (fun q => ?_)
  · have hb85 := ip q hb84
    exact (hg _ _ hb85).2.2.2.2.1 rfl
  · have hb86 := iq q hb84
    refine Sx.o (fun _ _ _ k => ex_aload_n dX12_termOf_22 rfl rfl k) ?_
    refine Sx.o (fun _ _ _ k => ex_aload_n dX12_termOf_23 rfl rfl k) ?_
    obtain ⟨x87, e_x87, hb88⟩ := ob2 hb86
    refine Sx.o (fun _ _ _ k => op_getI fX12_256 dX12_termOf_24 e_x87 k) ?_
    obtain ⟨x89, e_x89, hb90⟩ := ob2 hb88
    refine sx_callV (dc := 0) (as := [.int x87]) (stq := [.int x89]) (by omega) dX12_termOf_27 MX12_codeAt kX12_259 iX12_codeAt sX12_codeAt rfl rfl (Ref_codeAt_o e_x89) rfl rfl (Nat.le_of_ble_eq_true rfl) (Nat.le_of_ble_eq_true rfl) (Ref_codeAt_s e_x89) rfl ?_
    refine Sx.o (fun _ _ _ k => op_bipush (47 : Int32) dX12_termOf_30 (by decide) k) ?_
    obtain ⟨x91, e_x91, hb92⟩ := ob2 hb90
    refine sx_callS (dc := 0) (as := [.int (47 : Int32)]) (stq := [.int x91, .int x89]) (by omega) dX12_termOf_32 MX12_sign kX12_215 tX12_sign rfl rfl (Nat.le_of_ble_eq_true rfl) (Nat.le_of_ble_eq_true rfl) (Ref_sign_s e_x91) rfl ?_
    refine Sx.b (fun _ _ _ k1 k2 => ex_icmp_eq 54 dX12_termOf_35 (by decide) k1 k2) (fun q => ?_) (fun q => ?_)
    · have hb93 := ip q hb92
      exact (hg _ _ hb93).2.2.2.2.1 rfl
    · have hb94 := iq q hb92
      refine Sx.o (fun _ _ _ k => ex_aload_n dX12_termOf_38 rfl rfl k) ?_
      refine Sx.o (fun _ _ _ k => ex_aload_n dX12_termOf_39 rfl rfl k) ?_
      obtain ⟨x95, e_x95, hb96⟩ := ob2 hb94
      refine Sx.o (fun _ _ _ k => op_getI fX12_256 dX12_termOf_40 e_x95 k) ?_
      obtain ⟨x97, e_x97, hb98⟩ := ob2 hb96
      refine sx_callV (dc := 0) (as := [.int x95]) (stq := [.int x97]) (by omega) dX12_termOf_43 MX12_codeAt kX12_259 iX12_codeAt sX12_codeAt rfl rfl (Ref_codeAt_o e_x97) rfl rfl (Nat.le_of_ble_eq_true rfl) (Nat.le_of_ble_eq_true rfl) (Ref_codeAt_s e_x97) rfl ?_
      refine Sx.o (fun _ _ _ k => op_bipush (37 : Int32) dX12_termOf_46 (by decide) k) ?_
      obtain ⟨x99, e_x99, hb100⟩ := ob2 hb98
      refine sx_callS (dc := 0) (as := [.int (37 : Int32)]) (stq := [.int x99, .int x97]) (by omega) dX12_termOf_48 MX12_sign kX12_215 tX12_sign rfl rfl (Nat.le_of_ble_eq_true rfl) (Nat.le_of_ble_eq_true rfl) (Ref_sign_s e_x99) rfl ?_
      refine Sx.bn (fun _ _ _ k1 k2 => ex_icmp_ne 168 dX12_termOf_51 (by decide) k1 k2) (fun q => ?_) (fun q => ?_)
      · have hb101 := iq q hb100
        refine Sx.o (fun _ _ _ k => ex_lload_n dX12_termOf_168 rfl k) ?_
        obtain rfl := Option.some.inj hb101
        exact Sx.r (fun _ _ _ k => ex_lret rfl dX12_termOf_169 k)
      · have hb102 := ip q hb100
        exact (hg _ _ hb102).2.2.2.2.1 rfl
set_option maxHeartbeats 1000000 in
set_option maxRecDepth 100000 in
theorem Ref_termOf_54_t {g : (Nat × Nat × Int32 × Int32 × Int32 × Int64 × Int64 × Nat × Nat × am_H) → Option (Int64 × am_H)} (hg : ∀ s r, g s = some r → Ref_partOfG_P s r) {dd : Nat} {v0 : Nat} {v1 : Int32} {v2 : Int64} {h : am_H} {r : (Int64 × am_H)} (hb : Ref_termOf_54_b g dd v0 v1 v2 h = some r) : Sx (3 + dd) mX12_termOf 54 [.ref v0, .int v1, .long v2, .retAddr 0, .retAddr 0, .retAddr 0, .retAddr 0] [] h (some (.long r.1)) r.2 := by
  unfold Ref_termOf_54_b at hb
  refine Sx.o (fun _ _ _ k => ex_aload_n dX12_termOf_54 rfl rfl k) ?_
  refine Sx.o (fun _ _ _ k => ex_aload_n dX12_termOf_55 rfl rfl k) ?_
  obtain ⟨x103, e_x103, hb104⟩ := ob2 hb
  refine Sx.o (fun _ _ _ k => op_getI fX12_256 dX12_termOf_56 e_x103 k) ?_
  obtain ⟨x105, e_x105, hb106⟩ := ob2 hb104
  refine sx_callV (dc := 0) (as := [.int x103]) (stq := [.int x105]) (by omega) dX12_termOf_59 MX12_codeAt kX12_259 iX12_codeAt sX12_codeAt rfl rfl (Ref_codeAt_o e_x105) rfl rfl (Nat.le_of_ble_eq_true rfl) (Nat.le_of_ble_eq_true rfl) (Ref_codeAt_s e_x105) rfl ?_
  refine Sx.o (L' := [.ref v0, .int v1, .long v2, .retAddr 0, .int x105, .retAddr 0, .retAddr 0]) (fun _ _ _ k => ex_istore dX12_termOf_62 (by decide) k) ?_
  refine Sx.o (fun _ _ _ k => ex_aload_n dX12_termOf_64 rfl rfl k) ?_
  refine Sx.o (fun _ _ _ k => ex_dup dX12_termOf_65 rfl k) ?_
  obtain ⟨x107, e_x107, hb108⟩ := ob2 hb106
  refine Sx.o (fun _ _ _ k => op_getI fX12_256 dX12_termOf_66 e_x107 k) ?_
  refine Sx.o (fun _ _ _ k => op_iconst (1 : Int32) dX12_termOf_69 (by decide) k) ?_
  refine Sx.o (fun _ _ _ k => ex_iadd dX12_termOf_70 k) ?_
  obtain ⟨h109, e_h109, hb110⟩ := ob2 hb108
  refine Sx.p (pV_q e_h109) (fun _ _ _ k => op_put pX12_256 dX12_termOf_71 e_h109 (fun _ => rfl) (fun _ => rfl) k) ?_
  refine Sx.o (fun _ _ _ k => ex_aload_n dX12_termOf_74 rfl rfl k) ?_
  refine Sx.o (fun _ _ _ k => ex_iload_n dX12_termOf_75 rfl k) ?_
  obtain ⟨r112, e_r112, hb113⟩ := ob2 hb110
  obtain ⟨hdd_r112, e_r112⟩ := iz e_r112
  refine sx_callV (dc := (3 + (dd - 1))) (as := [.int v1]) (stq := [.long r112.1]) (by omega) dX12_termOf_76 MX12_partOf kX12_277 iX12_partOf sX12_partOf rfl rfl ((fun e => ((hg _ _ e).1 rfl).1) e_r112) rfl rfl (Nat.le_of_ble_eq_true rfl) (Nat.le_of_ble_eq_true rfl) ((fun e => ((hg _ _ e).1 rfl).2) e_r112) rfl ?_
  refine Sx.o (L' := [.ref v0, .int v1, .long v2, .retAddr 0, .int x105, .long r112.1, .retAddr 0]) (fun _ _ _ k => ex_lstore dX12_termOf_79 (by decide) k) ?_
  refine Sx.o (fun _ _ _ k => ex_iload dX12_termOf_81 rfl k) ?_
  refine Sx.o (fun _ _ _ k => op_bipush (42 : Int32) dX12_termOf_83 (by decide) k) ?_
  obtain ⟨x115, e_x115, hb116⟩ := ob2 hb113
  refine sx_callS (dc := 0) (as := [.int (42 : Int32)]) (stq := [.int x115, .int x105]) (by omega) dX12_termOf_85 MX12_sign kX12_215 tX12_sign rfl rfl (Nat.le_of_ble_eq_true rfl) (Nat.le_of_ble_eq_true rfl) (Ref_sign_s e_x115) rfl ?_
  refine Sx.b (fun _ _ _ k1 k2 => ex_icmp_eq 121 dX12_termOf_88 (by decide) k1 k2) (fun q => ?_) (fun q => ?_)
  · have hb117 := ip q hb116
    exact (hg _ _ hb117).2.2.2.2.2.2.2.1 rfl
  · have hb118 := iq q hb116
    refine Sx.o (fun _ _ _ k => ex_lload dX12_termOf_91 rfl k) ?_
    refine Sx.o (fun _ _ _ k => op_lconst (0 : Int64) dX12_termOf_93 (by decide) k) ?_
    refine Sx.o (fun _ _ _ k => ex_lcmp dX12_termOf_94 k) ?_
    refine Sx.bn (fun _ _ _ k1 k2 => ex_if_ne 121 dX12_termOf_95 (by decide) k1 k2) (fun q => ?_) (fun q => ?_)
    · have hb119 := iq q hb118
      exact (hg _ _ hb119).2.2.2.2.2.2.2.1 rfl
    · have hb120 := ip q hb118
      refine Sx.o (fun _ _ _ k => ex_aload_n dX12_termOf_98 rfl rfl k) ?_
      refine Sx.o (fun _ _ _ k => ex_aload_n dX12_termOf_99 rfl rfl k) ?_
      obtain ⟨x121, e_x121, hb122⟩ := ob2 hb120
      refine Sx.o (fun _ _ _ k => op_getI fX12_266 dX12_termOf_100 e_x121 k) ?_
      refine Sx.bn (fun _ _ _ k1 k2 => ex_if_ne 110 dX12_termOf_103 (by decide) k1 k2) (fun q => ?_) (fun q => ?_)
      · have hb123 := iq q hb122
        refine Sx.fg [true, true, true, true, true, false, true] ?_
        exact (hg _ _ hb123).2.2.2.2.2.1 rfl
      · have hb124 := ip q hb122
        refine Sx.o (fun _ _ _ k => ex_iload_n dX12_termOf_106 rfl k) ?_
        refine Sx.b (fun _ _ _ k1 k2 => ex_if_eq 114 dX12_termOf_107 (by decide) k1 k2) (fun q => ?_) (fun q => ?_)
        · have hb125 := ip q hb124
          refine Sx.o (fun _ _ _ k => op_iconst (0 : Int32) dX12_termOf_114 (by decide) k) ?_
          refine Sx.fg [true, true, true, true, true, false, true] ?_
          exact (hg _ _ hb125).2.2.2.2.2.2.1 rfl
        · have hb126 := iq q hb124
          refine Sx.fg [true, true, true, true, true, false, true] ?_
          exact (hg _ _ hb126).2.2.2.2.2.1 rfl
set_option maxHeartbeats 1000000 in
set_option maxRecDepth 100000 in
theorem Ref_termOf_110_t {g : (Nat × Nat × Int32 × Int32 × Int32 × Int64 × Int64 × Nat × Nat × am_H) → Option (Int64 × am_H)} (hg : ∀ s r, g s = some r → Ref_partOfG_P s r) {dd : Nat} {v0 : Nat} {v1 : Int32} {v2 : Int64} {v4 : Int32} {s0 : Nat} {h : am_H} {r : (Int64 × am_H)} (hb : Ref_termOf_110_b g dd v0 v1 v2 v4 s0 h = some r) : Sx (3 + dd) mX12_termOf 110 [.ref v0, .int v1, .long v2, .retAddr 0, .int v4, .retAddr 0, .retAddr 0] [.ref s0] h (some (.long r.1)) r.2 := by
  unfold Ref_termOf_110_b at hb
  refine Sx.o (fun _ _ _ k => op_iconst (1 : Int32) dX12_termOf_110 (by decide) k) ?_
  refine Sx.o (fun _ _ _ k => ex_goto 115 dX12_termOf_111 (by decide) k) ?_
  exact (hg _ _ hb).2.2.2.2.2.2.1 rfl
set_option maxHeartbeats 1000000 in
set_option maxRecDepth 100000 in
theorem Ref_termOf_115_t {g : (Nat × Nat × Int32 × Int32 × Int32 × Int64 × Int64 × Nat × Nat × am_H) → Option (Int64 × am_H)} (hg : ∀ s r, g s = some r → Ref_partOfG_P s r) {dd : Nat} {v0 : Nat} {v1 : Int32} {v2 : Int64} {v4 : Int32} {s0 : Int32} {s1 : Nat} {h : am_H} {r : (Int64 × am_H)} (hb : Ref_termOf_115_b g dd v0 v1 v2 v4 s0 s1 h = some r) : Sx (3 + dd) mX12_termOf 115 [.ref v0, .int v1, .long v2, .retAddr 0, .int v4, .retAddr 0, .retAddr 0] [.int s0, .ref s1] h (some (.long r.1)) r.2 := by
  unfold Ref_termOf_115_b at hb
  obtain ⟨u127, e_u127, hb128⟩ := ob2 hb
  obtain ⟨h129, e_h129, hb130⟩ := ob2 hb128
  refine Sx.p (pV_q e_h129) (fun _ _ _ k => op_put pX12_266 dX12_termOf_115 e_h129 (fun _ => nrZ_n e_u127) (fun _ => nrZ_f e_u127) k) ?_
  refine Sx.o (fun _ _ _ k => op_lconst (1 : Int64) dX12_termOf_118 (by decide) k) ?_
  refine Sx.o (L' := [.ref v0, .int v1, .long v2, .retAddr 0, .int v4, .long (1 : Int64), .retAddr 0]) (fun _ _ _ k => ex_lstore dX12_termOf_119 (by decide) k) ?_
  exact (hg _ _ hb130).2.2.2.2.2.2.2.1 rfl
set_option maxHeartbeats 1000000 in
set_option maxRecDepth 100000 in
theorem Ref_termOf_121_t {g : (Nat × Nat × Int32 × Int32 × Int32 × Int64 × Int64 × Nat × Nat × am_H) → Option (Int64 × am_H)} (hg : ∀ s r, g s = some r → Ref_partOfG_P s r) {dd : Nat} {v0 : Nat} {v1 : Int32} {v2 : Int64} {v4 : Int32} {v5 : Int64} {h : am_H} {r : (Int64 × am_H)} (hb : Ref_termOf_121_b g dd v0 v1 v2 v4 v5 h = some r) : Sx (3 + dd) mX12_termOf 121 [.ref v0, .int v1, .long v2, .retAddr 0, .int v4, .long v5, .retAddr 0] [] h (some (.long r.1)) r.2 := by
  unfold Ref_termOf_121_b at hb
  refine Sx.o (fun _ _ _ k => ex_aload_n dX12_termOf_121 rfl rfl k) ?_
  refine Sx.o (fun _ _ _ k => ex_iload dX12_termOf_122 rfl k) ?_
  refine Sx.o (fun _ _ _ k => op_bipush (42 : Int32) dX12_termOf_124 (by decide) k) ?_
  obtain ⟨x132, e_x132, hb133⟩ := ob2 hb
  refine sx_callS (dc := 0) (as := [.int (42 : Int32)]) (stq := [.int x132, .int v4, .ref v0]) (by omega) dX12_termOf_126 MX12_sign kX12_215 tX12_sign rfl rfl (Nat.le_of_ble_eq_true rfl) (Nat.le_of_ble_eq_true rfl) (Ref_sign_s e_x132) rfl ?_
  refine Sx.bn (fun _ _ _ k1 k2 => ex_icmp_ne 139 dX12_termOf_129 (by decide) k1 k2) (fun q => ?_) (fun q => ?_)
  · have hb134 := iq q hb133
    refine Sx.o (fun _ _ _ k => ex_iload dX12_termOf_139 rfl k) ?_
    refine Sx.o (fun _ _ _ k => op_bipush (47 : Int32) dX12_termOf_141 (by decide) k) ?_
    obtain ⟨x136, e_x136, hb137⟩ := ob2 hb134
    refine sx_callS (dc := 0) (as := [.int (47 : Int32)]) (stq := [.int x136, .int v4, .ref v0]) (by omega) dX12_termOf_143 MX12_sign kX12_215 tX12_sign rfl rfl (Nat.le_of_ble_eq_true rfl) (Nat.le_of_ble_eq_true rfl) (Ref_sign_s e_x136) rfl ?_
    refine Sx.bn (fun _ _ _ k1 k2 => ex_icmp_ne 156 dX12_termOf_146 (by decide) k1 k2) (fun q => ?_) (fun q => ?_)
    · have hb138 := iq q hb137
      refine Sx.o (fun _ _ _ k => ex_lload_n dX12_termOf_156 rfl k) ?_
      refine Sx.o (fun _ _ _ k => ex_lload dX12_termOf_157 rfl k) ?_
      obtain ⟨x140, e_x140, hb141⟩ := ob2 hb138
      refine Sx.o (fun _ _ _ k => op_lrem dX12_termOf_159 e_x140 k) ?_
      refine Sx.fg [true, true, false, true, false, false, true] ?_
      exact (hg _ _ hb141).2.2.2.2.2.2.2.2.1 rfl
    · have hb139 := ip q hb137
      refine Sx.o (fun _ _ _ k => ex_lload_n dX12_termOf_149 rfl k) ?_
      refine Sx.o (fun _ _ _ k => ex_lload dX12_termOf_150 rfl k) ?_
      obtain ⟨x142, e_x142, hb143⟩ := ob2 hb139
      refine Sx.o (fun _ _ _ k => op_ldiv dX12_termOf_152 e_x142 k) ?_
      refine Sx.o (fun _ _ _ k => ex_goto 160 dX12_termOf_153 (by decide) k) ?_
      refine Sx.fg [true, true, false, true, false, false, true] ?_
      exact (hg _ _ hb143).2.2.2.2.2.2.2.2.1 rfl
  · have hb135 := ip q hb133
    refine Sx.o (fun _ _ _ k => ex_lload_n dX12_termOf_132 rfl k) ?_
    refine Sx.o (fun _ _ _ k => ex_lload dX12_termOf_133 rfl k) ?_
    refine Sx.o (fun _ _ _ k => ex_lmul dX12_termOf_135 k) ?_
    refine Sx.o (fun _ _ _ k => ex_goto 160 dX12_termOf_136 (by decide) k) ?_
    refine Sx.fg [true, true, false, true, false, false, true] ?_
    exact (hg _ _ hb135).2.2.2.2.2.2.2.2.1 rfl
set_option maxHeartbeats 1000000 in
set_option maxRecDepth 100000 in
theorem Ref_termOf_160_t {g : (Nat × Nat × Int32 × Int32 × Int32 × Int64 × Int64 × Nat × Nat × am_H) → Option (Int64 × am_H)} (hg : ∀ s r, g s = some r → Ref_partOfG_P s r) {dd : Nat} {v0 : Nat} {v1 : Int32} {s0 : Int64} {s1 : Nat} {h : am_H} {r : (Int64 × am_H)} (hb : Ref_termOf_160_b g dd v0 v1 s0 s1 h = some r) : Sx (3 + dd) mX12_termOf 160 [.ref v0, .int v1, .retAddr 0, .retAddr 0, .retAddr 0, .retAddr 0, .retAddr 0] [.long s0, .ref s1] h (some (.long r.1)) r.2 := by
  unfold Ref_termOf_160_b at hb
  refine Sx.o (fun _ _ _ k => ex_iload_n dX12_termOf_160 rfl k) ?_
  obtain ⟨r144, e_r144, hb145⟩ := ob2 hb
  refine sx_callV (dc := 0) (as := [.long s0, .int v1]) (stq := [.long r144.1]) (by omega) dX12_termOf_161 MX12_bounded kX12_273 iX12_bounded sX12_bounded rfl rfl (Ref_bounded_o e_r144) rfl rfl (Nat.le_of_ble_eq_true rfl) (Nat.le_of_ble_eq_true rfl) (Ref_bounded_s e_r144) rfl ?_
  refine Sx.o (L' := [.ref v0, .int v1, .long r144.1, .retAddr 0, .retAddr 0, .retAddr 0, .retAddr 0]) (fun _ _ _ k => ex_lstore_n dX12_termOf_164 (by decide) k) ?_
  refine Sx.o (fun _ _ _ k => ex_goto 6 dX12_termOf_165 (by decide) k) ?_
  exact (hg _ _ hb145).2.2.2.1 rfl
set_option maxHeartbeats 1000000 in
set_option maxRecDepth 100000 in
theorem Ref_sumOf_t {g : (Nat × Nat × Int32 × Int32 × Int32 × Int64 × Int64 × Nat × Nat × am_H) → Option (Int64 × am_H)} (hg : ∀ s r, g s = some r → Ref_partOfG_P s r) {dd : Nat} {v0 : Nat} {v1 : Int32} {h : am_H} {r : (Int64 × am_H)} (hb : Ref_sumOf_b g dd v0 v1 h = some r) : isO h 12 v0 = true ∧ Sx (3 + dd) mX12_sumOf 0 (am_en [.ref v0, .int v1] 7) [] h (some (.long r.1)) r.2 := by
  unfold Ref_sumOf_b at hb
  obtain ⟨ho, hb⟩ := iz hb
  refine ⟨ho, ?_⟩
  show Sx (3 + dd) mX12_sumOf 0 [.ref v0, .int v1, .retAddr 0, .retAddr 0, .retAddr 0, .retAddr 0, .retAddr 0] [] h (some (.long r.1)) r.2
  refine Sx.o (fun _ _ _ k => ex_aload_n dX12_sumOf_0 rfl rfl k) ?_
  refine Sx.o (fun _ _ _ k => ex_iload_n dX12_sumOf_1 rfl k) ?_
  obtain ⟨r147, e_r147, hb148⟩ := ob2 hb
  obtain ⟨hdd_r147, e_r147⟩ := iz e_r147
  refine sx_callV (dc := (3 + (dd - 1))) (as := [.int v1]) (stq := [.long r147.1]) (by omega) dX12_sumOf_2 MX12_termOf kX12_269 iX12_termOf sX12_termOf rfl rfl ((fun e => ((hg _ _ e).2.2.1 rfl).1) e_r147) rfl rfl (Nat.le_of_ble_eq_true rfl) (Nat.le_of_ble_eq_true rfl) ((fun e => ((hg _ _ e).2.2.1 rfl).2) e_r147) rfl ?_
  refine Sx.o (L' := [.ref v0, .int v1, .long r147.1, .retAddr 0, .retAddr 0, .retAddr 0, .retAddr 0]) (fun _ _ _ k => ex_lstore_n dX12_sumOf_5 (by decide) k) ?_
  exact (hg _ _ hb148).2.2.2.2.2.2.2.2.2.2.1 rfl
set_option maxHeartbeats 1000000 in
set_option maxRecDepth 100000 in
theorem Ref_sumOf_6_t {g : (Nat × Nat × Int32 × Int32 × Int32 × Int64 × Int64 × Nat × Nat × am_H) → Option (Int64 × am_H)} (hg : ∀ s r, g s = some r → Ref_partOfG_P s r) {dd : Nat} {v0 : Nat} {v1 : Int32} {v2 : Int64} {h : am_H} {r : (Int64 × am_H)} (hb : Ref_sumOf_6_b g dd v0 v1 v2 h = some r) : Sx (3 + dd) mX12_sumOf 6 [.ref v0, .int v1, .long v2, .retAddr 0, .retAddr 0, .retAddr 0, .retAddr 0] [] h (some (.long r.1)) r.2 := by
  unfold Ref_sumOf_6_b at hb
  refine Sx.o (fun _ _ _ k => ex_aload_n dX12_sumOf_6 rfl rfl k) ?_
  refine Sx.o (fun _ _ _ k => ex_aload_n dX12_sumOf_7 rfl rfl k) ?_
  obtain ⟨x150, e_x150, hb151⟩ := ob2 hb
  refine Sx.o (fun _ _ _ k => op_getI fX12_256 dX12_sumOf_8 e_x150 k) ?_
  obtain ⟨x152, e_x152, hb153⟩ := ob2 hb151
  refine sx_callV (dc := 0) (as := [.int x150]) (stq := [.int x152]) (by omega) dX12_sumOf_11 MX12_codeAt kX12_259 iX12_codeAt sX12_codeAt rfl rfl (Ref_codeAt_o e_x152) rfl rfl (Nat.le_of_ble_eq_true rfl) (Nat.le_of_ble_eq_true rfl) (Ref_codeAt_s e_x152) rfl ?_
  refine Sx.o (fun _ _ _ k => op_bipush (43 : Int32) dX12_sumOf_14 (by decide) k) ?_
  obtain ⟨x154, e_x154, hb155⟩ := ob2 hb153
  refine sx_callS (dc := 0) (as := [.int (43 : Int32)]) (stq := [.int x154, .int x152]) (by omega) dX12_sumOf_16 MX12_sign kX12_215 tX12_sign rfl rfl (Nat.le_of_ble_eq_true rfl) (Nat.le_of_ble_eq_true rfl) (Ref_sign_s e_x154) rfl ?_
  refine Sx.b (fun _ _ _ k1 k2 => ex_icmp_eq 38 dX12_sumOf_19 (by decide) k1 k2) (fun q => ?_) (fun q => ?_)
  · have hb156 := ip q hb155
    exact (hg _ _ hb156).2.2.2.2.2.2.2.2.2.2.2.1 rfl
  · have hb157 := iq q hb155
    refine Sx.o (fun _ _ _ k => ex_aload_n dX12_sumOf_22 rfl rfl k) ?_
    refine Sx.o (fun _ _ _ k => ex_aload_n dX12_sumOf_23 rfl rfl k) ?_
    obtain ⟨x158, e_x158, hb159⟩ := ob2 hb157
    refine Sx.o (fun _ _ _ k => op_getI fX12_256 dX12_sumOf_24 e_x158 k) ?_
    obtain ⟨x160, e_x160, hb161⟩ := ob2 hb159
    refine sx_callV (dc := 0) (as := [.int x158]) (stq := [.int x160]) (by omega) dX12_sumOf_27 MX12_codeAt kX12_259 iX12_codeAt sX12_codeAt rfl rfl (Ref_codeAt_o e_x160) rfl rfl (Nat.le_of_ble_eq_true rfl) (Nat.le_of_ble_eq_true rfl) (Ref_codeAt_s e_x160) rfl ?_
    refine Sx.o (fun _ _ _ k => op_bipush (45 : Int32) dX12_sumOf_30 (by decide) k) ?_
    obtain ⟨x162, e_x162, hb163⟩ := ob2 hb161
    refine sx_callS (dc := 0) (as := [.int (45 : Int32)]) (stq := [.int x162, .int x160]) (by omega) dX12_sumOf_32 MX12_sign kX12_215 tX12_sign rfl rfl (Nat.le_of_ble_eq_true rfl) (Nat.le_of_ble_eq_true rfl) (Ref_sign_s e_x162) rfl ?_
    refine Sx.bn (fun _ _ _ k1 k2 => ex_icmp_ne 103 dX12_sumOf_35 (by decide) k1 k2) (fun q => ?_) (fun q => ?_)
    · have hb164 := iq q hb163
      refine Sx.o (fun _ _ _ k => ex_lload_n dX12_sumOf_103 rfl k) ?_
      obtain rfl := Option.some.inj hb164
      exact Sx.r (fun _ _ _ k => ex_lret rfl dX12_sumOf_104 k)
    · have hb165 := ip q hb163
      exact (hg _ _ hb165).2.2.2.2.2.2.2.2.2.2.2.1 rfl
set_option maxHeartbeats 1000000 in
set_option maxRecDepth 100000 in
theorem Ref_sumOf_38_t {g : (Nat × Nat × Int32 × Int32 × Int32 × Int64 × Int64 × Nat × Nat × am_H) → Option (Int64 × am_H)} (hg : ∀ s r, g s = some r → Ref_partOfG_P s r) {dd : Nat} {v0 : Nat} {v1 : Int32} {v2 : Int64} {h : am_H} {r : (Int64 × am_H)} (hb : Ref_sumOf_38_b g dd v0 v1 v2 h = some r) : Sx (3 + dd) mX12_sumOf 38 [.ref v0, .int v1, .long v2, .retAddr 0, .retAddr 0, .retAddr 0, .retAddr 0] [] h (some (.long r.1)) r.2 := by
  unfold Ref_sumOf_38_b at hb
  refine Sx.o (fun _ _ _ k => ex_aload_n dX12_sumOf_38 rfl rfl k) ?_
  refine Sx.o (fun _ _ _ k => ex_aload_n dX12_sumOf_39 rfl rfl k) ?_
  obtain ⟨x166, e_x166, hb167⟩ := ob2 hb
  refine Sx.o (fun _ _ _ k => op_getI fX12_256 dX12_sumOf_40 e_x166 k) ?_
  obtain ⟨x168, e_x168, hb169⟩ := ob2 hb167
  refine sx_callV (dc := 0) (as := [.int x166]) (stq := [.int x168]) (by omega) dX12_sumOf_43 MX12_codeAt kX12_259 iX12_codeAt sX12_codeAt rfl rfl (Ref_codeAt_o e_x168) rfl rfl (Nat.le_of_ble_eq_true rfl) (Nat.le_of_ble_eq_true rfl) (Ref_codeAt_s e_x168) rfl ?_
  refine Sx.o (fun _ _ _ k => op_bipush (43 : Int32) dX12_sumOf_46 (by decide) k) ?_
  obtain ⟨x170, e_x170, hb171⟩ := ob2 hb169
  refine sx_callS (dc := 0) (as := [.int (43 : Int32)]) (stq := [.int x170, .int x168]) (by omega) dX12_sumOf_48 MX12_sign kX12_215 tX12_sign rfl rfl (Nat.le_of_ble_eq_true rfl) (Nat.le_of_ble_eq_true rfl) (Ref_sign_s e_x170) rfl ?_
  refine Sx.bn (fun _ _ _ k1 k2 => ex_icmp_ne 58 dX12_sumOf_51 (by decide) k1 k2) (fun q => ?_) (fun q => ?_)
  · have hb172 := iq q hb171
    refine Sx.o (fun _ _ _ k => op_iconst (0 : Int32) dX12_sumOf_58 (by decide) k) ?_
    exact (hg _ _ hb172).2.2.2.2.2.2.2.2.2.2.2.2.1 rfl
  · have hb173 := ip q hb171
    refine Sx.o (fun _ _ _ k => op_iconst (1 : Int32) dX12_sumOf_54 (by decide) k) ?_
    refine Sx.o (fun _ _ _ k => ex_goto 59 dX12_sumOf_55 (by decide) k) ?_
    exact (hg _ _ hb173).2.2.2.2.2.2.2.2.2.2.2.2.1 rfl
set_option maxHeartbeats 1000000 in
set_option maxRecDepth 100000 in
theorem Ref_sumOf_59_t {g : (Nat × Nat × Int32 × Int32 × Int32 × Int64 × Int64 × Nat × Nat × am_H) → Option (Int64 × am_H)} (hg : ∀ s r, g s = some r → Ref_partOfG_P s r) {dd : Nat} {v0 : Nat} {v1 : Int32} {v2 : Int64} {s0 : Int32} {h : am_H} {r : (Int64 × am_H)} (hb : Ref_sumOf_59_b g dd v0 v1 v2 s0 h = some r) : Sx (3 + dd) mX12_sumOf 59 [.ref v0, .int v1, .long v2, .retAddr 0, .retAddr 0, .retAddr 0, .retAddr 0] [.int s0] h (some (.long r.1)) r.2 := by
  unfold Ref_sumOf_59_b at hb
  refine Sx.o (L' := [.ref v0, .int v1, .long v2, .retAddr 0, .int s0, .retAddr 0, .retAddr 0]) (fun _ _ _ k => ex_istore dX12_sumOf_59 (by decide) k) ?_
  refine Sx.o (fun _ _ _ k => ex_aload_n dX12_sumOf_61 rfl rfl k) ?_
  refine Sx.o (fun _ _ _ k => ex_dup dX12_sumOf_62 rfl k) ?_
  obtain ⟨x174, e_x174, hb175⟩ := ob2 hb
  refine Sx.o (fun _ _ _ k => op_getI fX12_256 dX12_sumOf_63 e_x174 k) ?_
  refine Sx.o (fun _ _ _ k => op_iconst (1 : Int32) dX12_sumOf_66 (by decide) k) ?_
  refine Sx.o (fun _ _ _ k => ex_iadd dX12_sumOf_67 k) ?_
  obtain ⟨h176, e_h176, hb177⟩ := ob2 hb175
  refine Sx.p (pV_q e_h176) (fun _ _ _ k => op_put pX12_256 dX12_sumOf_68 e_h176 (fun _ => rfl) (fun _ => rfl) k) ?_
  refine Sx.o (fun _ _ _ k => ex_aload_n dX12_sumOf_71 rfl rfl k) ?_
  refine Sx.o (fun _ _ _ k => ex_iload_n dX12_sumOf_72 rfl k) ?_
  obtain ⟨r179, e_r179, hb180⟩ := ob2 hb177
  obtain ⟨hdd_r179, e_r179⟩ := iz e_r179
  refine sx_callV (dc := (3 + (dd - 1))) (as := [.int v1]) (stq := [.long r179.1]) (by omega) dX12_sumOf_73 MX12_termOf kX12_269 iX12_termOf sX12_termOf rfl rfl ((fun e => ((hg _ _ e).2.2.1 rfl).1) e_r179) rfl rfl (Nat.le_of_ble_eq_true rfl) (Nat.le_of_ble_eq_true rfl) ((fun e => ((hg _ _ e).2.2.1 rfl).2) e_r179) rfl ?_
  refine Sx.o (L' := [.ref v0, .int v1, .long v2, .retAddr 0, .int s0, .long r179.1, .retAddr 0]) (fun _ _ _ k => ex_lstore dX12_sumOf_76 (by decide) k) ?_
  refine Sx.o (fun _ _ _ k => ex_aload_n dX12_sumOf_78 rfl rfl k) ?_
  refine Sx.o (fun _ _ _ k => ex_iload dX12_sumOf_79 rfl k) ?_
  refine Sx.b (fun _ _ _ k1 k2 => ex_if_eq 91 dX12_sumOf_81 (by decide) k1 k2) (fun q => ?_) (fun q => ?_)
  · have hb182 := ip q hb180
    refine Sx.o (fun _ _ _ k => ex_lload_n dX12_sumOf_91 rfl k) ?_
    refine Sx.o (fun _ _ _ k => ex_lload dX12_sumOf_92 rfl k) ?_
    refine Sx.o (fun _ _ _ k => ex_lsub dX12_sumOf_94 k) ?_
    refine Sx.fg [true, true, false, true, false, false, true] ?_
    exact (hg _ _ hb182).2.2.2.2.2.2.2.2.2.2.2.2.2.1 rfl
  · have hb183 := iq q hb180
    refine Sx.o (fun _ _ _ k => ex_lload_n dX12_sumOf_84 rfl k) ?_
    refine Sx.o (fun _ _ _ k => ex_lload dX12_sumOf_85 rfl k) ?_
    refine Sx.o (fun _ _ _ k => ex_ladd dX12_sumOf_87 k) ?_
    refine Sx.o (fun _ _ _ k => ex_goto 95 dX12_sumOf_88 (by decide) k) ?_
    refine Sx.fg [true, true, false, true, false, false, true] ?_
    exact (hg _ _ hb183).2.2.2.2.2.2.2.2.2.2.2.2.2.1 rfl
set_option maxHeartbeats 1000000 in
set_option maxRecDepth 100000 in
theorem Ref_sumOf_95_t {g : (Nat × Nat × Int32 × Int32 × Int32 × Int64 × Int64 × Nat × Nat × am_H) → Option (Int64 × am_H)} (hg : ∀ s r, g s = some r → Ref_partOfG_P s r) {dd : Nat} {v0 : Nat} {v1 : Int32} {s0 : Int64} {s1 : Nat} {h : am_H} {r : (Int64 × am_H)} (hb : Ref_sumOf_95_b g dd v0 v1 s0 s1 h = some r) : Sx (3 + dd) mX12_sumOf 95 [.ref v0, .int v1, .retAddr 0, .retAddr 0, .retAddr 0, .retAddr 0, .retAddr 0] [.long s0, .ref s1] h (some (.long r.1)) r.2 := by
  unfold Ref_sumOf_95_b at hb
  refine Sx.o (fun _ _ _ k => ex_iload_n dX12_sumOf_95 rfl k) ?_
  obtain ⟨r184, e_r184, hb185⟩ := ob2 hb
  refine sx_callV (dc := 0) (as := [.long s0, .int v1]) (stq := [.long r184.1]) (by omega) dX12_sumOf_96 MX12_bounded kX12_273 iX12_bounded sX12_bounded rfl rfl (Ref_bounded_o e_r184) rfl rfl (Nat.le_of_ble_eq_true rfl) (Nat.le_of_ble_eq_true rfl) (Ref_bounded_s e_r184) rfl ?_
  refine Sx.o (L' := [.ref v0, .int v1, .long r184.1, .retAddr 0, .retAddr 0, .retAddr 0, .retAddr 0]) (fun _ _ _ k => ex_lstore_n dX12_sumOf_99 (by decide) k) ?_
  refine Sx.o (fun _ _ _ k => ex_goto 6 dX12_sumOf_100 (by decide) k) ?_
  exact (hg _ _ hb185).2.2.2.2.2.2.2.2.2.2.1 rfl
theorem Ref_partOfG_T : ∀ s r, fx Ref_partOfG_F Ref_partOfG_M s = some r → Ref_partOfG_P s r := fx_ind Ref_partOfG_M Ref_partOfG_P (fun g hg s r hb => by
  unfold Ref_partOfG_F at hb
  exact ⟨fun q => Ref_partOf_t hg (ip q hb), fun q => Ref_partOf_89_t hg (ip q (iq (by rw [q]; decide) hb)), fun q => Ref_termOf_t hg (ip q (iq (by rw [q]; decide) (iq (by rw [q]; decide) hb))), fun q => Ref_termOf_6_t hg (ip q (iq (by rw [q]; decide) (iq (by rw [q]; decide) (iq (by rw [q]; decide) hb)))), fun q => Ref_termOf_54_t hg (ip q (iq (by rw [q]; decide) (iq (by rw [q]; decide) (iq (by rw [q]; decide) (iq (by rw [q]; decide) hb))))), fun q => Ref_termOf_110_t hg (ip q (iq (by rw [q]; decide) (iq (by rw [q]; decide) (iq (by rw [q]; decide) (iq (by rw [q]; decide) (iq (by rw [q]; decide) hb)))))), fun q => Ref_termOf_115_t hg (ip q (iq (by rw [q]; decide) (iq (by rw [q]; decide) (iq (by rw [q]; decide) (iq (by rw [q]; decide) (iq (by rw [q]; decide) (iq (by rw [q]; decide) hb))))))), fun q => Ref_termOf_121_t hg (ip q (iq (by rw [q]; decide) (iq (by rw [q]; decide) (iq (by rw [q]; decide) (iq (by rw [q]; decide) (iq (by rw [q]; decide) (iq (by rw [q]; decide) (iq (by rw [q]; decide) hb)))))))), fun q => Ref_termOf_160_t hg (ip q (iq (by rw [q]; decide) (iq (by rw [q]; decide) (iq (by rw [q]; decide) (iq (by rw [q]; decide) (iq (by rw [q]; decide) (iq (by rw [q]; decide) (iq (by rw [q]; decide) (iq (by rw [q]; decide) hb))))))))), fun q => Ref_sumOf_t hg (ip q (iq (by rw [q]; decide) (iq (by rw [q]; decide) (iq (by rw [q]; decide) (iq (by rw [q]; decide) (iq (by rw [q]; decide) (iq (by rw [q]; decide) (iq (by rw [q]; decide) (iq (by rw [q]; decide) (iq (by rw [q]; decide) hb)))))))))), fun q => Ref_sumOf_6_t hg (ip q (iq (by rw [q]; decide) (iq (by rw [q]; decide) (iq (by rw [q]; decide) (iq (by rw [q]; decide) (iq (by rw [q]; decide) (iq (by rw [q]; decide) (iq (by rw [q]; decide) (iq (by rw [q]; decide) (iq (by rw [q]; decide) (iq (by rw [q]; decide) hb))))))))))), fun q => Ref_sumOf_38_t hg (ip q (iq (by rw [q]; decide) (iq (by rw [q]; decide) (iq (by rw [q]; decide) (iq (by rw [q]; decide) (iq (by rw [q]; decide) (iq (by rw [q]; decide) (iq (by rw [q]; decide) (iq (by rw [q]; decide) (iq (by rw [q]; decide) (iq (by rw [q]; decide) (iq (by rw [q]; decide) hb)))))))))))), fun q => Ref_sumOf_59_t hg (ip q (iq (by rw [q]; decide) (iq (by rw [q]; decide) (iq (by rw [q]; decide) (iq (by rw [q]; decide) (iq (by rw [q]; decide) (iq (by rw [q]; decide) (iq (by rw [q]; decide) (iq (by rw [q]; decide) (iq (by rw [q]; decide) (iq (by rw [q]; decide) (iq (by rw [q]; decide) (iq (by rw [q]; decide) hb))))))))))))), fun q => Ref_sumOf_95_t hg (ip q (iq (by rw [q]; decide) (iq (by rw [q]; decide) (iq (by rw [q]; decide) (iq (by rw [q]; decide) (iq (by rw [q]; decide) (iq (by rw [q]; decide) (iq (by rw [q]; decide) (iq (by rw [q]; decide) (iq (by rw [q]; decide) (iq (by rw [q]; decide) (iq (by rw [q]; decide) (iq (by rw [q]; decide) (iq (by rw [q]; decide) hb)))))))))))))), trivial⟩)
set_option maxHeartbeats 1000000 in
set_option maxRecDepth 100000 in
theorem Ref_partOf_r {g : (Nat × Nat × Int32 × Int32 × Int32 × Int64 × Int64 × Nat × Nat × am_H) → Option (Int64 × am_H)} (hg : ∀ s r, g s = some r → Eqs s.2.2.2.2.2.2.2.2.2 r.2) {dd : Nat} {v0 : Nat} {v1 : Int32} {h : am_H} {r : (Int64 × am_H)} (hb : Ref_partOf_b g dd v0 v1 h = some r) : Eqs h r.2 := by
  unfold Ref_partOf_b at hb
  have w0 := Eqs.rf h
  obtain ⟨ho, hb⟩ := iz hb
  obtain ⟨x1, e_x1, hb2⟩ := ob2 hb
  obtain ⟨r3, e_r3, hb4⟩ := ob2 hb2
  have w5 := w0.tr (Ref_passes0_q e_r3)
  by_cases q : r3.1 = (0 : Int32)
  · have hb6 := ip q hb4
    obtain ⟨x8, e_x8, hb9⟩ := ob2 hb6
    obtain ⟨x10, e_x10, hb11⟩ := ob2 hb9
    obtain ⟨x12, e_x12, hb13⟩ := ob2 hb11
    obtain ⟨h14, e_h14, hb15⟩ := ob2 hb13
    have w16 := w5.tr (pV_q e_h14)
    obtain ⟨x17, e_x17, hb18⟩ := ob2 hb15
    by_cases q : x17 = (0 : Int32)
    · have hb19 := ip q hb18
      exact w16.tr (hg _ _ hb19)
    · have hb20 := iq q hb18
      obtain ⟨x21, e_x21, hb22⟩ := ob2 hb20
      by_cases q : x21 = (0 : Int32)
      · have hb23 := ip q hb22
        exact w16.tr (hg _ _ hb23)
      · have hb24 := iq q hb22
        obtain ⟨x25, e_x25, hb26⟩ := ob2 hb24
        obtain ⟨x27, e_x27, hb28⟩ := ob2 hb26
        obtain ⟨x29, e_x29, hb30⟩ := ob2 hb28
        obtain ⟨x31, e_x31, hb32⟩ := ob2 hb30
        obtain ⟨h33, e_h33, hb34⟩ := ob2 hb32
        have w35 := w16.tr (pV_q e_h33)
        exact w35.tr (hg _ _ hb34)
  · have hb7 := iq q hb4
    obtain ⟨r36, e_r36, hb37⟩ := ob2 hb7
    obtain ⟨hdd_r36, e_r36⟩ := iz e_r36
    have w38 := w5.tr (hg _ _ e_r36)
    obtain ⟨x39, e_x39, hb40⟩ := ob2 hb37
    obtain ⟨h41, e_h41, hb42⟩ := ob2 hb40
    have w43 := w38.tr (pV_q e_h41)
    obtain rfl := Option.some.inj hb42
    exact w43
set_option maxHeartbeats 1000000 in
set_option maxRecDepth 100000 in
theorem Ref_partOf_89_r {g : (Nat × Nat × Int32 × Int32 × Int32 × Int64 × Int64 × Nat × Nat × am_H) → Option (Int64 × am_H)} (hg : ∀ s r, g s = some r → Eqs s.2.2.2.2.2.2.2.2.2 r.2) {dd : Nat} {v0 : Nat} {v1 : Int32} {v2 : Int32} {v3 : Int32} {h : am_H} {r : (Int64 × am_H)} (hb : Ref_partOf_89_b g dd v0 v1 v2 v3 h = some r) : Eqs h r.2 := by
  unfold Ref_partOf_89_b at hb
  have w0 := Eqs.rf h
  by_cases q : v1 = (0 : Int32)
  · have hb44 := ip q hb
    obtain rfl := Option.some.inj hb44
    exact w0
  · have hb45 := iq q hb
    obtain ⟨x46, e_x46, hb47⟩ := ob2 hb45
    by_cases q : x46 = (0 : Int32)
    · have hb48 := ip q hb47
      by_cases q : v2 = (50 : Int32)
      · have hb51 := ip q hb48
        obtain ⟨x70, e_x70, hb71⟩ := ob2 hb51
        obtain ⟨x72, e_x72, hb73⟩ := ob2 hb71
        obtain ⟨x74, e_x74, hb75⟩ := ob2 hb73
        obtain rfl := Option.some.inj hb75
        exact w0
      · have hb50 := iq q hb48
        obtain ⟨x52, e_x52, hb53⟩ := ob2 hb50
        by_cases q : x52 = (0 : Int32)
        · have hb55 := ip q hb53
          obtain ⟨x66, e_x66, hb67⟩ := ob2 hb55
          obtain ⟨x68, e_x68, hb69⟩ := ob2 hb67
          obtain rfl := Option.some.inj hb69
          exact w0
        · have hb54 := iq q hb53
          obtain ⟨x56, e_x56, hb57⟩ := ob2 hb54
          by_cases q : x56 = (0 : Int32)
          · have hb58 := ip q hb57
            obtain ⟨x60, e_x60, hb61⟩ := ob2 hb58
            obtain ⟨x62, e_x62, hb63⟩ := ob2 hb61
            obtain rfl := Option.some.inj hb63
            exact w0
          · have hb59 := iq q hb57
            obtain ⟨x64, e_x64, hb65⟩ := ob2 hb59
            obtain rfl := Option.some.inj hb65
            exact w0
    · have hb49 := iq q hb47
      obtain rfl := Option.some.inj hb49
      exact w0
set_option maxHeartbeats 1000000 in
set_option maxRecDepth 100000 in
theorem Ref_termOf_r {g : (Nat × Nat × Int32 × Int32 × Int32 × Int64 × Int64 × Nat × Nat × am_H) → Option (Int64 × am_H)} (hg : ∀ s r, g s = some r → Eqs s.2.2.2.2.2.2.2.2.2 r.2) {dd : Nat} {v0 : Nat} {v1 : Int32} {h : am_H} {r : (Int64 × am_H)} (hb : Ref_termOf_b g dd v0 v1 h = some r) : Eqs h r.2 := by
  unfold Ref_termOf_b at hb
  have w0 := Eqs.rf h
  obtain ⟨ho, hb⟩ := iz hb
  obtain ⟨r76, e_r76, hb77⟩ := ob2 hb
  obtain ⟨hdd_r76, e_r76⟩ := iz e_r76
  have w78 := w0.tr (hg _ _ e_r76)
  exact w78.tr (hg _ _ hb77)
set_option maxHeartbeats 1000000 in
set_option maxRecDepth 100000 in
theorem Ref_termOf_6_r {g : (Nat × Nat × Int32 × Int32 × Int32 × Int64 × Int64 × Nat × Nat × am_H) → Option (Int64 × am_H)} (hg : ∀ s r, g s = some r → Eqs s.2.2.2.2.2.2.2.2.2 r.2) {dd : Nat} {v0 : Nat} {v1 : Int32} {v2 : Int64} {h : am_H} {r : (Int64 × am_H)} (hb : Ref_termOf_6_b g dd v0 v1 v2 h = some r) : Eqs h r.2 := by
  unfold Ref_termOf_6_b at hb
  have w0 := Eqs.rf h
  obtain ⟨x79, e_x79, hb80⟩ := ob2 hb
  obtain ⟨x81, e_x81, hb82⟩ := ob2 hb80
  obtain ⟨x83, e_x83, hb84⟩ := ob2 hb82
  by_cases q : x81 = x83
  · have hb85 := ip q hb84
    exact w0.tr (hg _ _ hb85)
  · have hb86 := iq q hb84
    obtain ⟨x87, e_x87, hb88⟩ := ob2 hb86
    obtain ⟨x89, e_x89, hb90⟩ := ob2 hb88
    obtain ⟨x91, e_x91, hb92⟩ := ob2 hb90
    by_cases q : x89 = x91
    · have hb93 := ip q hb92
      exact w0.tr (hg _ _ hb93)
    · have hb94 := iq q hb92
      obtain ⟨x95, e_x95, hb96⟩ := ob2 hb94
      obtain ⟨x97, e_x97, hb98⟩ := ob2 hb96
      obtain ⟨x99, e_x99, hb100⟩ := ob2 hb98
      by_cases q : x97 = x99
      · have hb102 := ip q hb100
        exact w0.tr (hg _ _ hb102)
      · have hb101 := iq q hb100
        obtain rfl := Option.some.inj hb101
        exact w0
set_option maxHeartbeats 1000000 in
set_option maxRecDepth 100000 in
theorem Ref_termOf_54_r {g : (Nat × Nat × Int32 × Int32 × Int32 × Int64 × Int64 × Nat × Nat × am_H) → Option (Int64 × am_H)} (hg : ∀ s r, g s = some r → Eqs s.2.2.2.2.2.2.2.2.2 r.2) {dd : Nat} {v0 : Nat} {v1 : Int32} {v2 : Int64} {h : am_H} {r : (Int64 × am_H)} (hb : Ref_termOf_54_b g dd v0 v1 v2 h = some r) : Eqs h r.2 := by
  unfold Ref_termOf_54_b at hb
  have w0 := Eqs.rf h
  obtain ⟨x103, e_x103, hb104⟩ := ob2 hb
  obtain ⟨x105, e_x105, hb106⟩ := ob2 hb104
  obtain ⟨x107, e_x107, hb108⟩ := ob2 hb106
  obtain ⟨h109, e_h109, hb110⟩ := ob2 hb108
  have w111 := w0.tr (pV_q e_h109)
  obtain ⟨r112, e_r112, hb113⟩ := ob2 hb110
  obtain ⟨hdd_r112, e_r112⟩ := iz e_r112
  have w114 := w111.tr (hg _ _ e_r112)
  obtain ⟨x115, e_x115, hb116⟩ := ob2 hb113
  by_cases q : x105 = x115
  · have hb117 := ip q hb116
    exact w114.tr (hg _ _ hb117)
  · have hb118 := iq q hb116
    by_cases q : (lg_cmp r112.1 (0 : Int64)) = (0 : Int32)
    · have hb120 := ip q hb118
      obtain ⟨x121, e_x121, hb122⟩ := ob2 hb120
      by_cases q : x121 = (0 : Int32)
      · have hb124 := ip q hb122
        by_cases q : v1 = (0 : Int32)
        · have hb125 := ip q hb124
          exact w114.tr (hg _ _ hb125)
        · have hb126 := iq q hb124
          exact w114.tr (hg _ _ hb126)
      · have hb123 := iq q hb122
        exact w114.tr (hg _ _ hb123)
    · have hb119 := iq q hb118
      exact w114.tr (hg _ _ hb119)
set_option maxHeartbeats 1000000 in
set_option maxRecDepth 100000 in
theorem Ref_termOf_110_r {g : (Nat × Nat × Int32 × Int32 × Int32 × Int64 × Int64 × Nat × Nat × am_H) → Option (Int64 × am_H)} (hg : ∀ s r, g s = some r → Eqs s.2.2.2.2.2.2.2.2.2 r.2) {dd : Nat} {v0 : Nat} {v1 : Int32} {v2 : Int64} {v4 : Int32} {s0 : Nat} {h : am_H} {r : (Int64 × am_H)} (hb : Ref_termOf_110_b g dd v0 v1 v2 v4 s0 h = some r) : Eqs h r.2 := by
  unfold Ref_termOf_110_b at hb
  have w0 := Eqs.rf h
  exact w0.tr (hg _ _ hb)
set_option maxHeartbeats 1000000 in
set_option maxRecDepth 100000 in
theorem Ref_termOf_115_r {g : (Nat × Nat × Int32 × Int32 × Int32 × Int64 × Int64 × Nat × Nat × am_H) → Option (Int64 × am_H)} (hg : ∀ s r, g s = some r → Eqs s.2.2.2.2.2.2.2.2.2 r.2) {dd : Nat} {v0 : Nat} {v1 : Int32} {v2 : Int64} {v4 : Int32} {s0 : Int32} {s1 : Nat} {h : am_H} {r : (Int64 × am_H)} (hb : Ref_termOf_115_b g dd v0 v1 v2 v4 s0 s1 h = some r) : Eqs h r.2 := by
  unfold Ref_termOf_115_b at hb
  have w0 := Eqs.rf h
  obtain ⟨u127, e_u127, hb128⟩ := ob2 hb
  obtain ⟨h129, e_h129, hb130⟩ := ob2 hb128
  have w131 := w0.tr (pV_q e_h129)
  exact w131.tr (hg _ _ hb130)
set_option maxHeartbeats 1000000 in
set_option maxRecDepth 100000 in
theorem Ref_termOf_121_r {g : (Nat × Nat × Int32 × Int32 × Int32 × Int64 × Int64 × Nat × Nat × am_H) → Option (Int64 × am_H)} (hg : ∀ s r, g s = some r → Eqs s.2.2.2.2.2.2.2.2.2 r.2) {dd : Nat} {v0 : Nat} {v1 : Int32} {v2 : Int64} {v4 : Int32} {v5 : Int64} {h : am_H} {r : (Int64 × am_H)} (hb : Ref_termOf_121_b g dd v0 v1 v2 v4 v5 h = some r) : Eqs h r.2 := by
  unfold Ref_termOf_121_b at hb
  have w0 := Eqs.rf h
  obtain ⟨x132, e_x132, hb133⟩ := ob2 hb
  by_cases q : v4 = x132
  · have hb135 := ip q hb133
    exact w0.tr (hg _ _ hb135)
  · have hb134 := iq q hb133
    obtain ⟨x136, e_x136, hb137⟩ := ob2 hb134
    by_cases q : v4 = x136
    · have hb139 := ip q hb137
      obtain ⟨x142, e_x142, hb143⟩ := ob2 hb139
      exact w0.tr (hg _ _ hb143)
    · have hb138 := iq q hb137
      obtain ⟨x140, e_x140, hb141⟩ := ob2 hb138
      exact w0.tr (hg _ _ hb141)
set_option maxHeartbeats 1000000 in
set_option maxRecDepth 100000 in
theorem Ref_termOf_160_r {g : (Nat × Nat × Int32 × Int32 × Int32 × Int64 × Int64 × Nat × Nat × am_H) → Option (Int64 × am_H)} (hg : ∀ s r, g s = some r → Eqs s.2.2.2.2.2.2.2.2.2 r.2) {dd : Nat} {v0 : Nat} {v1 : Int32} {s0 : Int64} {s1 : Nat} {h : am_H} {r : (Int64 × am_H)} (hb : Ref_termOf_160_b g dd v0 v1 s0 s1 h = some r) : Eqs h r.2 := by
  unfold Ref_termOf_160_b at hb
  have w0 := Eqs.rf h
  obtain ⟨r144, e_r144, hb145⟩ := ob2 hb
  have w146 := w0.tr (Ref_bounded_q e_r144)
  exact w146.tr (hg _ _ hb145)
set_option maxHeartbeats 1000000 in
set_option maxRecDepth 100000 in
theorem Ref_sumOf_r {g : (Nat × Nat × Int32 × Int32 × Int32 × Int64 × Int64 × Nat × Nat × am_H) → Option (Int64 × am_H)} (hg : ∀ s r, g s = some r → Eqs s.2.2.2.2.2.2.2.2.2 r.2) {dd : Nat} {v0 : Nat} {v1 : Int32} {h : am_H} {r : (Int64 × am_H)} (hb : Ref_sumOf_b g dd v0 v1 h = some r) : Eqs h r.2 := by
  unfold Ref_sumOf_b at hb
  have w0 := Eqs.rf h
  obtain ⟨ho, hb⟩ := iz hb
  obtain ⟨r147, e_r147, hb148⟩ := ob2 hb
  obtain ⟨hdd_r147, e_r147⟩ := iz e_r147
  have w149 := w0.tr (hg _ _ e_r147)
  exact w149.tr (hg _ _ hb148)
set_option maxHeartbeats 1000000 in
set_option maxRecDepth 100000 in
theorem Ref_sumOf_6_r {g : (Nat × Nat × Int32 × Int32 × Int32 × Int64 × Int64 × Nat × Nat × am_H) → Option (Int64 × am_H)} (hg : ∀ s r, g s = some r → Eqs s.2.2.2.2.2.2.2.2.2 r.2) {dd : Nat} {v0 : Nat} {v1 : Int32} {v2 : Int64} {h : am_H} {r : (Int64 × am_H)} (hb : Ref_sumOf_6_b g dd v0 v1 v2 h = some r) : Eqs h r.2 := by
  unfold Ref_sumOf_6_b at hb
  have w0 := Eqs.rf h
  obtain ⟨x150, e_x150, hb151⟩ := ob2 hb
  obtain ⟨x152, e_x152, hb153⟩ := ob2 hb151
  obtain ⟨x154, e_x154, hb155⟩ := ob2 hb153
  by_cases q : x152 = x154
  · have hb156 := ip q hb155
    exact w0.tr (hg _ _ hb156)
  · have hb157 := iq q hb155
    obtain ⟨x158, e_x158, hb159⟩ := ob2 hb157
    obtain ⟨x160, e_x160, hb161⟩ := ob2 hb159
    obtain ⟨x162, e_x162, hb163⟩ := ob2 hb161
    by_cases q : x160 = x162
    · have hb165 := ip q hb163
      exact w0.tr (hg _ _ hb165)
    · have hb164 := iq q hb163
      obtain rfl := Option.some.inj hb164
      exact w0
set_option maxHeartbeats 1000000 in
set_option maxRecDepth 100000 in
theorem Ref_sumOf_38_r {g : (Nat × Nat × Int32 × Int32 × Int32 × Int64 × Int64 × Nat × Nat × am_H) → Option (Int64 × am_H)} (hg : ∀ s r, g s = some r → Eqs s.2.2.2.2.2.2.2.2.2 r.2) {dd : Nat} {v0 : Nat} {v1 : Int32} {v2 : Int64} {h : am_H} {r : (Int64 × am_H)} (hb : Ref_sumOf_38_b g dd v0 v1 v2 h = some r) : Eqs h r.2 := by
  unfold Ref_sumOf_38_b at hb
  have w0 := Eqs.rf h
  obtain ⟨x166, e_x166, hb167⟩ := ob2 hb
  obtain ⟨x168, e_x168, hb169⟩ := ob2 hb167
  obtain ⟨x170, e_x170, hb171⟩ := ob2 hb169
  by_cases q : x168 = x170
  · have hb173 := ip q hb171
    exact w0.tr (hg _ _ hb173)
  · have hb172 := iq q hb171
    exact w0.tr (hg _ _ hb172)
set_option maxHeartbeats 1000000 in
set_option maxRecDepth 100000 in
theorem Ref_sumOf_59_r {g : (Nat × Nat × Int32 × Int32 × Int32 × Int64 × Int64 × Nat × Nat × am_H) → Option (Int64 × am_H)} (hg : ∀ s r, g s = some r → Eqs s.2.2.2.2.2.2.2.2.2 r.2) {dd : Nat} {v0 : Nat} {v1 : Int32} {v2 : Int64} {s0 : Int32} {h : am_H} {r : (Int64 × am_H)} (hb : Ref_sumOf_59_b g dd v0 v1 v2 s0 h = some r) : Eqs h r.2 := by
  unfold Ref_sumOf_59_b at hb
  have w0 := Eqs.rf h
  obtain ⟨x174, e_x174, hb175⟩ := ob2 hb
  obtain ⟨h176, e_h176, hb177⟩ := ob2 hb175
  have w178 := w0.tr (pV_q e_h176)
  obtain ⟨r179, e_r179, hb180⟩ := ob2 hb177
  obtain ⟨hdd_r179, e_r179⟩ := iz e_r179
  have w181 := w178.tr (hg _ _ e_r179)
  by_cases q : s0 = (0 : Int32)
  · have hb182 := ip q hb180
    exact w181.tr (hg _ _ hb182)
  · have hb183 := iq q hb180
    exact w181.tr (hg _ _ hb183)
set_option maxHeartbeats 1000000 in
set_option maxRecDepth 100000 in
theorem Ref_sumOf_95_r {g : (Nat × Nat × Int32 × Int32 × Int32 × Int64 × Int64 × Nat × Nat × am_H) → Option (Int64 × am_H)} (hg : ∀ s r, g s = some r → Eqs s.2.2.2.2.2.2.2.2.2 r.2) {dd : Nat} {v0 : Nat} {v1 : Int32} {s0 : Int64} {s1 : Nat} {h : am_H} {r : (Int64 × am_H)} (hb : Ref_sumOf_95_b g dd v0 v1 s0 s1 h = some r) : Eqs h r.2 := by
  unfold Ref_sumOf_95_b at hb
  have w0 := Eqs.rf h
  obtain ⟨r184, e_r184, hb185⟩ := ob2 hb
  have w186 := w0.tr (Ref_bounded_q e_r184)
  exact w186.tr (hg _ _ hb185)
theorem Ref_partOfG_Q : ∀ s r, fx Ref_partOfG_F Ref_partOfG_M s = some r → Eqs s.2.2.2.2.2.2.2.2.2 r.2 := fx_ind Ref_partOfG_M (fun s r => Eqs s.2.2.2.2.2.2.2.2.2 r.2) (fun g hg s r hb => by
  unfold Ref_partOfG_F at hb
  by_cases q0 : s.1 = 0
  · exact Ref_partOf_r hg (ip q0 hb)
  · have hb0 := iq q0 hb
    by_cases q1 : s.1 = 89
    · exact Ref_partOf_89_r hg (ip q1 hb0)
    · have hb1 := iq q1 hb0
      by_cases q2 : s.1 = 10000
      · exact Ref_termOf_r hg (ip q2 hb1)
      · have hb2 := iq q2 hb1
        by_cases q3 : s.1 = 10006
        · exact Ref_termOf_6_r hg (ip q3 hb2)
        · have hb3 := iq q3 hb2
          by_cases q4 : s.1 = 10054
          · exact Ref_termOf_54_r hg (ip q4 hb3)
          · have hb4 := iq q4 hb3
            by_cases q5 : s.1 = 10110
            · exact Ref_termOf_110_r hg (ip q5 hb4)
            · have hb5 := iq q5 hb4
              by_cases q6 : s.1 = 10115
              · exact Ref_termOf_115_r hg (ip q6 hb5)
              · have hb6 := iq q6 hb5
                by_cases q7 : s.1 = 10121
                · exact Ref_termOf_121_r hg (ip q7 hb6)
                · have hb7 := iq q7 hb6
                  by_cases q8 : s.1 = 10160
                  · exact Ref_termOf_160_r hg (ip q8 hb7)
                  · have hb8 := iq q8 hb7
                    by_cases q9 : s.1 = 20000
                    · exact Ref_sumOf_r hg (ip q9 hb8)
                    · have hb9 := iq q9 hb8
                      by_cases q10 : s.1 = 20006
                      · exact Ref_sumOf_6_r hg (ip q10 hb9)
                      · have hb10 := iq q10 hb9
                        by_cases q11 : s.1 = 20038
                        · exact Ref_sumOf_38_r hg (ip q11 hb10)
                        · have hb11 := iq q11 hb10
                          by_cases q12 : s.1 = 20059
                          · exact Ref_sumOf_59_r hg (ip q12 hb11)
                          · have hb12 := iq q12 hb11
                            by_cases q13 : s.1 = 20095
                            · exact Ref_sumOf_95_r hg (ip q13 hb12)
                            · have hb13 := iq q13 hb12
                              exact nomatch hb13)
noncomputable def Ref_partOf (dd : Nat) (v0 : Nat) (v1 : Int32) (h : am_H) : Option (Int64 × am_H) := fx Ref_partOfG_F Ref_partOfG_M (0, dd, v1, 0, 0, 0, 0, v0, 0, h)
noncomputable def Ref_partOf_89 (dd : Nat) (v0 : Nat) (v1 : Int32) (v2 : Int32) (v3 : Int32) (h : am_H) : Option (Int64 × am_H) := fx Ref_partOfG_F Ref_partOfG_M (89, dd, v1, v2, v3, 0, 0, v0, 0, h)
noncomputable def Ref_termOf (dd : Nat) (v0 : Nat) (v1 : Int32) (h : am_H) : Option (Int64 × am_H) := fx Ref_partOfG_F Ref_partOfG_M (10000, dd, v1, 0, 0, 0, 0, v0, 0, h)
noncomputable def Ref_termOf_6 (dd : Nat) (v0 : Nat) (v1 : Int32) (v2 : Int64) (h : am_H) : Option (Int64 × am_H) := fx Ref_partOfG_F Ref_partOfG_M (10006, dd, v1, 0, 0, v2, 0, v0, 0, h)
noncomputable def Ref_termOf_54 (dd : Nat) (v0 : Nat) (v1 : Int32) (v2 : Int64) (h : am_H) : Option (Int64 × am_H) := fx Ref_partOfG_F Ref_partOfG_M (10054, dd, v1, 0, 0, v2, 0, v0, 0, h)
noncomputable def Ref_termOf_110 (dd : Nat) (v0 : Nat) (v1 : Int32) (v2 : Int64) (v4 : Int32) (s0 : Nat) (h : am_H) : Option (Int64 × am_H) := fx Ref_partOfG_F Ref_partOfG_M (10110, dd, v1, v4, 0, v2, 0, v0, s0, h)
noncomputable def Ref_termOf_115 (dd : Nat) (v0 : Nat) (v1 : Int32) (v2 : Int64) (v4 : Int32) (s0 : Int32) (s1 : Nat) (h : am_H) : Option (Int64 × am_H) := fx Ref_partOfG_F Ref_partOfG_M (10115, dd, v1, v4, s0, v2, 0, v0, s1, h)
noncomputable def Ref_termOf_121 (dd : Nat) (v0 : Nat) (v1 : Int32) (v2 : Int64) (v4 : Int32) (v5 : Int64) (h : am_H) : Option (Int64 × am_H) := fx Ref_partOfG_F Ref_partOfG_M (10121, dd, v1, v4, 0, v2, v5, v0, 0, h)
noncomputable def Ref_termOf_160 (dd : Nat) (v0 : Nat) (v1 : Int32) (s0 : Int64) (s1 : Nat) (h : am_H) : Option (Int64 × am_H) := fx Ref_partOfG_F Ref_partOfG_M (10160, dd, v1, 0, 0, s0, 0, v0, s1, h)
noncomputable def Ref_sumOf (dd : Nat) (v0 : Nat) (v1 : Int32) (h : am_H) : Option (Int64 × am_H) := fx Ref_partOfG_F Ref_partOfG_M (20000, dd, v1, 0, 0, 0, 0, v0, 0, h)
noncomputable def Ref_sumOf_6 (dd : Nat) (v0 : Nat) (v1 : Int32) (v2 : Int64) (h : am_H) : Option (Int64 × am_H) := fx Ref_partOfG_F Ref_partOfG_M (20006, dd, v1, 0, 0, v2, 0, v0, 0, h)
noncomputable def Ref_sumOf_38 (dd : Nat) (v0 : Nat) (v1 : Int32) (v2 : Int64) (h : am_H) : Option (Int64 × am_H) := fx Ref_partOfG_F Ref_partOfG_M (20038, dd, v1, 0, 0, v2, 0, v0, 0, h)
noncomputable def Ref_sumOf_59 (dd : Nat) (v0 : Nat) (v1 : Int32) (v2 : Int64) (s0 : Int32) (h : am_H) : Option (Int64 × am_H) := fx Ref_partOfG_F Ref_partOfG_M (20059, dd, v1, s0, 0, v2, 0, v0, 0, h)
noncomputable def Ref_sumOf_95 (dd : Nat) (v0 : Nat) (v1 : Int32) (s0 : Int64) (s1 : Nat) (h : am_H) : Option (Int64 × am_H) := fx Ref_partOfG_F Ref_partOfG_M (20095, dd, v1, 0, 0, s0, 0, v0, s1, h)
set_option maxHeartbeats 1000000 in
set_option maxRecDepth 100000 in
theorem Ref_partOf_e (dd : Nat) (v0 : Nat) (v1 : Int32) (h : am_H) : Ref_partOf dd v0 v1 h = (if isO h 12 v0 = true then (Ref_sign (91 : Int32) h).bind fun x1 => (Ref_passes0 v0 x1 h).bind fun r3 => if r3.1 = (0 : Int32) then (gI r3.2 12 v0 21).bind fun x8 => (Ref_codeAt v0 x8 r3.2).bind fun x10 => (gI r3.2 12 v0 21).bind fun x12 => (pV r3.2 12 v0 21 (.int (x12 + (1 : Int32)))).bind fun h14 => (gI h14 12 v0 24).bind fun x17 => if x17 = (0 : Int32) then Ref_partOf_89 dd v0 v1 x10 (0 : Int32) h14 else (Ref_isOfHeap x10 h14).bind fun x21 => if x21 = (0 : Int32) then Ref_partOf_89 dd v0 v1 x10 (0 : Int32) h14 else (gR h14 12 v0 2).bind fun x25 => (gI h14 12 v0 21).bind fun x27 => (aI h14 0 x25 ((2925 : Int32) + x27)).bind fun x29 => (gI h14 12 v0 21).bind fun x31 => (pV h14 12 v0 21 (.int (x31 + (1 : Int32)))).bind fun h33 => Ref_partOf_89 dd v0 v1 x10 x29 h33 else (if 0 < dd then Ref_sumOf (dd - 1) v0 v1 r3.2 else none).bind fun r36 => (gI r36.2 12 v0 21).bind fun x39 => (pV r36.2 12 v0 21 (.int (x39 + (1 : Int32)))).bind fun h41 => some (r36.1, h41) else none) := (fx_eq Ref_partOfG_M (0, dd, v1, 0, 0, 0, 0, v0, 0, h)).trans (if_pos rfl)
theorem Ref_partOf_q {dd : Nat} {v0 : Nat} {v1 : Int32} {h : am_H} {r : (Int64 × am_H)} (hb : Ref_partOf dd v0 v1 h = some r) : Eqs h r.2 := Ref_partOfG_Q _ _ hb
theorem Ref_partOf_s {dd : Nat} {v0 : Nat} {v1 : Int32} {h : am_H} {r : (Int64 × am_H)} (hb : Ref_partOf dd v0 v1 h = some r) : Sx (3 + dd) mX12_partOf 0 (am_en [.ref v0, .int v1] 4) [] h (some (.long r.1)) r.2 := ((Ref_partOfG_T _ _ hb).1 rfl).2
theorem Ref_partOf_o {dd : Nat} {v0 : Nat} {v1 : Int32} {h : am_H} {r : (Int64 × am_H)} (hb : Ref_partOf dd v0 v1 h = some r) : isO h 12 v0 = true := ((Ref_partOfG_T _ _ hb).1 rfl).1
set_option maxHeartbeats 1000000 in
set_option maxRecDepth 100000 in
theorem Ref_partOf_89_e (dd : Nat) (v0 : Nat) (v1 : Int32) (v2 : Int32) (v3 : Int32) (h : am_H) : Ref_partOf_89 dd v0 v1 v2 v3 h = (if v1 = (0 : Int32) then some ((0 : Int64), h) else (gI h 12 v0 23).bind fun x46 => if x46 = (0 : Int32) then if v2 = (50 : Int32) then (gR h 12 v0 2).bind fun x70 => (gI h 12 v0 21).bind fun x72 => (aI h 0 x70 (((2925 : Int32) + x72) - (1 : Int32))).bind fun x74 => some (Int32.toInt64 x74, h) else (gI h 12 v0 24).bind fun x52 => if x52 = (0 : Int32) then (gR h 12 v0 27).bind fun x66 => (aI h 0 x66 (v2 - (8 : Int32))).bind fun x68 => some (Int32.toInt64 x68, h) else (Ref_isOfHeap v2 h).bind fun x56 => if x56 = (0 : Int32) then (gR h 12 v0 28).bind fun x60 => (aI h 0 x60 (v2 - (16 : Int32))).bind fun x62 => some (Int32.toInt64 x62, h) else (Ref_heapValue v0 v2 v3 h).bind fun x64 => some (Int32.toInt64 x64, h) else some ((0 : Int64), h)) := (fx_eq Ref_partOfG_M (89, dd, v1, v2, v3, 0, 0, v0, 0, h)).trans ((if_neg (show ¬ (89 : Nat) = 0 by decide)).trans (if_pos rfl))
theorem Ref_partOf_89_q {dd : Nat} {v0 : Nat} {v1 : Int32} {v2 : Int32} {v3 : Int32} {h : am_H} {r : (Int64 × am_H)} (hb : Ref_partOf_89 dd v0 v1 v2 v3 h = some r) : Eqs h r.2 := Ref_partOfG_Q _ _ hb
theorem Ref_partOf_89_s {dd : Nat} {v0 : Nat} {v1 : Int32} {v2 : Int32} {v3 : Int32} {h : am_H} {r : (Int64 × am_H)} (hb : Ref_partOf_89 dd v0 v1 v2 v3 h = some r) : Sx (3 + dd) mX12_partOf 89 [.ref v0, .int v1, .int v2, .int v3] [] h (some (.long r.1)) r.2 := (Ref_partOfG_T _ _ hb).2.1 rfl
set_option maxHeartbeats 1000000 in
set_option maxRecDepth 100000 in
theorem Ref_termOf_e (dd : Nat) (v0 : Nat) (v1 : Int32) (h : am_H) : Ref_termOf dd v0 v1 h = (if isO h 12 v0 = true then (if 0 < dd then Ref_partOf (dd - 1) v0 v1 h else none).bind fun r76 => Ref_termOf_6 dd v0 v1 r76.1 r76.2 else none) := (fx_eq Ref_partOfG_M (10000, dd, v1, 0, 0, 0, 0, v0, 0, h)).trans ((if_neg (show ¬ (10000 : Nat) = 0 by decide)).trans ((if_neg (show ¬ (10000 : Nat) = 89 by decide)).trans (if_pos rfl)))
theorem Ref_termOf_q {dd : Nat} {v0 : Nat} {v1 : Int32} {h : am_H} {r : (Int64 × am_H)} (hb : Ref_termOf dd v0 v1 h = some r) : Eqs h r.2 := Ref_partOfG_Q _ _ hb
theorem Ref_termOf_s {dd : Nat} {v0 : Nat} {v1 : Int32} {h : am_H} {r : (Int64 × am_H)} (hb : Ref_termOf dd v0 v1 h = some r) : Sx (3 + dd) mX12_termOf 0 (am_en [.ref v0, .int v1] 7) [] h (some (.long r.1)) r.2 := ((Ref_partOfG_T _ _ hb).2.2.1 rfl).2
theorem Ref_termOf_o {dd : Nat} {v0 : Nat} {v1 : Int32} {h : am_H} {r : (Int64 × am_H)} (hb : Ref_termOf dd v0 v1 h = some r) : isO h 12 v0 = true := ((Ref_partOfG_T _ _ hb).2.2.1 rfl).1
set_option maxHeartbeats 1000000 in
set_option maxRecDepth 100000 in
theorem Ref_termOf_6_e (dd : Nat) (v0 : Nat) (v1 : Int32) (v2 : Int64) (h : am_H) : Ref_termOf_6 dd v0 v1 v2 h = ((gI h 12 v0 21).bind fun x79 => (Ref_codeAt v0 x79 h).bind fun x81 => (Ref_sign (42 : Int32) h).bind fun x83 => if x81 = x83 then Ref_termOf_54 dd v0 v1 v2 h else (gI h 12 v0 21).bind fun x87 => (Ref_codeAt v0 x87 h).bind fun x89 => (Ref_sign (47 : Int32) h).bind fun x91 => if x89 = x91 then Ref_termOf_54 dd v0 v1 v2 h else (gI h 12 v0 21).bind fun x95 => (Ref_codeAt v0 x95 h).bind fun x97 => (Ref_sign (37 : Int32) h).bind fun x99 => if x97 = x99 then Ref_termOf_54 dd v0 v1 v2 h else some (v2, h)) := (fx_eq Ref_partOfG_M (10006, dd, v1, 0, 0, v2, 0, v0, 0, h)).trans ((if_neg (show ¬ (10006 : Nat) = 0 by decide)).trans ((if_neg (show ¬ (10006 : Nat) = 89 by decide)).trans ((if_neg (show ¬ (10006 : Nat) = 10000 by decide)).trans (if_pos rfl))))
theorem Ref_termOf_6_q {dd : Nat} {v0 : Nat} {v1 : Int32} {v2 : Int64} {h : am_H} {r : (Int64 × am_H)} (hb : Ref_termOf_6 dd v0 v1 v2 h = some r) : Eqs h r.2 := Ref_partOfG_Q _ _ hb
theorem Ref_termOf_6_s {dd : Nat} {v0 : Nat} {v1 : Int32} {v2 : Int64} {h : am_H} {r : (Int64 × am_H)} (hb : Ref_termOf_6 dd v0 v1 v2 h = some r) : Sx (3 + dd) mX12_termOf 6 [.ref v0, .int v1, .long v2, .retAddr 0, .retAddr 0, .retAddr 0, .retAddr 0] [] h (some (.long r.1)) r.2 := (Ref_partOfG_T _ _ hb).2.2.2.1 rfl
set_option maxHeartbeats 1000000 in
set_option maxRecDepth 100000 in
theorem Ref_termOf_54_e (dd : Nat) (v0 : Nat) (v1 : Int32) (v2 : Int64) (h : am_H) : Ref_termOf_54 dd v0 v1 v2 h = ((gI h 12 v0 21).bind fun x103 => (Ref_codeAt v0 x103 h).bind fun x105 => (gI h 12 v0 21).bind fun x107 => (pV h 12 v0 21 (.int (x107 + (1 : Int32)))).bind fun h109 => (if 0 < dd then Ref_partOf (dd - 1) v0 v1 h109 else none).bind fun r112 => (Ref_sign (42 : Int32) r112.2).bind fun x115 => if x105 = x115 then Ref_termOf_121 dd v0 v1 v2 x105 r112.1 r112.2 else if (lg_cmp r112.1 (0 : Int64)) = (0 : Int32) then (gI r112.2 12 v0 23).bind fun x121 => if x121 = (0 : Int32) then if v1 = (0 : Int32) then Ref_termOf_115 dd v0 v1 v2 x105 (0 : Int32) v0 r112.2 else Ref_termOf_110 dd v0 v1 v2 x105 v0 r112.2 else Ref_termOf_110 dd v0 v1 v2 x105 v0 r112.2 else Ref_termOf_121 dd v0 v1 v2 x105 r112.1 r112.2) := (fx_eq Ref_partOfG_M (10054, dd, v1, 0, 0, v2, 0, v0, 0, h)).trans ((if_neg (show ¬ (10054 : Nat) = 0 by decide)).trans ((if_neg (show ¬ (10054 : Nat) = 89 by decide)).trans ((if_neg (show ¬ (10054 : Nat) = 10000 by decide)).trans ((if_neg (show ¬ (10054 : Nat) = 10006 by decide)).trans (if_pos rfl)))))
theorem Ref_termOf_54_q {dd : Nat} {v0 : Nat} {v1 : Int32} {v2 : Int64} {h : am_H} {r : (Int64 × am_H)} (hb : Ref_termOf_54 dd v0 v1 v2 h = some r) : Eqs h r.2 := Ref_partOfG_Q _ _ hb
theorem Ref_termOf_54_s {dd : Nat} {v0 : Nat} {v1 : Int32} {v2 : Int64} {h : am_H} {r : (Int64 × am_H)} (hb : Ref_termOf_54 dd v0 v1 v2 h = some r) : Sx (3 + dd) mX12_termOf 54 [.ref v0, .int v1, .long v2, .retAddr 0, .retAddr 0, .retAddr 0, .retAddr 0] [] h (some (.long r.1)) r.2 := (Ref_partOfG_T _ _ hb).2.2.2.2.1 rfl
set_option maxHeartbeats 1000000 in
set_option maxRecDepth 100000 in
theorem Ref_termOf_110_e (dd : Nat) (v0 : Nat) (v1 : Int32) (v2 : Int64) (v4 : Int32) (s0 : Nat) (h : am_H) : Ref_termOf_110 dd v0 v1 v2 v4 s0 h = (Ref_termOf_115 dd v0 v1 v2 v4 (1 : Int32) s0 h) := (fx_eq Ref_partOfG_M (10110, dd, v1, v4, 0, v2, 0, v0, s0, h)).trans ((if_neg (show ¬ (10110 : Nat) = 0 by decide)).trans ((if_neg (show ¬ (10110 : Nat) = 89 by decide)).trans ((if_neg (show ¬ (10110 : Nat) = 10000 by decide)).trans ((if_neg (show ¬ (10110 : Nat) = 10006 by decide)).trans ((if_neg (show ¬ (10110 : Nat) = 10054 by decide)).trans (if_pos rfl))))))
theorem Ref_termOf_110_q {dd : Nat} {v0 : Nat} {v1 : Int32} {v2 : Int64} {v4 : Int32} {s0 : Nat} {h : am_H} {r : (Int64 × am_H)} (hb : Ref_termOf_110 dd v0 v1 v2 v4 s0 h = some r) : Eqs h r.2 := Ref_partOfG_Q _ _ hb
theorem Ref_termOf_110_s {dd : Nat} {v0 : Nat} {v1 : Int32} {v2 : Int64} {v4 : Int32} {s0 : Nat} {h : am_H} {r : (Int64 × am_H)} (hb : Ref_termOf_110 dd v0 v1 v2 v4 s0 h = some r) : Sx (3 + dd) mX12_termOf 110 [.ref v0, .int v1, .long v2, .retAddr 0, .int v4, .retAddr 0, .retAddr 0] [.ref s0] h (some (.long r.1)) r.2 := (Ref_partOfG_T _ _ hb).2.2.2.2.2.1 rfl
set_option maxHeartbeats 1000000 in
set_option maxRecDepth 100000 in
theorem Ref_termOf_115_e (dd : Nat) (v0 : Nat) (v1 : Int32) (v2 : Int64) (v4 : Int32) (s0 : Int32) (s1 : Nat) (h : am_H) : Ref_termOf_115 dd v0 v1 v2 v4 s0 s1 h = ((nrZ s0).bind fun u127 => (pV h 12 s1 23 (.int s0)).bind fun h129 => Ref_termOf_121 dd v0 v1 v2 v4 (1 : Int64) h129) := (fx_eq Ref_partOfG_M (10115, dd, v1, v4, s0, v2, 0, v0, s1, h)).trans ((if_neg (show ¬ (10115 : Nat) = 0 by decide)).trans ((if_neg (show ¬ (10115 : Nat) = 89 by decide)).trans ((if_neg (show ¬ (10115 : Nat) = 10000 by decide)).trans ((if_neg (show ¬ (10115 : Nat) = 10006 by decide)).trans ((if_neg (show ¬ (10115 : Nat) = 10054 by decide)).trans ((if_neg (show ¬ (10115 : Nat) = 10110 by decide)).trans (if_pos rfl)))))))
theorem Ref_termOf_115_q {dd : Nat} {v0 : Nat} {v1 : Int32} {v2 : Int64} {v4 : Int32} {s0 : Int32} {s1 : Nat} {h : am_H} {r : (Int64 × am_H)} (hb : Ref_termOf_115 dd v0 v1 v2 v4 s0 s1 h = some r) : Eqs h r.2 := Ref_partOfG_Q _ _ hb
theorem Ref_termOf_115_s {dd : Nat} {v0 : Nat} {v1 : Int32} {v2 : Int64} {v4 : Int32} {s0 : Int32} {s1 : Nat} {h : am_H} {r : (Int64 × am_H)} (hb : Ref_termOf_115 dd v0 v1 v2 v4 s0 s1 h = some r) : Sx (3 + dd) mX12_termOf 115 [.ref v0, .int v1, .long v2, .retAddr 0, .int v4, .retAddr 0, .retAddr 0] [.int s0, .ref s1] h (some (.long r.1)) r.2 := (Ref_partOfG_T _ _ hb).2.2.2.2.2.2.1 rfl
set_option maxHeartbeats 1000000 in
set_option maxRecDepth 100000 in
theorem Ref_termOf_121_e (dd : Nat) (v0 : Nat) (v1 : Int32) (v2 : Int64) (v4 : Int32) (v5 : Int64) (h : am_H) : Ref_termOf_121 dd v0 v1 v2 v4 v5 h = ((Ref_sign (42 : Int32) h).bind fun x132 => if v4 = x132 then Ref_termOf_160 dd v0 v1 (v2 * v5) v0 h else (Ref_sign (47 : Int32) h).bind fun x136 => if v4 = x136 then (dvJ v2 v5).bind fun x142 => Ref_termOf_160 dd v0 v1 x142 v0 h else (rmJ v2 v5).bind fun x140 => Ref_termOf_160 dd v0 v1 x140 v0 h) := (fx_eq Ref_partOfG_M (10121, dd, v1, v4, 0, v2, v5, v0, 0, h)).trans ((if_neg (show ¬ (10121 : Nat) = 0 by decide)).trans ((if_neg (show ¬ (10121 : Nat) = 89 by decide)).trans ((if_neg (show ¬ (10121 : Nat) = 10000 by decide)).trans ((if_neg (show ¬ (10121 : Nat) = 10006 by decide)).trans ((if_neg (show ¬ (10121 : Nat) = 10054 by decide)).trans ((if_neg (show ¬ (10121 : Nat) = 10110 by decide)).trans ((if_neg (show ¬ (10121 : Nat) = 10115 by decide)).trans (if_pos rfl))))))))
theorem Ref_termOf_121_q {dd : Nat} {v0 : Nat} {v1 : Int32} {v2 : Int64} {v4 : Int32} {v5 : Int64} {h : am_H} {r : (Int64 × am_H)} (hb : Ref_termOf_121 dd v0 v1 v2 v4 v5 h = some r) : Eqs h r.2 := Ref_partOfG_Q _ _ hb
theorem Ref_termOf_121_s {dd : Nat} {v0 : Nat} {v1 : Int32} {v2 : Int64} {v4 : Int32} {v5 : Int64} {h : am_H} {r : (Int64 × am_H)} (hb : Ref_termOf_121 dd v0 v1 v2 v4 v5 h = some r) : Sx (3 + dd) mX12_termOf 121 [.ref v0, .int v1, .long v2, .retAddr 0, .int v4, .long v5, .retAddr 0] [] h (some (.long r.1)) r.2 := (Ref_partOfG_T _ _ hb).2.2.2.2.2.2.2.1 rfl
set_option maxHeartbeats 1000000 in
set_option maxRecDepth 100000 in
theorem Ref_termOf_160_e (dd : Nat) (v0 : Nat) (v1 : Int32) (s0 : Int64) (s1 : Nat) (h : am_H) : Ref_termOf_160 dd v0 v1 s0 s1 h = ((Ref_bounded s1 s0 v1 h).bind fun r144 => Ref_termOf_6 dd v0 v1 r144.1 r144.2) := (fx_eq Ref_partOfG_M (10160, dd, v1, 0, 0, s0, 0, v0, s1, h)).trans ((if_neg (show ¬ (10160 : Nat) = 0 by decide)).trans ((if_neg (show ¬ (10160 : Nat) = 89 by decide)).trans ((if_neg (show ¬ (10160 : Nat) = 10000 by decide)).trans ((if_neg (show ¬ (10160 : Nat) = 10006 by decide)).trans ((if_neg (show ¬ (10160 : Nat) = 10054 by decide)).trans ((if_neg (show ¬ (10160 : Nat) = 10110 by decide)).trans ((if_neg (show ¬ (10160 : Nat) = 10115 by decide)).trans ((if_neg (show ¬ (10160 : Nat) = 10121 by decide)).trans (if_pos rfl)))))))))
theorem Ref_termOf_160_q {dd : Nat} {v0 : Nat} {v1 : Int32} {s0 : Int64} {s1 : Nat} {h : am_H} {r : (Int64 × am_H)} (hb : Ref_termOf_160 dd v0 v1 s0 s1 h = some r) : Eqs h r.2 := Ref_partOfG_Q _ _ hb
theorem Ref_termOf_160_s {dd : Nat} {v0 : Nat} {v1 : Int32} {s0 : Int64} {s1 : Nat} {h : am_H} {r : (Int64 × am_H)} (hb : Ref_termOf_160 dd v0 v1 s0 s1 h = some r) : Sx (3 + dd) mX12_termOf 160 [.ref v0, .int v1, .retAddr 0, .retAddr 0, .retAddr 0, .retAddr 0, .retAddr 0] [.long s0, .ref s1] h (some (.long r.1)) r.2 := (Ref_partOfG_T _ _ hb).2.2.2.2.2.2.2.2.1 rfl
set_option maxHeartbeats 1000000 in
set_option maxRecDepth 100000 in
theorem Ref_sumOf_e (dd : Nat) (v0 : Nat) (v1 : Int32) (h : am_H) : Ref_sumOf dd v0 v1 h = (if isO h 12 v0 = true then (if 0 < dd then Ref_termOf (dd - 1) v0 v1 h else none).bind fun r147 => Ref_sumOf_6 dd v0 v1 r147.1 r147.2 else none) := (fx_eq Ref_partOfG_M (20000, dd, v1, 0, 0, 0, 0, v0, 0, h)).trans ((if_neg (show ¬ (20000 : Nat) = 0 by decide)).trans ((if_neg (show ¬ (20000 : Nat) = 89 by decide)).trans ((if_neg (show ¬ (20000 : Nat) = 10000 by decide)).trans ((if_neg (show ¬ (20000 : Nat) = 10006 by decide)).trans ((if_neg (show ¬ (20000 : Nat) = 10054 by decide)).trans ((if_neg (show ¬ (20000 : Nat) = 10110 by decide)).trans ((if_neg (show ¬ (20000 : Nat) = 10115 by decide)).trans ((if_neg (show ¬ (20000 : Nat) = 10121 by decide)).trans ((if_neg (show ¬ (20000 : Nat) = 10160 by decide)).trans (if_pos rfl))))))))))
theorem Ref_sumOf_q {dd : Nat} {v0 : Nat} {v1 : Int32} {h : am_H} {r : (Int64 × am_H)} (hb : Ref_sumOf dd v0 v1 h = some r) : Eqs h r.2 := Ref_partOfG_Q _ _ hb
theorem Ref_sumOf_s {dd : Nat} {v0 : Nat} {v1 : Int32} {h : am_H} {r : (Int64 × am_H)} (hb : Ref_sumOf dd v0 v1 h = some r) : Sx (3 + dd) mX12_sumOf 0 (am_en [.ref v0, .int v1] 7) [] h (some (.long r.1)) r.2 := ((Ref_partOfG_T _ _ hb).2.2.2.2.2.2.2.2.2.1 rfl).2
theorem Ref_sumOf_o {dd : Nat} {v0 : Nat} {v1 : Int32} {h : am_H} {r : (Int64 × am_H)} (hb : Ref_sumOf dd v0 v1 h = some r) : isO h 12 v0 = true := ((Ref_partOfG_T _ _ hb).2.2.2.2.2.2.2.2.2.1 rfl).1
set_option maxHeartbeats 1000000 in
set_option maxRecDepth 100000 in
theorem Ref_sumOf_6_e (dd : Nat) (v0 : Nat) (v1 : Int32) (v2 : Int64) (h : am_H) : Ref_sumOf_6 dd v0 v1 v2 h = ((gI h 12 v0 21).bind fun x150 => (Ref_codeAt v0 x150 h).bind fun x152 => (Ref_sign (43 : Int32) h).bind fun x154 => if x152 = x154 then Ref_sumOf_38 dd v0 v1 v2 h else (gI h 12 v0 21).bind fun x158 => (Ref_codeAt v0 x158 h).bind fun x160 => (Ref_sign (45 : Int32) h).bind fun x162 => if x160 = x162 then Ref_sumOf_38 dd v0 v1 v2 h else some (v2, h)) := (fx_eq Ref_partOfG_M (20006, dd, v1, 0, 0, v2, 0, v0, 0, h)).trans ((if_neg (show ¬ (20006 : Nat) = 0 by decide)).trans ((if_neg (show ¬ (20006 : Nat) = 89 by decide)).trans ((if_neg (show ¬ (20006 : Nat) = 10000 by decide)).trans ((if_neg (show ¬ (20006 : Nat) = 10006 by decide)).trans ((if_neg (show ¬ (20006 : Nat) = 10054 by decide)).trans ((if_neg (show ¬ (20006 : Nat) = 10110 by decide)).trans ((if_neg (show ¬ (20006 : Nat) = 10115 by decide)).trans ((if_neg (show ¬ (20006 : Nat) = 10121 by decide)).trans ((if_neg (show ¬ (20006 : Nat) = 10160 by decide)).trans ((if_neg (show ¬ (20006 : Nat) = 20000 by decide)).trans (if_pos rfl)))))))))))
theorem Ref_sumOf_6_q {dd : Nat} {v0 : Nat} {v1 : Int32} {v2 : Int64} {h : am_H} {r : (Int64 × am_H)} (hb : Ref_sumOf_6 dd v0 v1 v2 h = some r) : Eqs h r.2 := Ref_partOfG_Q _ _ hb
theorem Ref_sumOf_6_s {dd : Nat} {v0 : Nat} {v1 : Int32} {v2 : Int64} {h : am_H} {r : (Int64 × am_H)} (hb : Ref_sumOf_6 dd v0 v1 v2 h = some r) : Sx (3 + dd) mX12_sumOf 6 [.ref v0, .int v1, .long v2, .retAddr 0, .retAddr 0, .retAddr 0, .retAddr 0] [] h (some (.long r.1)) r.2 := (Ref_partOfG_T _ _ hb).2.2.2.2.2.2.2.2.2.2.1 rfl
set_option maxHeartbeats 1000000 in
set_option maxRecDepth 100000 in
theorem Ref_sumOf_38_e (dd : Nat) (v0 : Nat) (v1 : Int32) (v2 : Int64) (h : am_H) : Ref_sumOf_38 dd v0 v1 v2 h = ((gI h 12 v0 21).bind fun x166 => (Ref_codeAt v0 x166 h).bind fun x168 => (Ref_sign (43 : Int32) h).bind fun x170 => if x168 = x170 then Ref_sumOf_59 dd v0 v1 v2 (1 : Int32) h else Ref_sumOf_59 dd v0 v1 v2 (0 : Int32) h) := (fx_eq Ref_partOfG_M (20038, dd, v1, 0, 0, v2, 0, v0, 0, h)).trans ((if_neg (show ¬ (20038 : Nat) = 0 by decide)).trans ((if_neg (show ¬ (20038 : Nat) = 89 by decide)).trans ((if_neg (show ¬ (20038 : Nat) = 10000 by decide)).trans ((if_neg (show ¬ (20038 : Nat) = 10006 by decide)).trans ((if_neg (show ¬ (20038 : Nat) = 10054 by decide)).trans ((if_neg (show ¬ (20038 : Nat) = 10110 by decide)).trans ((if_neg (show ¬ (20038 : Nat) = 10115 by decide)).trans ((if_neg (show ¬ (20038 : Nat) = 10121 by decide)).trans ((if_neg (show ¬ (20038 : Nat) = 10160 by decide)).trans ((if_neg (show ¬ (20038 : Nat) = 20000 by decide)).trans ((if_neg (show ¬ (20038 : Nat) = 20006 by decide)).trans (if_pos rfl))))))))))))
theorem Ref_sumOf_38_q {dd : Nat} {v0 : Nat} {v1 : Int32} {v2 : Int64} {h : am_H} {r : (Int64 × am_H)} (hb : Ref_sumOf_38 dd v0 v1 v2 h = some r) : Eqs h r.2 := Ref_partOfG_Q _ _ hb
theorem Ref_sumOf_38_s {dd : Nat} {v0 : Nat} {v1 : Int32} {v2 : Int64} {h : am_H} {r : (Int64 × am_H)} (hb : Ref_sumOf_38 dd v0 v1 v2 h = some r) : Sx (3 + dd) mX12_sumOf 38 [.ref v0, .int v1, .long v2, .retAddr 0, .retAddr 0, .retAddr 0, .retAddr 0] [] h (some (.long r.1)) r.2 := (Ref_partOfG_T _ _ hb).2.2.2.2.2.2.2.2.2.2.2.1 rfl
set_option maxHeartbeats 1000000 in
set_option maxRecDepth 100000 in
theorem Ref_sumOf_59_e (dd : Nat) (v0 : Nat) (v1 : Int32) (v2 : Int64) (s0 : Int32) (h : am_H) : Ref_sumOf_59 dd v0 v1 v2 s0 h = ((gI h 12 v0 21).bind fun x174 => (pV h 12 v0 21 (.int (x174 + (1 : Int32)))).bind fun h176 => (if 0 < dd then Ref_termOf (dd - 1) v0 v1 h176 else none).bind fun r179 => if s0 = (0 : Int32) then Ref_sumOf_95 dd v0 v1 (v2 - r179.1) v0 r179.2 else Ref_sumOf_95 dd v0 v1 (v2 + r179.1) v0 r179.2) := (fx_eq Ref_partOfG_M (20059, dd, v1, s0, 0, v2, 0, v0, 0, h)).trans ((if_neg (show ¬ (20059 : Nat) = 0 by decide)).trans ((if_neg (show ¬ (20059 : Nat) = 89 by decide)).trans ((if_neg (show ¬ (20059 : Nat) = 10000 by decide)).trans ((if_neg (show ¬ (20059 : Nat) = 10006 by decide)).trans ((if_neg (show ¬ (20059 : Nat) = 10054 by decide)).trans ((if_neg (show ¬ (20059 : Nat) = 10110 by decide)).trans ((if_neg (show ¬ (20059 : Nat) = 10115 by decide)).trans ((if_neg (show ¬ (20059 : Nat) = 10121 by decide)).trans ((if_neg (show ¬ (20059 : Nat) = 10160 by decide)).trans ((if_neg (show ¬ (20059 : Nat) = 20000 by decide)).trans ((if_neg (show ¬ (20059 : Nat) = 20006 by decide)).trans ((if_neg (show ¬ (20059 : Nat) = 20038 by decide)).trans (if_pos rfl)))))))))))))
theorem Ref_sumOf_59_q {dd : Nat} {v0 : Nat} {v1 : Int32} {v2 : Int64} {s0 : Int32} {h : am_H} {r : (Int64 × am_H)} (hb : Ref_sumOf_59 dd v0 v1 v2 s0 h = some r) : Eqs h r.2 := Ref_partOfG_Q _ _ hb
theorem Ref_sumOf_59_s {dd : Nat} {v0 : Nat} {v1 : Int32} {v2 : Int64} {s0 : Int32} {h : am_H} {r : (Int64 × am_H)} (hb : Ref_sumOf_59 dd v0 v1 v2 s0 h = some r) : Sx (3 + dd) mX12_sumOf 59 [.ref v0, .int v1, .long v2, .retAddr 0, .retAddr 0, .retAddr 0, .retAddr 0] [.int s0] h (some (.long r.1)) r.2 := (Ref_partOfG_T _ _ hb).2.2.2.2.2.2.2.2.2.2.2.2.1 rfl
set_option maxHeartbeats 1000000 in
set_option maxRecDepth 100000 in
theorem Ref_sumOf_95_e (dd : Nat) (v0 : Nat) (v1 : Int32) (s0 : Int64) (s1 : Nat) (h : am_H) : Ref_sumOf_95 dd v0 v1 s0 s1 h = ((Ref_bounded s1 s0 v1 h).bind fun r184 => Ref_sumOf_6 dd v0 v1 r184.1 r184.2) := (fx_eq Ref_partOfG_M (20095, dd, v1, 0, 0, s0, 0, v0, s1, h)).trans ((if_neg (show ¬ (20095 : Nat) = 0 by decide)).trans ((if_neg (show ¬ (20095 : Nat) = 89 by decide)).trans ((if_neg (show ¬ (20095 : Nat) = 10000 by decide)).trans ((if_neg (show ¬ (20095 : Nat) = 10006 by decide)).trans ((if_neg (show ¬ (20095 : Nat) = 10054 by decide)).trans ((if_neg (show ¬ (20095 : Nat) = 10110 by decide)).trans ((if_neg (show ¬ (20095 : Nat) = 10115 by decide)).trans ((if_neg (show ¬ (20095 : Nat) = 10121 by decide)).trans ((if_neg (show ¬ (20095 : Nat) = 10160 by decide)).trans ((if_neg (show ¬ (20095 : Nat) = 20000 by decide)).trans ((if_neg (show ¬ (20095 : Nat) = 20006 by decide)).trans ((if_neg (show ¬ (20095 : Nat) = 20038 by decide)).trans ((if_neg (show ¬ (20095 : Nat) = 20059 by decide)).trans (if_pos rfl))))))))))))))
theorem Ref_sumOf_95_q {dd : Nat} {v0 : Nat} {v1 : Int32} {s0 : Int64} {s1 : Nat} {h : am_H} {r : (Int64 × am_H)} (hb : Ref_sumOf_95 dd v0 v1 s0 s1 h = some r) : Eqs h r.2 := Ref_partOfG_Q _ _ hb
theorem Ref_sumOf_95_s {dd : Nat} {v0 : Nat} {v1 : Int32} {s0 : Int64} {s1 : Nat} {h : am_H} {r : (Int64 × am_H)} (hb : Ref_sumOf_95 dd v0 v1 s0 s1 h = some r) : Sx (3 + dd) mX12_sumOf 95 [.ref v0, .int v1, .retAddr 0, .retAddr 0, .retAddr 0, .retAddr 0, .retAddr 0] [.long s0, .ref s1] h (some (.long r.1)) r.2 := (Ref_partOfG_T _ _ hb).2.2.2.2.2.2.2.2.2.2.2.2.2.1 rfl
set_option maxHeartbeats 1000000 in
set_option maxRecDepth 100000 in
noncomputable def Ref_positiveOf_b (g : (Nat × Nat × Int32 × Int32 × Int32 × Nat × Nat × am_H) → Option (Int32 × am_H)) (dd : Nat) (v0 : Nat) (v1 : Int32) (h : am_H) : Option (Int32 × am_H) := if isO h 12 v0 = true then (Ref_sign (40 : Int32) h).bind fun x1 => (Ref_passes0 v0 x1 h).bind fun r3 => if r3.1 = (0 : Int32) then (Ref_sumOf 40 v0 v1 r3.2).bind fun r8 => (gI r8.2 12 v0 21).bind fun x11 => (Ref_codeAt v0 x11 r8.2).bind fun x13 => (gI r8.2 12 v0 21).bind fun x15 => (pV r8.2 12 v0 21 (.int (x15 + (1 : Int32)))).bind fun h17 => (Ref_sumOf 40 v0 v1 h17).bind fun r20 => if v1 = (0 : Int32) then some ((0 : Int32), r20.2) else (gI r20.2 12 v0 23).bind fun x25 => if x25 = (0 : Int32) then (Ref_sign (60 : Int32) r20.2).bind fun x29 => if x13 = x29 then if (0 : Int32) ≤ (lg_cmp r8.1 r20.1) then some ((0 : Int32), r20.2) else some ((1 : Int32), r20.2) else (Ref_sign (62 : Int32) r20.2).bind fun x33 => if x13 = x33 then if (lg_cmp r8.1 r20.1) ≤ (0 : Int32) then some ((0 : Int32), r20.2) else some ((1 : Int32), r20.2) else if (lg_cmp r8.1 r20.1) = (0 : Int32) then some ((1 : Int32), r20.2) else some ((0 : Int32), r20.2) else some ((0 : Int32), r20.2) else (if 0 < dd then g (30000, dd - 1, v1, 0, 0, v0, 0, r3.2) else none).bind fun r43 => (gI r43.2 12 v0 21).bind fun x46 => (pV r43.2 12 v0 21 (.int (x46 + (1 : Int32)))).bind fun h48 => (nrZ r43.1).bind fun u51 => some (r43.1, h48) else none
set_option maxHeartbeats 1000000 in
set_option maxRecDepth 100000 in
theorem Ref_positiveOf_m {g g2 : (Nat × Nat × Int32 × Int32 × Int32 × Nat × Nat × am_H) → Option (Int32 × am_H)} (hg : ∀ s, Le (g s) (g2 s)) (dd : Nat) (v0 : Nat) (v1 : Int32) (h : am_H) : Le (Ref_positiveOf_b g dd v0 v1 h) (Ref_positiveOf_b g2 dd v0 v1 h) := by unfold Ref_positiveOf_b; exact le_i (le_b (le_r _) fun x1 => le_b (le_r _) fun r3 => le_i (le_r _) (le_b (le_i (hg _) (le_r _)) fun r43 => le_r _)) (le_r _)
set_option maxHeartbeats 1000000 in
set_option maxRecDepth 100000 in
noncomputable def Ref_plainOf_b (g : (Nat × Nat × Int32 × Int32 × Int32 × Nat × Nat × am_H) → Option (Int32 × am_H)) (dd : Nat) (v0 : Nat) (v1 : Int32) (h : am_H) : Option (Int32 × am_H) := if isO h 12 v0 = true then g (10002, dd, v1, (0 : Int32), 0, v0, 0, h) else none
set_option maxHeartbeats 1000000 in
set_option maxRecDepth 100000 in
theorem Ref_plainOf_m {g g2 : (Nat × Nat × Int32 × Int32 × Int32 × Nat × Nat × am_H) → Option (Int32 × am_H)} (hg : ∀ s, Le (g s) (g2 s)) (dd : Nat) (v0 : Nat) (v1 : Int32) (h : am_H) : Le (Ref_plainOf_b g dd v0 v1 h) (Ref_plainOf_b g2 dd v0 v1 h) := by unfold Ref_plainOf_b; exact le_i (hg _) (le_r _)
set_option maxHeartbeats 1000000 in
set_option maxRecDepth 100000 in
noncomputable def Ref_plainOf_2_b (g : (Nat × Nat × Int32 × Int32 × Int32 × Nat × Nat × am_H) → Option (Int32 × am_H)) (dd : Nat) (v0 : Nat) (v1 : Int32) (v2 : Int32) (h : am_H) : Option (Int32 × am_H) := (Ref_passes0 v0 (7 : Int32) h).bind fun r53 => if r53.1 = (0 : Int32) then (if 0 < dd then g (0, dd - 1, v1, 0, 0, v0, 0, r53.2) else none).bind fun r58 => if r58.1 = v2 then some ((0 : Int32), r58.2) else some ((1 : Int32), r58.2) else if v2 = (0 : Int32) then g (10020, dd, v1, (1 : Int32), 0, v0, 0, r53.2) else g (10020, dd, v1, (0 : Int32), 0, v0, 0, r53.2)
set_option maxHeartbeats 1000000 in
set_option maxRecDepth 100000 in
theorem Ref_plainOf_2_m {g g2 : (Nat × Nat × Int32 × Int32 × Int32 × Nat × Nat × am_H) → Option (Int32 × am_H)} (hg : ∀ s, Le (g s) (g2 s)) (dd : Nat) (v0 : Nat) (v1 : Int32) (v2 : Int32) (h : am_H) : Le (Ref_plainOf_2_b g dd v0 v1 v2 h) (Ref_plainOf_2_b g2 dd v0 v1 v2 h) := by unfold Ref_plainOf_2_b; exact le_b (le_r _) fun r53 => le_i (le_b (le_i (hg _) (le_r _)) fun r58 => le_r _) (le_i (hg _) (hg _))
set_option maxHeartbeats 1000000 in
set_option maxRecDepth 100000 in
noncomputable def Ref_plainOf_20_b (g : (Nat × Nat × Int32 × Int32 × Int32 × Nat × Nat × am_H) → Option (Int32 × am_H)) (dd : Nat) (v0 : Nat) (v1 : Int32) (s0 : Int32) (h : am_H) : Option (Int32 × am_H) := g (10002, dd, v1, s0, 0, v0, 0, h)
set_option maxHeartbeats 1000000 in
set_option maxRecDepth 100000 in
theorem Ref_plainOf_20_m {g g2 : (Nat × Nat × Int32 × Int32 × Int32 × Nat × Nat × am_H) → Option (Int32 × am_H)} (hg : ∀ s, Le (g s) (g2 s)) (dd : Nat) (v0 : Nat) (v1 : Int32) (s0 : Int32) (h : am_H) : Le (Ref_plainOf_20_b g dd v0 v1 s0 h) (Ref_plainOf_20_b g2 dd v0 v1 s0 h) := by unfold Ref_plainOf_20_b; exact hg _
set_option maxHeartbeats 1000000 in
set_option maxRecDepth 100000 in
noncomputable def Ref_bothOf_b (g : (Nat × Nat × Int32 × Int32 × Int32 × Nat × Nat × am_H) → Option (Int32 × am_H)) (dd : Nat) (v0 : Nat) (v1 : Int32) (h : am_H) : Option (Int32 × am_H) := if isO h 12 v0 = true then (if 0 < dd then g (10000, dd - 1, v1, 0, 0, v0, 0, h) else none).bind fun r65 => g (20006, dd, v1, r65.1, 0, v0, 0, r65.2) else none
set_option maxHeartbeats 1000000 in
set_option maxRecDepth 100000 in
theorem Ref_bothOf_m {g g2 : (Nat × Nat × Int32 × Int32 × Int32 × Nat × Nat × am_H) → Option (Int32 × am_H)} (hg : ∀ s, Le (g s) (g2 s)) (dd : Nat) (v0 : Nat) (v1 : Int32) (h : am_H) : Le (Ref_bothOf_b g dd v0 v1 h) (Ref_bothOf_b g2 dd v0 v1 h) := by unfold Ref_bothOf_b; exact le_i (le_b (le_i (hg _) (le_r _)) fun r65 => hg _) (le_r _)
set_option maxHeartbeats 1000000 in
set_option maxRecDepth 100000 in
noncomputable def Ref_bothOf_6_b (g : (Nat × Nat × Int32 × Int32 × Int32 × Nat × Nat × am_H) → Option (Int32 × am_H)) (dd : Nat) (v0 : Nat) (v1 : Int32) (v2 : Int32) (h : am_H) : Option (Int32 × am_H) := (Ref_passes0 v0 (6 : Int32) h).bind fun r68 => if r68.1 = (0 : Int32) then (nrZ v2).bind fun u73 => some (v2, r68.2) else if v1 = (0 : Int32) then g (20028, dd, v1, v2, 0, v0, v0, r68.2) else if v2 = (0 : Int32) then g (20028, dd, v1, v2, 0, v0, v0, r68.2) else g (20029, dd, v1, v2, (1 : Int32), v0, v0, r68.2)
set_option maxHeartbeats 1000000 in
set_option maxRecDepth 100000 in
theorem Ref_bothOf_6_m {g g2 : (Nat × Nat × Int32 × Int32 × Int32 × Nat × Nat × am_H) → Option (Int32 × am_H)} (hg : ∀ s, Le (g s) (g2 s)) (dd : Nat) (v0 : Nat) (v1 : Int32) (v2 : Int32) (h : am_H) : Le (Ref_bothOf_6_b g dd v0 v1 v2 h) (Ref_bothOf_6_b g2 dd v0 v1 v2 h) := by unfold Ref_bothOf_6_b; exact le_b (le_r _) fun r68 => le_i (le_r _) (le_i (hg _) (le_i (hg _) (hg _)))
set_option maxHeartbeats 1000000 in
set_option maxRecDepth 100000 in
noncomputable def Ref_bothOf_28_b (g : (Nat × Nat × Int32 × Int32 × Int32 × Nat × Nat × am_H) → Option (Int32 × am_H)) (dd : Nat) (v0 : Nat) (v1 : Int32) (v2 : Int32) (s0 : Nat) (h : am_H) : Option (Int32 × am_H) := g (20029, dd, v1, v2, (0 : Int32), v0, s0, h)
set_option maxHeartbeats 1000000 in
set_option maxRecDepth 100000 in
theorem Ref_bothOf_28_m {g g2 : (Nat × Nat × Int32 × Int32 × Int32 × Nat × Nat × am_H) → Option (Int32 × am_H)} (hg : ∀ s, Le (g s) (g2 s)) (dd : Nat) (v0 : Nat) (v1 : Int32) (v2 : Int32) (s0 : Nat) (h : am_H) : Le (Ref_bothOf_28_b g dd v0 v1 v2 s0 h) (Ref_bothOf_28_b g2 dd v0 v1 v2 s0 h) := by unfold Ref_bothOf_28_b; exact hg _
set_option maxHeartbeats 1000000 in
set_option maxRecDepth 100000 in
noncomputable def Ref_bothOf_29_b (g : (Nat × Nat × Int32 × Int32 × Int32 × Nat × Nat × am_H) → Option (Int32 × am_H)) (dd : Nat) (v0 : Nat) (v1 : Int32) (v2 : Int32) (s0 : Int32) (s1 : Nat) (h : am_H) : Option (Int32 × am_H) := (if 0 < dd then g (10000, dd - 1, s0, 0, 0, s1, 0, h) else none).bind fun r79 => if v2 = (0 : Int32) then g (20045, dd, v1, 0, 0, v0, 0, r79.2) else if r79.1 = (0 : Int32) then g (20045, dd, v1, 0, 0, v0, 0, r79.2) else g (20046, dd, v1, (1 : Int32), 0, v0, 0, r79.2)
set_option maxHeartbeats 1000000 in
set_option maxRecDepth 100000 in
theorem Ref_bothOf_29_m {g g2 : (Nat × Nat × Int32 × Int32 × Int32 × Nat × Nat × am_H) → Option (Int32 × am_H)} (hg : ∀ s, Le (g s) (g2 s)) (dd : Nat) (v0 : Nat) (v1 : Int32) (v2 : Int32) (s0 : Int32) (s1 : Nat) (h : am_H) : Le (Ref_bothOf_29_b g dd v0 v1 v2 s0 s1 h) (Ref_bothOf_29_b g2 dd v0 v1 v2 s0 s1 h) := by unfold Ref_bothOf_29_b; exact le_b (le_i (hg _) (le_r _)) fun r79 => le_i (hg _) (le_i (hg _) (hg _))
set_option maxHeartbeats 1000000 in
set_option maxRecDepth 100000 in
noncomputable def Ref_bothOf_45_b (g : (Nat × Nat × Int32 × Int32 × Int32 × Nat × Nat × am_H) → Option (Int32 × am_H)) (dd : Nat) (v0 : Nat) (v1 : Int32) (h : am_H) : Option (Int32 × am_H) := g (20046, dd, v1, (0 : Int32), 0, v0, 0, h)
set_option maxHeartbeats 1000000 in
set_option maxRecDepth 100000 in
theorem Ref_bothOf_45_m {g g2 : (Nat × Nat × Int32 × Int32 × Int32 × Nat × Nat × am_H) → Option (Int32 × am_H)} (hg : ∀ s, Le (g s) (g2 s)) (dd : Nat) (v0 : Nat) (v1 : Int32) (h : am_H) : Le (Ref_bothOf_45_b g dd v0 v1 h) (Ref_bothOf_45_b g2 dd v0 v1 h) := by unfold Ref_bothOf_45_b; exact hg _
set_option maxHeartbeats 1000000 in
set_option maxRecDepth 100000 in
noncomputable def Ref_bothOf_46_b (g : (Nat × Nat × Int32 × Int32 × Int32 × Nat × Nat × am_H) → Option (Int32 × am_H)) (dd : Nat) (v0 : Nat) (v1 : Int32) (s0 : Int32) (h : am_H) : Option (Int32 × am_H) := g (20006, dd, v1, s0, 0, v0, 0, h)
set_option maxHeartbeats 1000000 in
set_option maxRecDepth 100000 in
theorem Ref_bothOf_46_m {g g2 : (Nat × Nat × Int32 × Int32 × Int32 × Nat × Nat × am_H) → Option (Int32 × am_H)} (hg : ∀ s, Le (g s) (g2 s)) (dd : Nat) (v0 : Nat) (v1 : Int32) (s0 : Int32) (h : am_H) : Le (Ref_bothOf_46_b g dd v0 v1 s0 h) (Ref_bothOf_46_b g2 dd v0 v1 s0 h) := by unfold Ref_bothOf_46_b; exact hg _
set_option maxHeartbeats 1000000 in
set_option maxRecDepth 100000 in
noncomputable def Ref_testOf_b (g : (Nat × Nat × Int32 × Int32 × Int32 × Nat × Nat × am_H) → Option (Int32 × am_H)) (dd : Nat) (v0 : Nat) (v1 : Int32) (h : am_H) : Option (Int32 × am_H) := if isO h 12 v0 = true then (if 0 < dd then g (20000, dd - 1, v1, 0, 0, v0, 0, h) else none).bind fun r86 => g (30006, dd, v1, r86.1, 0, v0, 0, r86.2) else none
set_option maxHeartbeats 1000000 in
set_option maxRecDepth 100000 in
theorem Ref_testOf_m {g g2 : (Nat × Nat × Int32 × Int32 × Int32 × Nat × Nat × am_H) → Option (Int32 × am_H)} (hg : ∀ s, Le (g s) (g2 s)) (dd : Nat) (v0 : Nat) (v1 : Int32) (h : am_H) : Le (Ref_testOf_b g dd v0 v1 h) (Ref_testOf_b g2 dd v0 v1 h) := by unfold Ref_testOf_b; exact le_i (le_b (le_i (hg _) (le_r _)) fun r86 => hg _) (le_r _)
set_option maxHeartbeats 1000000 in
set_option maxRecDepth 100000 in
noncomputable def Ref_testOf_6_b (g : (Nat × Nat × Int32 × Int32 × Int32 × Nat × Nat × am_H) → Option (Int32 × am_H)) (dd : Nat) (v0 : Nat) (v1 : Int32) (v2 : Int32) (h : am_H) : Option (Int32 × am_H) := (Ref_passes0 v0 (5 : Int32) h).bind fun r89 => if r89.1 = (0 : Int32) then (nrZ v2).bind fun u94 => some (v2, r89.2) else if v1 = (0 : Int32) then g (30027, dd, v1, v2, 0, v0, v0, r89.2) else if v2 = (0 : Int32) then g (30028, dd, v1, v2, (1 : Int32), v0, v0, r89.2) else g (30027, dd, v1, v2, 0, v0, v0, r89.2)
set_option maxHeartbeats 1000000 in
set_option maxRecDepth 100000 in
theorem Ref_testOf_6_m {g g2 : (Nat × Nat × Int32 × Int32 × Int32 × Nat × Nat × am_H) → Option (Int32 × am_H)} (hg : ∀ s, Le (g s) (g2 s)) (dd : Nat) (v0 : Nat) (v1 : Int32) (v2 : Int32) (h : am_H) : Le (Ref_testOf_6_b g dd v0 v1 v2 h) (Ref_testOf_6_b g2 dd v0 v1 v2 h) := by unfold Ref_testOf_6_b; exact le_b (le_r _) fun r89 => le_i (le_r _) (le_i (hg _) (le_i (hg _) (hg _)))
set_option maxHeartbeats 1000000 in
set_option maxRecDepth 100000 in
noncomputable def Ref_testOf_27_b (g : (Nat × Nat × Int32 × Int32 × Int32 × Nat × Nat × am_H) → Option (Int32 × am_H)) (dd : Nat) (v0 : Nat) (v1 : Int32) (v2 : Int32) (s0 : Nat) (h : am_H) : Option (Int32 × am_H) := g (30028, dd, v1, v2, (0 : Int32), v0, s0, h)
set_option maxHeartbeats 1000000 in
set_option maxRecDepth 100000 in
theorem Ref_testOf_27_m {g g2 : (Nat × Nat × Int32 × Int32 × Int32 × Nat × Nat × am_H) → Option (Int32 × am_H)} (hg : ∀ s, Le (g s) (g2 s)) (dd : Nat) (v0 : Nat) (v1 : Int32) (v2 : Int32) (s0 : Nat) (h : am_H) : Le (Ref_testOf_27_b g dd v0 v1 v2 s0 h) (Ref_testOf_27_b g2 dd v0 v1 v2 s0 h) := by unfold Ref_testOf_27_b; exact hg _
set_option maxHeartbeats 1000000 in
set_option maxRecDepth 100000 in
noncomputable def Ref_testOf_28_b (g : (Nat × Nat × Int32 × Int32 × Int32 × Nat × Nat × am_H) → Option (Int32 × am_H)) (dd : Nat) (v0 : Nat) (v1 : Int32) (v2 : Int32) (s0 : Int32) (s1 : Nat) (h : am_H) : Option (Int32 × am_H) := (if 0 < dd then g (20000, dd - 1, s0, 0, 0, s1, 0, h) else none).bind fun r100 => if v2 = (0 : Int32) then if r100.1 = (0 : Int32) then g (30045, dd, v1, (0 : Int32), 0, v0, 0, r100.2) else g (30040, dd, v1, 0, 0, v0, 0, r100.2) else g (30040, dd, v1, 0, 0, v0, 0, r100.2)
set_option maxHeartbeats 1000000 in
set_option maxRecDepth 100000 in
theorem Ref_testOf_28_m {g g2 : (Nat × Nat × Int32 × Int32 × Int32 × Nat × Nat × am_H) → Option (Int32 × am_H)} (hg : ∀ s, Le (g s) (g2 s)) (dd : Nat) (v0 : Nat) (v1 : Int32) (v2 : Int32) (s0 : Int32) (s1 : Nat) (h : am_H) : Le (Ref_testOf_28_b g dd v0 v1 v2 s0 s1 h) (Ref_testOf_28_b g2 dd v0 v1 v2 s0 s1 h) := by unfold Ref_testOf_28_b; exact le_b (le_i (hg _) (le_r _)) fun r100 => le_i (le_i (hg _) (hg _)) (hg _)
set_option maxHeartbeats 1000000 in
set_option maxRecDepth 100000 in
noncomputable def Ref_testOf_40_b (g : (Nat × Nat × Int32 × Int32 × Int32 × Nat × Nat × am_H) → Option (Int32 × am_H)) (dd : Nat) (v0 : Nat) (v1 : Int32) (h : am_H) : Option (Int32 × am_H) := g (30045, dd, v1, (1 : Int32), 0, v0, 0, h)
set_option maxHeartbeats 1000000 in
set_option maxRecDepth 100000 in
theorem Ref_testOf_40_m {g g2 : (Nat × Nat × Int32 × Int32 × Int32 × Nat × Nat × am_H) → Option (Int32 × am_H)} (hg : ∀ s, Le (g s) (g2 s)) (dd : Nat) (v0 : Nat) (v1 : Int32) (h : am_H) : Le (Ref_testOf_40_b g dd v0 v1 h) (Ref_testOf_40_b g2 dd v0 v1 h) := by unfold Ref_testOf_40_b; exact hg _
set_option maxHeartbeats 1000000 in
set_option maxRecDepth 100000 in
noncomputable def Ref_testOf_45_b (g : (Nat × Nat × Int32 × Int32 × Int32 × Nat × Nat × am_H) → Option (Int32 × am_H)) (dd : Nat) (v0 : Nat) (v1 : Int32) (s0 : Int32) (h : am_H) : Option (Int32 × am_H) := g (30006, dd, v1, s0, 0, v0, 0, h)
set_option maxHeartbeats 1000000 in
set_option maxRecDepth 100000 in
theorem Ref_testOf_45_m {g g2 : (Nat × Nat × Int32 × Int32 × Int32 × Nat × Nat × am_H) → Option (Int32 × am_H)} (hg : ∀ s, Le (g s) (g2 s)) (dd : Nat) (v0 : Nat) (v1 : Int32) (s0 : Int32) (h : am_H) : Le (Ref_testOf_45_b g dd v0 v1 s0 h) (Ref_testOf_45_b g2 dd v0 v1 s0 h) := by unfold Ref_testOf_45_b; exact hg _
noncomputable def Ref_positiveOfG_F (g : (Nat × Nat × Int32 × Int32 × Int32 × Nat × Nat × am_H) → Option (Int32 × am_H)) (s : (Nat × Nat × Int32 × Int32 × Int32 × Nat × Nat × am_H)) : Option (Int32 × am_H) := if s.1 = 0 then Ref_positiveOf_b g s.2.1 s.2.2.2.2.2.1 s.2.2.1 s.2.2.2.2.2.2.2 else if s.1 = 10000 then Ref_plainOf_b g s.2.1 s.2.2.2.2.2.1 s.2.2.1 s.2.2.2.2.2.2.2 else if s.1 = 10002 then Ref_plainOf_2_b g s.2.1 s.2.2.2.2.2.1 s.2.2.1 s.2.2.2.1 s.2.2.2.2.2.2.2 else if s.1 = 10020 then Ref_plainOf_20_b g s.2.1 s.2.2.2.2.2.1 s.2.2.1 s.2.2.2.1 s.2.2.2.2.2.2.2 else if s.1 = 20000 then Ref_bothOf_b g s.2.1 s.2.2.2.2.2.1 s.2.2.1 s.2.2.2.2.2.2.2 else if s.1 = 20006 then Ref_bothOf_6_b g s.2.1 s.2.2.2.2.2.1 s.2.2.1 s.2.2.2.1 s.2.2.2.2.2.2.2 else if s.1 = 20028 then Ref_bothOf_28_b g s.2.1 s.2.2.2.2.2.1 s.2.2.1 s.2.2.2.1 s.2.2.2.2.2.2.1 s.2.2.2.2.2.2.2 else if s.1 = 20029 then Ref_bothOf_29_b g s.2.1 s.2.2.2.2.2.1 s.2.2.1 s.2.2.2.1 s.2.2.2.2.1 s.2.2.2.2.2.2.1 s.2.2.2.2.2.2.2 else if s.1 = 20045 then Ref_bothOf_45_b g s.2.1 s.2.2.2.2.2.1 s.2.2.1 s.2.2.2.2.2.2.2 else if s.1 = 20046 then Ref_bothOf_46_b g s.2.1 s.2.2.2.2.2.1 s.2.2.1 s.2.2.2.1 s.2.2.2.2.2.2.2 else if s.1 = 30000 then Ref_testOf_b g s.2.1 s.2.2.2.2.2.1 s.2.2.1 s.2.2.2.2.2.2.2 else if s.1 = 30006 then Ref_testOf_6_b g s.2.1 s.2.2.2.2.2.1 s.2.2.1 s.2.2.2.1 s.2.2.2.2.2.2.2 else if s.1 = 30027 then Ref_testOf_27_b g s.2.1 s.2.2.2.2.2.1 s.2.2.1 s.2.2.2.1 s.2.2.2.2.2.2.1 s.2.2.2.2.2.2.2 else if s.1 = 30028 then Ref_testOf_28_b g s.2.1 s.2.2.2.2.2.1 s.2.2.1 s.2.2.2.1 s.2.2.2.2.1 s.2.2.2.2.2.2.1 s.2.2.2.2.2.2.2 else if s.1 = 30040 then Ref_testOf_40_b g s.2.1 s.2.2.2.2.2.1 s.2.2.1 s.2.2.2.2.2.2.2 else if s.1 = 30045 then Ref_testOf_45_b g s.2.1 s.2.2.2.2.2.1 s.2.2.1 s.2.2.2.1 s.2.2.2.2.2.2.2 else none
theorem Ref_positiveOfG_M : Mn Ref_positiveOfG_F := fun g g2 hg s => by unfold Ref_positiveOfG_F; exact le_i (Ref_positiveOf_m hg s.2.1 s.2.2.2.2.2.1 s.2.2.1 s.2.2.2.2.2.2.2) (le_i (Ref_plainOf_m hg s.2.1 s.2.2.2.2.2.1 s.2.2.1 s.2.2.2.2.2.2.2) (le_i (Ref_plainOf_2_m hg s.2.1 s.2.2.2.2.2.1 s.2.2.1 s.2.2.2.1 s.2.2.2.2.2.2.2) (le_i (Ref_plainOf_20_m hg s.2.1 s.2.2.2.2.2.1 s.2.2.1 s.2.2.2.1 s.2.2.2.2.2.2.2) (le_i (Ref_bothOf_m hg s.2.1 s.2.2.2.2.2.1 s.2.2.1 s.2.2.2.2.2.2.2) (le_i (Ref_bothOf_6_m hg s.2.1 s.2.2.2.2.2.1 s.2.2.1 s.2.2.2.1 s.2.2.2.2.2.2.2) (le_i (Ref_bothOf_28_m hg s.2.1 s.2.2.2.2.2.1 s.2.2.1 s.2.2.2.1 s.2.2.2.2.2.2.1 s.2.2.2.2.2.2.2) (le_i (Ref_bothOf_29_m hg s.2.1 s.2.2.2.2.2.1 s.2.2.1 s.2.2.2.1 s.2.2.2.2.1 s.2.2.2.2.2.2.1 s.2.2.2.2.2.2.2) (le_i (Ref_bothOf_45_m hg s.2.1 s.2.2.2.2.2.1 s.2.2.1 s.2.2.2.2.2.2.2) (le_i (Ref_bothOf_46_m hg s.2.1 s.2.2.2.2.2.1 s.2.2.1 s.2.2.2.1 s.2.2.2.2.2.2.2) (le_i (Ref_testOf_m hg s.2.1 s.2.2.2.2.2.1 s.2.2.1 s.2.2.2.2.2.2.2) (le_i (Ref_testOf_6_m hg s.2.1 s.2.2.2.2.2.1 s.2.2.1 s.2.2.2.1 s.2.2.2.2.2.2.2) (le_i (Ref_testOf_27_m hg s.2.1 s.2.2.2.2.2.1 s.2.2.1 s.2.2.2.1 s.2.2.2.2.2.2.1 s.2.2.2.2.2.2.2) (le_i (Ref_testOf_28_m hg s.2.1 s.2.2.2.2.2.1 s.2.2.1 s.2.2.2.1 s.2.2.2.2.1 s.2.2.2.2.2.2.1 s.2.2.2.2.2.2.2) (le_i (Ref_testOf_40_m hg s.2.1 s.2.2.2.2.2.1 s.2.2.1 s.2.2.2.2.2.2.2) (le_i (Ref_testOf_45_m hg s.2.1 s.2.2.2.2.2.1 s.2.2.1 s.2.2.2.1 s.2.2.2.2.2.2.2) (le_r _))))))))))))))))
def Ref_positiveOfG_P (s : (Nat × Nat × Int32 × Int32 × Int32 × Nat × Nat × am_H)) (r : (Int32 × am_H)) : Prop := (s.1 = 0 → isO s.2.2.2.2.2.2.2 12 s.2.2.2.2.2.1 = true ∧ Sx (44 + s.2.1) mX12_positiveOf 0 (am_en [.ref s.2.2.2.2.2.1, .int s.2.2.1] 7) [] s.2.2.2.2.2.2.2 (some (.int r.1)) r.2) ∧ (s.1 = 10000 → isO s.2.2.2.2.2.2.2 12 s.2.2.2.2.2.1 = true ∧ Sx (44 + s.2.1) mX12_plainOf 0 (am_en [.ref s.2.2.2.2.2.1, .int s.2.2.1] 3) [] s.2.2.2.2.2.2.2 (some (.int r.1)) r.2) ∧ (s.1 = 10002 → Sx (44 + s.2.1) mX12_plainOf 2 [.ref s.2.2.2.2.2.1, .int s.2.2.1, .int s.2.2.2.1] [] s.2.2.2.2.2.2.2 (some (.int r.1)) r.2) ∧ (s.1 = 10020 → Sx (44 + s.2.1) mX12_plainOf 20 [.ref s.2.2.2.2.2.1, .int s.2.2.1, .retAddr 0] [.int s.2.2.2.1] s.2.2.2.2.2.2.2 (some (.int r.1)) r.2) ∧ (s.1 = 20000 → isO s.2.2.2.2.2.2.2 12 s.2.2.2.2.2.1 = true ∧ Sx (44 + s.2.1) mX12_bothOf 0 (am_en [.ref s.2.2.2.2.2.1, .int s.2.2.1] 4) [] s.2.2.2.2.2.2.2 (some (.int r.1)) r.2) ∧ (s.1 = 20006 → Sx (44 + s.2.1) mX12_bothOf 6 [.ref s.2.2.2.2.2.1, .int s.2.2.1, .int s.2.2.2.1, .retAddr 0] [] s.2.2.2.2.2.2.2 (some (.int r.1)) r.2) ∧ (s.1 = 20028 → Sx (44 + s.2.1) mX12_bothOf 28 [.ref s.2.2.2.2.2.1, .int s.2.2.1, .int s.2.2.2.1, .retAddr 0] [.ref s.2.2.2.2.2.2.1] s.2.2.2.2.2.2.2 (some (.int r.1)) r.2) ∧ (s.1 = 20029 → Sx (44 + s.2.1) mX12_bothOf 29 [.ref s.2.2.2.2.2.1, .int s.2.2.1, .int s.2.2.2.1, .retAddr 0] [.int s.2.2.2.2.1, .ref s.2.2.2.2.2.2.1] s.2.2.2.2.2.2.2 (some (.int r.1)) r.2) ∧ (s.1 = 20045 → Sx (44 + s.2.1) mX12_bothOf 45 [.ref s.2.2.2.2.2.1, .int s.2.2.1, .retAddr 0, .retAddr 0] [] s.2.2.2.2.2.2.2 (some (.int r.1)) r.2) ∧ (s.1 = 20046 → Sx (44 + s.2.1) mX12_bothOf 46 [.ref s.2.2.2.2.2.1, .int s.2.2.1, .retAddr 0, .retAddr 0] [.int s.2.2.2.1] s.2.2.2.2.2.2.2 (some (.int r.1)) r.2) ∧ (s.1 = 30000 → isO s.2.2.2.2.2.2.2 12 s.2.2.2.2.2.1 = true ∧ Sx (44 + s.2.1) mX12_testOf 0 (am_en [.ref s.2.2.2.2.2.1, .int s.2.2.1] 4) [] s.2.2.2.2.2.2.2 (some (.int r.1)) r.2) ∧ (s.1 = 30006 → Sx (44 + s.2.1) mX12_testOf 6 [.ref s.2.2.2.2.2.1, .int s.2.2.1, .int s.2.2.2.1, .retAddr 0] [] s.2.2.2.2.2.2.2 (some (.int r.1)) r.2) ∧ (s.1 = 30027 → Sx (44 + s.2.1) mX12_testOf 27 [.ref s.2.2.2.2.2.1, .int s.2.2.1, .int s.2.2.2.1, .retAddr 0] [.ref s.2.2.2.2.2.2.1] s.2.2.2.2.2.2.2 (some (.int r.1)) r.2) ∧ (s.1 = 30028 → Sx (44 + s.2.1) mX12_testOf 28 [.ref s.2.2.2.2.2.1, .int s.2.2.1, .int s.2.2.2.1, .retAddr 0] [.int s.2.2.2.2.1, .ref s.2.2.2.2.2.2.1] s.2.2.2.2.2.2.2 (some (.int r.1)) r.2) ∧ (s.1 = 30040 → Sx (44 + s.2.1) mX12_testOf 40 [.ref s.2.2.2.2.2.1, .int s.2.2.1, .retAddr 0, .retAddr 0] [] s.2.2.2.2.2.2.2 (some (.int r.1)) r.2) ∧ (s.1 = 30045 → Sx (44 + s.2.1) mX12_testOf 45 [.ref s.2.2.2.2.2.1, .int s.2.2.1, .retAddr 0, .retAddr 0] [.int s.2.2.2.1] s.2.2.2.2.2.2.2 (some (.int r.1)) r.2) ∧ True
set_option maxHeartbeats 1000000 in
set_option maxRecDepth 100000 in
theorem Ref_positiveOf_t {g : (Nat × Nat × Int32 × Int32 × Int32 × Nat × Nat × am_H) → Option (Int32 × am_H)} (hg : ∀ s r, g s = some r → Ref_positiveOfG_P s r) {dd : Nat} {v0 : Nat} {v1 : Int32} {h : am_H} {r : (Int32 × am_H)} (hb : Ref_positiveOf_b g dd v0 v1 h = some r) : isO h 12 v0 = true ∧ Sx (44 + dd) mX12_positiveOf 0 (am_en [.ref v0, .int v1] 7) [] h (some (.int r.1)) r.2 := by
  unfold Ref_positiveOf_b at hb
  obtain ⟨ho, hb⟩ := iz hb
  refine ⟨ho, ?_⟩
  show Sx (44 + dd) mX12_positiveOf 0 [.ref v0, .int v1, .retAddr 0, .retAddr 0, .retAddr 0, .retAddr 0, .retAddr 0] [] h (some (.int r.1)) r.2
  refine Sx.o (fun _ _ _ k => ex_aload_n dX12_positiveOf_0 rfl rfl k) ?_
  refine Sx.o (fun _ _ _ k => op_bipush (40 : Int32) dX12_positiveOf_1 (by decide) k) ?_
  obtain ⟨x1, e_x1, hb2⟩ := ob2 hb
  refine sx_callS (dc := 0) (as := [.int (40 : Int32)]) (stq := [.int x1, .ref v0]) (by omega) dX12_positiveOf_3 MX12_sign kX12_215 tX12_sign rfl rfl (Nat.le_of_ble_eq_true rfl) (Nat.le_of_ble_eq_true rfl) (Ref_sign_s e_x1) rfl ?_
  obtain ⟨r3, e_r3, hb4⟩ := ob2 hb2
  refine sx_callV (dc := 1) (as := [.int x1]) (stq := [.int r3.1]) (by omega) dX12_positiveOf_6 MX12_passes0 kX12_283 iX12_passes0 sX12_passes0 rfl rfl (Ref_passes0_o e_r3) rfl rfl (Nat.le_of_ble_eq_true rfl) (Nat.le_of_ble_eq_true rfl) (Ref_passes0_s e_r3) rfl ?_
  refine Sx.b (fun _ _ _ k1 k2 => ex_if_eq 30 dX12_positiveOf_9 (by decide) k1 k2) (fun q => ?_) (fun q => ?_)
  · have hb6 := ip q hb4
    refine Sx.o (fun _ _ _ k => ex_aload_n dX12_positiveOf_30 rfl rfl k) ?_
    refine Sx.o (fun _ _ _ k => ex_iload_n dX12_positiveOf_31 rfl k) ?_
    obtain ⟨r8, e_r8, hb9⟩ := ob2 hb6
    refine sx_callV (dc := (3 + 40)) (as := [.int v1]) (stq := [.long r8.1]) (by omega) dX12_positiveOf_32 MX12_sumOf kX12_286 iX12_sumOf sX12_sumOf rfl rfl (Ref_sumOf_o e_r8) rfl rfl (Nat.le_of_ble_eq_true rfl) (Nat.le_of_ble_eq_true rfl) (Ref_sumOf_s e_r8) rfl ?_
    refine Sx.o (L' := [.ref v0, .int v1, .long r8.1, .retAddr 0, .retAddr 0, .retAddr 0, .retAddr 0]) (fun _ _ _ k => ex_lstore_n dX12_positiveOf_35 (by decide) k) ?_
    refine Sx.o (fun _ _ _ k => ex_aload_n dX12_positiveOf_36 rfl rfl k) ?_
    refine Sx.o (fun _ _ _ k => ex_aload_n dX12_positiveOf_37 rfl rfl k) ?_
    obtain ⟨x11, e_x11, hb12⟩ := ob2 hb9
    refine Sx.o (fun _ _ _ k => op_getI fX12_256 dX12_positiveOf_38 e_x11 k) ?_
    obtain ⟨x13, e_x13, hb14⟩ := ob2 hb12
    refine sx_callV (dc := 0) (as := [.int x11]) (stq := [.int x13]) (by omega) dX12_positiveOf_41 MX12_codeAt kX12_259 iX12_codeAt sX12_codeAt rfl rfl (Ref_codeAt_o e_x13) rfl rfl (Nat.le_of_ble_eq_true rfl) (Nat.le_of_ble_eq_true rfl) (Ref_codeAt_s e_x13) rfl ?_
    refine Sx.o (L' := [.ref v0, .int v1, .long r8.1, .retAddr 0, .int x13, .retAddr 0, .retAddr 0]) (fun _ _ _ k => ex_istore dX12_positiveOf_44 (by decide) k) ?_
    refine Sx.o (fun _ _ _ k => ex_aload_n dX12_positiveOf_46 rfl rfl k) ?_
    refine Sx.o (fun _ _ _ k => ex_dup dX12_positiveOf_47 rfl k) ?_
    obtain ⟨x15, e_x15, hb16⟩ := ob2 hb14
    refine Sx.o (fun _ _ _ k => op_getI fX12_256 dX12_positiveOf_48 e_x15 k) ?_
    refine Sx.o (fun _ _ _ k => op_iconst (1 : Int32) dX12_positiveOf_51 (by decide) k) ?_
    refine Sx.o (fun _ _ _ k => ex_iadd dX12_positiveOf_52 k) ?_
    obtain ⟨h17, e_h17, hb18⟩ := ob2 hb16
    refine Sx.p (pV_q e_h17) (fun _ _ _ k => op_put pX12_256 dX12_positiveOf_53 e_h17 (fun _ => rfl) (fun _ => rfl) k) ?_
    refine Sx.o (fun _ _ _ k => ex_aload_n dX12_positiveOf_56 rfl rfl k) ?_
    refine Sx.o (fun _ _ _ k => ex_iload_n dX12_positiveOf_57 rfl k) ?_
    obtain ⟨r20, e_r20, hb21⟩ := ob2 hb18
    refine sx_callV (dc := (3 + 40)) (as := [.int v1]) (stq := [.long r20.1]) (by omega) dX12_positiveOf_58 MX12_sumOf kX12_286 iX12_sumOf sX12_sumOf rfl rfl (Ref_sumOf_o e_r20) rfl rfl (Nat.le_of_ble_eq_true rfl) (Nat.le_of_ble_eq_true rfl) (Ref_sumOf_s e_r20) rfl ?_
    refine Sx.o (L' := [.ref v0, .int v1, .long r8.1, .retAddr 0, .int x13, .long r20.1, .retAddr 0]) (fun _ _ _ k => ex_lstore dX12_positiveOf_61 (by decide) k) ?_
    refine Sx.o (fun _ _ _ k => ex_iload_n dX12_positiveOf_63 rfl k) ?_
    refine Sx.b (fun _ _ _ k1 k2 => ex_if_eq 125 dX12_positiveOf_64 (by decide) k1 k2) (fun q => ?_) (fun q => ?_)
    · have hb23 := ip q hb21
      refine Sx.o (fun _ _ _ k => op_iconst (0 : Int32) dX12_positiveOf_125 (by decide) k) ?_
      obtain rfl := Option.some.inj hb23
      exact Sx.r (fun _ _ _ k => ex_zret rfl rfl dX12_positiveOf_126 k)
    · have hb24 := iq q hb21
      refine Sx.o (fun _ _ _ k => ex_aload_n dX12_positiveOf_67 rfl rfl k) ?_
      obtain ⟨x25, e_x25, hb26⟩ := ob2 hb24
      refine Sx.o (fun _ _ _ k => op_getI fX12_266 dX12_positiveOf_68 e_x25 k) ?_
      refine Sx.bn (fun _ _ _ k1 k2 => ex_if_ne 125 dX12_positiveOf_71 (by decide) k1 k2) (fun q => ?_) (fun q => ?_)
      · have hb27 := iq q hb26
        refine Sx.o (fun _ _ _ k => op_iconst (0 : Int32) dX12_positiveOf_125 (by decide) k) ?_
        obtain rfl := Option.some.inj hb27
        exact Sx.r (fun _ _ _ k => ex_zret rfl rfl dX12_positiveOf_126 k)
      · have hb28 := ip q hb26
        refine Sx.o (fun _ _ _ k => ex_iload dX12_positiveOf_74 rfl k) ?_
        refine Sx.o (fun _ _ _ k => op_bipush (60 : Int32) dX12_positiveOf_76 (by decide) k) ?_
        obtain ⟨x29, e_x29, hb30⟩ := ob2 hb28
        refine sx_callS (dc := 0) (as := [.int (60 : Int32)]) (stq := [.int x29, .int x13]) (by omega) dX12_positiveOf_78 MX12_sign kX12_215 tX12_sign rfl rfl (Nat.le_of_ble_eq_true rfl) (Nat.le_of_ble_eq_true rfl) (Ref_sign_s e_x29) rfl ?_
        refine Sx.bn (fun _ _ _ k1 k2 => ex_icmp_ne 94 dX12_positiveOf_81 (by decide) k1 k2) (fun q => ?_) (fun q => ?_)
        · have hb31 := iq q hb30
          refine Sx.o (fun _ _ _ k => ex_iload dX12_positiveOf_94 rfl k) ?_
          refine Sx.o (fun _ _ _ k => op_bipush (62 : Int32) dX12_positiveOf_96 (by decide) k) ?_
          obtain ⟨x33, e_x33, hb34⟩ := ob2 hb31
          refine sx_callS (dc := 0) (as := [.int (62 : Int32)]) (stq := [.int x33, .int x13]) (by omega) dX12_positiveOf_98 MX12_sign kX12_215 tX12_sign rfl rfl (Nat.le_of_ble_eq_true rfl) (Nat.le_of_ble_eq_true rfl) (Ref_sign_s e_x33) rfl ?_
          refine Sx.bn (fun _ _ _ k1 k2 => ex_icmp_ne 114 dX12_positiveOf_101 (by decide) k1 k2) (fun q => ?_) (fun q => ?_)
          · have hb35 := iq q hb34
            refine Sx.o (fun _ _ _ k => ex_lload_n dX12_positiveOf_114 rfl k) ?_
            refine Sx.o (fun _ _ _ k => ex_lload dX12_positiveOf_115 rfl k) ?_
            refine Sx.o (fun _ _ _ k => ex_lcmp dX12_positiveOf_117 k) ?_
            refine Sx.bn (fun _ _ _ k1 k2 => ex_if_ne 125 dX12_positiveOf_118 (by decide) k1 k2) (fun q => ?_) (fun q => ?_)
            · have hb37 := iq q hb35
              refine Sx.o (fun _ _ _ k => op_iconst (0 : Int32) dX12_positiveOf_125 (by decide) k) ?_
              obtain rfl := Option.some.inj hb37
              exact Sx.r (fun _ _ _ k => ex_zret rfl rfl dX12_positiveOf_126 k)
            · have hb38 := ip q hb35
              refine Sx.o (fun _ _ _ k => op_iconst (1 : Int32) dX12_positiveOf_121 (by decide) k) ?_
              refine Sx.o (fun _ _ _ k => ex_goto 126 dX12_positiveOf_122 (by decide) k) ?_
              obtain rfl := Option.some.inj hb38
              exact Sx.r (fun _ _ _ k => ex_zret rfl rfl dX12_positiveOf_126 k)
          · have hb36 := ip q hb34
            refine Sx.o (fun _ _ _ k => ex_lload_n dX12_positiveOf_104 rfl k) ?_
            refine Sx.o (fun _ _ _ k => ex_lload dX12_positiveOf_105 rfl k) ?_
            refine Sx.o (fun _ _ _ k => ex_lcmp dX12_positiveOf_107 k) ?_
            refine Sx.b (fun _ _ _ k1 k2 => ex_if_le 125 dX12_positiveOf_108 (by decide) k1 k2) (fun q => ?_) (fun q => ?_)
            · have hb39 := ip q hb36
              refine Sx.o (fun _ _ _ k => op_iconst (0 : Int32) dX12_positiveOf_125 (by decide) k) ?_
              obtain rfl := Option.some.inj hb39
              exact Sx.r (fun _ _ _ k => ex_zret rfl rfl dX12_positiveOf_126 k)
            · have hb40 := iq q hb36
              refine Sx.o (fun _ _ _ k => ex_goto 121 dX12_positiveOf_111 (by decide) k) ?_
              refine Sx.o (fun _ _ _ k => op_iconst (1 : Int32) dX12_positiveOf_121 (by decide) k) ?_
              refine Sx.o (fun _ _ _ k => ex_goto 126 dX12_positiveOf_122 (by decide) k) ?_
              obtain rfl := Option.some.inj hb40
              exact Sx.r (fun _ _ _ k => ex_zret rfl rfl dX12_positiveOf_126 k)
        · have hb32 := ip q hb30
          refine Sx.o (fun _ _ _ k => ex_lload_n dX12_positiveOf_84 rfl k) ?_
          refine Sx.o (fun _ _ _ k => ex_lload dX12_positiveOf_85 rfl k) ?_
          refine Sx.o (fun _ _ _ k => ex_lcmp dX12_positiveOf_87 k) ?_
          refine Sx.b (fun _ _ _ k1 k2 => ex_if_ge 125 dX12_positiveOf_88 (by decide) k1 k2) (fun q => ?_) (fun q => ?_)
          · have hb41 := ip q hb32
            refine Sx.o (fun _ _ _ k => op_iconst (0 : Int32) dX12_positiveOf_125 (by decide) k) ?_
            obtain rfl := Option.some.inj hb41
            exact Sx.r (fun _ _ _ k => ex_zret rfl rfl dX12_positiveOf_126 k)
          · have hb42 := iq q hb32
            refine Sx.o (fun _ _ _ k => ex_goto 121 dX12_positiveOf_91 (by decide) k) ?_
            refine Sx.o (fun _ _ _ k => op_iconst (1 : Int32) dX12_positiveOf_121 (by decide) k) ?_
            refine Sx.o (fun _ _ _ k => ex_goto 126 dX12_positiveOf_122 (by decide) k) ?_
            obtain rfl := Option.some.inj hb42
            exact Sx.r (fun _ _ _ k => ex_zret rfl rfl dX12_positiveOf_126 k)
  · have hb7 := iq q hb4
    refine Sx.o (fun _ _ _ k => ex_aload_n dX12_positiveOf_12 rfl rfl k) ?_
    refine Sx.o (fun _ _ _ k => ex_iload_n dX12_positiveOf_13 rfl k) ?_
    obtain ⟨r43, e_r43, hb44⟩ := ob2 hb7
    obtain ⟨hdd_r43, e_r43⟩ := iz e_r43
    refine sx_callV (dc := (44 + (dd - 1))) (as := [.int v1]) (stq := [.int r43.1]) (by omega) dX12_positiveOf_14 MX12_testOf kX12_304 iX12_testOf sX12_testOf rfl rfl ((fun e => ((hg _ _ e).2.2.2.2.2.2.2.2.2.2.1 rfl).1) e_r43) rfl rfl (Nat.le_of_ble_eq_true rfl) (Nat.le_of_ble_eq_true rfl) ((fun e => ((hg _ _ e).2.2.2.2.2.2.2.2.2.2.1 rfl).2) e_r43) rfl ?_
    refine Sx.o (L' := [.ref v0, .int v1, .int r43.1, .retAddr 0, .retAddr 0, .retAddr 0, .retAddr 0]) (fun _ _ _ k => ex_istore_n dX12_positiveOf_17 (by decide) k) ?_
    refine Sx.o (fun _ _ _ k => ex_aload_n dX12_positiveOf_18 rfl rfl k) ?_
    refine Sx.o (fun _ _ _ k => ex_dup dX12_positiveOf_19 rfl k) ?_
    obtain ⟨x46, e_x46, hb47⟩ := ob2 hb44
    refine Sx.o (fun _ _ _ k => op_getI fX12_256 dX12_positiveOf_20 e_x46 k) ?_
    refine Sx.o (fun _ _ _ k => op_iconst (1 : Int32) dX12_positiveOf_23 (by decide) k) ?_
    refine Sx.o (fun _ _ _ k => ex_iadd dX12_positiveOf_24 k) ?_
    obtain ⟨h48, e_h48, hb49⟩ := ob2 hb47
    refine Sx.p (pV_q e_h48) (fun _ _ _ k => op_put pX12_256 dX12_positiveOf_25 e_h48 (fun _ => rfl) (fun _ => rfl) k) ?_
    refine Sx.o (fun _ _ _ k => ex_iload_n dX12_positiveOf_28 rfl k) ?_
    obtain ⟨u51, e_u51, hb52⟩ := ob2 hb49
    obtain rfl := Option.some.inj hb52
    exact Sx.r (fun _ _ _ k => ex_zret rfl (nrZ_n e_u51) dX12_positiveOf_29 k)
set_option maxHeartbeats 1000000 in
set_option maxRecDepth 100000 in
theorem Ref_plainOf_t {g : (Nat × Nat × Int32 × Int32 × Int32 × Nat × Nat × am_H) → Option (Int32 × am_H)} (hg : ∀ s r, g s = some r → Ref_positiveOfG_P s r) {dd : Nat} {v0 : Nat} {v1 : Int32} {h : am_H} {r : (Int32 × am_H)} (hb : Ref_plainOf_b g dd v0 v1 h = some r) : isO h 12 v0 = true ∧ Sx (44 + dd) mX12_plainOf 0 (am_en [.ref v0, .int v1] 3) [] h (some (.int r.1)) r.2 := by
  unfold Ref_plainOf_b at hb
  obtain ⟨ho, hb⟩ := iz hb
  refine ⟨ho, ?_⟩
  show Sx (44 + dd) mX12_plainOf 0 [.ref v0, .int v1, .retAddr 0] [] h (some (.int r.1)) r.2
  refine Sx.o (fun _ _ _ k => op_iconst (0 : Int32) dX12_plainOf_0 (by decide) k) ?_
  refine Sx.o (L' := [.ref v0, .int v1, .int (0 : Int32)]) (fun _ _ _ k => ex_istore_n dX12_plainOf_1 (by decide) k) ?_
  exact (hg _ _ hb).2.2.1 rfl
set_option maxHeartbeats 1000000 in
set_option maxRecDepth 100000 in
theorem Ref_plainOf_2_t {g : (Nat × Nat × Int32 × Int32 × Int32 × Nat × Nat × am_H) → Option (Int32 × am_H)} (hg : ∀ s r, g s = some r → Ref_positiveOfG_P s r) {dd : Nat} {v0 : Nat} {v1 : Int32} {v2 : Int32} {h : am_H} {r : (Int32 × am_H)} (hb : Ref_plainOf_2_b g dd v0 v1 v2 h = some r) : Sx (44 + dd) mX12_plainOf 2 [.ref v0, .int v1, .int v2] [] h (some (.int r.1)) r.2 := by
  unfold Ref_plainOf_2_b at hb
  refine Sx.o (fun _ _ _ k => ex_aload_n dX12_plainOf_2 rfl rfl k) ?_
  refine Sx.o (fun _ _ _ k => op_bipush (7 : Int32) dX12_plainOf_3 (by decide) k) ?_
  obtain ⟨r53, e_r53, hb54⟩ := ob2 hb
  refine sx_callV (dc := 1) (as := [.int (7 : Int32)]) (stq := [.int r53.1]) (by omega) dX12_plainOf_5 MX12_passes0 kX12_283 iX12_passes0 sX12_passes0 rfl rfl (Ref_passes0_o e_r53) rfl rfl (Nat.le_of_ble_eq_true rfl) (Nat.le_of_ble_eq_true rfl) (Ref_passes0_s e_r53) rfl ?_
  refine Sx.b (fun _ _ _ k1 k2 => ex_if_eq 24 dX12_plainOf_8 (by decide) k1 k2) (fun q => ?_) (fun q => ?_)
  · have hb56 := ip q hb54
    refine Sx.o (fun _ _ _ k => ex_aload_n dX12_plainOf_24 rfl rfl k) ?_
    refine Sx.o (fun _ _ _ k => ex_iload_n dX12_plainOf_25 rfl k) ?_
    obtain ⟨r58, e_r58, hb59⟩ := ob2 hb56
    obtain ⟨hdd_r58, e_r58⟩ := iz e_r58
    refine sx_callV (dc := (44 + (dd - 1))) (as := [.int v1]) (stq := [.int r58.1]) (by omega) dX12_plainOf_26 MX12_positiveOf kX12_301 iX12_positiveOf sX12_positiveOf rfl rfl ((fun e => ((hg _ _ e).1 rfl).1) e_r58) rfl rfl (Nat.le_of_ble_eq_true rfl) (Nat.le_of_ble_eq_true rfl) ((fun e => ((hg _ _ e).1 rfl).2) e_r58) rfl ?_
    refine Sx.o (fun _ _ _ k => ex_iload_n dX12_plainOf_29 rfl k) ?_
    refine Sx.b (fun _ _ _ k1 k2 => ex_icmp_eq 37 dX12_plainOf_30 (by decide) k1 k2) (fun q => ?_) (fun q => ?_)
    · have hb61 := ip q hb59
      refine Sx.o (fun _ _ _ k => op_iconst (0 : Int32) dX12_plainOf_37 (by decide) k) ?_
      obtain rfl := Option.some.inj hb61
      exact Sx.r (fun _ _ _ k => ex_zret rfl rfl dX12_plainOf_38 k)
    · have hb62 := iq q hb59
      refine Sx.o (fun _ _ _ k => op_iconst (1 : Int32) dX12_plainOf_33 (by decide) k) ?_
      refine Sx.o (fun _ _ _ k => ex_goto 38 dX12_plainOf_34 (by decide) k) ?_
      obtain rfl := Option.some.inj hb62
      exact Sx.r (fun _ _ _ k => ex_zret rfl rfl dX12_plainOf_38 k)
  · have hb57 := iq q hb54
    refine Sx.o (fun _ _ _ k => ex_iload_n dX12_plainOf_11 rfl k) ?_
    refine Sx.bn (fun _ _ _ k1 k2 => ex_if_ne 19 dX12_plainOf_12 (by decide) k1 k2) (fun q => ?_) (fun q => ?_)
    · have hb63 := iq q hb57
      refine Sx.o (fun _ _ _ k => op_iconst (0 : Int32) dX12_plainOf_19 (by decide) k) ?_
      refine Sx.fg [true, true, false] ?_
      exact (hg _ _ hb63).2.2.2.1 rfl
    · have hb64 := ip q hb57
      refine Sx.o (fun _ _ _ k => op_iconst (1 : Int32) dX12_plainOf_15 (by decide) k) ?_
      refine Sx.o (fun _ _ _ k => ex_goto 20 dX12_plainOf_16 (by decide) k) ?_
      refine Sx.fg [true, true, false] ?_
      exact (hg _ _ hb64).2.2.2.1 rfl
set_option maxHeartbeats 1000000 in
set_option maxRecDepth 100000 in
theorem Ref_plainOf_20_t {g : (Nat × Nat × Int32 × Int32 × Int32 × Nat × Nat × am_H) → Option (Int32 × am_H)} (hg : ∀ s r, g s = some r → Ref_positiveOfG_P s r) {dd : Nat} {v0 : Nat} {v1 : Int32} {s0 : Int32} {h : am_H} {r : (Int32 × am_H)} (hb : Ref_plainOf_20_b g dd v0 v1 s0 h = some r) : Sx (44 + dd) mX12_plainOf 20 [.ref v0, .int v1, .retAddr 0] [.int s0] h (some (.int r.1)) r.2 := by
  unfold Ref_plainOf_20_b at hb
  refine Sx.o (L' := [.ref v0, .int v1, .int s0]) (fun _ _ _ k => ex_istore_n dX12_plainOf_20 (by decide) k) ?_
  refine Sx.o (fun _ _ _ k => ex_goto 2 dX12_plainOf_21 (by decide) k) ?_
  exact (hg _ _ hb).2.2.1 rfl
set_option maxHeartbeats 1000000 in
set_option maxRecDepth 100000 in
theorem Ref_bothOf_t {g : (Nat × Nat × Int32 × Int32 × Int32 × Nat × Nat × am_H) → Option (Int32 × am_H)} (hg : ∀ s r, g s = some r → Ref_positiveOfG_P s r) {dd : Nat} {v0 : Nat} {v1 : Int32} {h : am_H} {r : (Int32 × am_H)} (hb : Ref_bothOf_b g dd v0 v1 h = some r) : isO h 12 v0 = true ∧ Sx (44 + dd) mX12_bothOf 0 (am_en [.ref v0, .int v1] 4) [] h (some (.int r.1)) r.2 := by
  unfold Ref_bothOf_b at hb
  obtain ⟨ho, hb⟩ := iz hb
  refine ⟨ho, ?_⟩
  show Sx (44 + dd) mX12_bothOf 0 [.ref v0, .int v1, .retAddr 0, .retAddr 0] [] h (some (.int r.1)) r.2
  refine Sx.o (fun _ _ _ k => ex_aload_n dX12_bothOf_0 rfl rfl k) ?_
  refine Sx.o (fun _ _ _ k => ex_iload_n dX12_bothOf_1 rfl k) ?_
  obtain ⟨r65, e_r65, hb66⟩ := ob2 hb
  obtain ⟨hdd_r65, e_r65⟩ := iz e_r65
  refine sx_callV (dc := (44 + (dd - 1))) (as := [.int v1]) (stq := [.int r65.1]) (by omega) dX12_bothOf_2 MX12_plainOf kX12_298 iX12_plainOf sX12_plainOf rfl rfl ((fun e => ((hg _ _ e).2.1 rfl).1) e_r65) rfl rfl (Nat.le_of_ble_eq_true rfl) (Nat.le_of_ble_eq_true rfl) ((fun e => ((hg _ _ e).2.1 rfl).2) e_r65) rfl ?_
  refine Sx.o (L' := [.ref v0, .int v1, .int r65.1, .retAddr 0]) (fun _ _ _ k => ex_istore_n dX12_bothOf_5 (by decide) k) ?_
  exact (hg _ _ hb66).2.2.2.2.2.1 rfl
set_option maxHeartbeats 1000000 in
set_option maxRecDepth 100000 in
theorem Ref_bothOf_6_t {g : (Nat × Nat × Int32 × Int32 × Int32 × Nat × Nat × am_H) → Option (Int32 × am_H)} (hg : ∀ s r, g s = some r → Ref_positiveOfG_P s r) {dd : Nat} {v0 : Nat} {v1 : Int32} {v2 : Int32} {h : am_H} {r : (Int32 × am_H)} (hb : Ref_bothOf_6_b g dd v0 v1 v2 h = some r) : Sx (44 + dd) mX12_bothOf 6 [.ref v0, .int v1, .int v2, .retAddr 0] [] h (some (.int r.1)) r.2 := by
  unfold Ref_bothOf_6_b at hb
  refine Sx.o (fun _ _ _ k => ex_aload_n dX12_bothOf_6 rfl rfl k) ?_
  refine Sx.o (fun _ _ _ k => op_bipush (6 : Int32) dX12_bothOf_7 (by decide) k) ?_
  obtain ⟨r68, e_r68, hb69⟩ := ob2 hb
  refine sx_callV (dc := 1) (as := [.int (6 : Int32)]) (stq := [.int r68.1]) (by omega) dX12_bothOf_9 MX12_passes0 kX12_283 iX12_passes0 sX12_passes0 rfl rfl (Ref_passes0_o e_r68) rfl rfl (Nat.le_of_ble_eq_true rfl) (Nat.le_of_ble_eq_true rfl) (Ref_passes0_s e_r68) rfl ?_
  refine Sx.b (fun _ _ _ k1 k2 => ex_if_eq 50 dX12_bothOf_12 (by decide) k1 k2) (fun q => ?_) (fun q => ?_)
  · have hb71 := ip q hb69
    refine Sx.o (fun _ _ _ k => ex_iload_n dX12_bothOf_50 rfl k) ?_
    obtain ⟨u73, e_u73, hb74⟩ := ob2 hb71
    obtain rfl := Option.some.inj hb74
    exact Sx.r (fun _ _ _ k => ex_zret rfl (nrZ_n e_u73) dX12_bothOf_51 k)
  · have hb72 := iq q hb69
    refine Sx.o (fun _ _ _ k => ex_aload_n dX12_bothOf_15 rfl rfl k) ?_
    refine Sx.o (fun _ _ _ k => ex_iload_n dX12_bothOf_16 rfl k) ?_
    refine Sx.b (fun _ _ _ k1 k2 => ex_if_eq 28 dX12_bothOf_17 (by decide) k1 k2) (fun q => ?_) (fun q => ?_)
    · have hb75 := ip q hb72
      exact (hg _ _ hb75).2.2.2.2.2.2.1 rfl
    · have hb76 := iq q hb72
      refine Sx.o (fun _ _ _ k => ex_iload_n dX12_bothOf_20 rfl k) ?_
      refine Sx.b (fun _ _ _ k1 k2 => ex_if_eq 28 dX12_bothOf_21 (by decide) k1 k2) (fun q => ?_) (fun q => ?_)
      · have hb77 := ip q hb76
        exact (hg _ _ hb77).2.2.2.2.2.2.1 rfl
      · have hb78 := iq q hb76
        refine Sx.o (fun _ _ _ k => op_iconst (1 : Int32) dX12_bothOf_24 (by decide) k) ?_
        refine Sx.o (fun _ _ _ k => ex_goto 29 dX12_bothOf_25 (by decide) k) ?_
        exact (hg _ _ hb78).2.2.2.2.2.2.2.1 rfl
set_option maxHeartbeats 1000000 in
set_option maxRecDepth 100000 in
theorem Ref_bothOf_28_t {g : (Nat × Nat × Int32 × Int32 × Int32 × Nat × Nat × am_H) → Option (Int32 × am_H)} (hg : ∀ s r, g s = some r → Ref_positiveOfG_P s r) {dd : Nat} {v0 : Nat} {v1 : Int32} {v2 : Int32} {s0 : Nat} {h : am_H} {r : (Int32 × am_H)} (hb : Ref_bothOf_28_b g dd v0 v1 v2 s0 h = some r) : Sx (44 + dd) mX12_bothOf 28 [.ref v0, .int v1, .int v2, .retAddr 0] [.ref s0] h (some (.int r.1)) r.2 := by
  unfold Ref_bothOf_28_b at hb
  refine Sx.o (fun _ _ _ k => op_iconst (0 : Int32) dX12_bothOf_28 (by decide) k) ?_
  exact (hg _ _ hb).2.2.2.2.2.2.2.1 rfl
set_option maxHeartbeats 1000000 in
set_option maxRecDepth 100000 in
theorem Ref_bothOf_29_t {g : (Nat × Nat × Int32 × Int32 × Int32 × Nat × Nat × am_H) → Option (Int32 × am_H)} (hg : ∀ s r, g s = some r → Ref_positiveOfG_P s r) {dd : Nat} {v0 : Nat} {v1 : Int32} {v2 : Int32} {s0 : Int32} {s1 : Nat} {h : am_H} {r : (Int32 × am_H)} (hb : Ref_bothOf_29_b g dd v0 v1 v2 s0 s1 h = some r) : Sx (44 + dd) mX12_bothOf 29 [.ref v0, .int v1, .int v2, .retAddr 0] [.int s0, .ref s1] h (some (.int r.1)) r.2 := by
  unfold Ref_bothOf_29_b at hb
  obtain ⟨r79, e_r79, hb80⟩ := ob2 hb
  obtain ⟨hdd_r79, e_r79⟩ := iz e_r79
  refine sx_callV (dc := (44 + (dd - 1))) (as := [.int s0]) (stq := [.int r79.1]) (by omega) dX12_bothOf_29 MX12_plainOf kX12_298 iX12_plainOf sX12_plainOf rfl rfl ((fun e => ((hg _ _ e).2.1 rfl).1) e_r79) rfl rfl (Nat.le_of_ble_eq_true rfl) (Nat.le_of_ble_eq_true rfl) ((fun e => ((hg _ _ e).2.1 rfl).2) e_r79) rfl ?_
  refine Sx.o (L' := [.ref v0, .int v1, .int v2, .int r79.1]) (fun _ _ _ k => ex_istore_n dX12_bothOf_32 (by decide) k) ?_
  refine Sx.o (fun _ _ _ k => ex_iload_n dX12_bothOf_33 rfl k) ?_
  refine Sx.b (fun _ _ _ k1 k2 => ex_if_eq 45 dX12_bothOf_34 (by decide) k1 k2) (fun q => ?_) (fun q => ?_)
  · have hb82 := ip q hb80
    refine Sx.fg [true, true, false, false] ?_
    exact (hg _ _ hb82).2.2.2.2.2.2.2.2.1 rfl
  · have hb83 := iq q hb80
    refine Sx.o (fun _ _ _ k => ex_iload_n dX12_bothOf_37 rfl k) ?_
    refine Sx.b (fun _ _ _ k1 k2 => ex_if_eq 45 dX12_bothOf_38 (by decide) k1 k2) (fun q => ?_) (fun q => ?_)
    · have hb84 := ip q hb83
      refine Sx.fg [true, true, false, false] ?_
      exact (hg _ _ hb84).2.2.2.2.2.2.2.2.1 rfl
    · have hb85 := iq q hb83
      refine Sx.o (fun _ _ _ k => op_iconst (1 : Int32) dX12_bothOf_41 (by decide) k) ?_
      refine Sx.o (fun _ _ _ k => ex_goto 46 dX12_bothOf_42 (by decide) k) ?_
      refine Sx.fg [true, true, false, false] ?_
      exact (hg _ _ hb85).2.2.2.2.2.2.2.2.2.1 rfl
set_option maxHeartbeats 1000000 in
set_option maxRecDepth 100000 in
theorem Ref_bothOf_45_t {g : (Nat × Nat × Int32 × Int32 × Int32 × Nat × Nat × am_H) → Option (Int32 × am_H)} (hg : ∀ s r, g s = some r → Ref_positiveOfG_P s r) {dd : Nat} {v0 : Nat} {v1 : Int32} {h : am_H} {r : (Int32 × am_H)} (hb : Ref_bothOf_45_b g dd v0 v1 h = some r) : Sx (44 + dd) mX12_bothOf 45 [.ref v0, .int v1, .retAddr 0, .retAddr 0] [] h (some (.int r.1)) r.2 := by
  unfold Ref_bothOf_45_b at hb
  refine Sx.o (fun _ _ _ k => op_iconst (0 : Int32) dX12_bothOf_45 (by decide) k) ?_
  exact (hg _ _ hb).2.2.2.2.2.2.2.2.2.1 rfl
set_option maxHeartbeats 1000000 in
set_option maxRecDepth 100000 in
theorem Ref_bothOf_46_t {g : (Nat × Nat × Int32 × Int32 × Int32 × Nat × Nat × am_H) → Option (Int32 × am_H)} (hg : ∀ s r, g s = some r → Ref_positiveOfG_P s r) {dd : Nat} {v0 : Nat} {v1 : Int32} {s0 : Int32} {h : am_H} {r : (Int32 × am_H)} (hb : Ref_bothOf_46_b g dd v0 v1 s0 h = some r) : Sx (44 + dd) mX12_bothOf 46 [.ref v0, .int v1, .retAddr 0, .retAddr 0] [.int s0] h (some (.int r.1)) r.2 := by
  unfold Ref_bothOf_46_b at hb
  refine Sx.o (L' := [.ref v0, .int v1, .int s0, .retAddr 0]) (fun _ _ _ k => ex_istore_n dX12_bothOf_46 (by decide) k) ?_
  refine Sx.o (fun _ _ _ k => ex_goto 6 dX12_bothOf_47 (by decide) k) ?_
  exact (hg _ _ hb).2.2.2.2.2.1 rfl
set_option maxHeartbeats 1000000 in
set_option maxRecDepth 100000 in
theorem Ref_testOf_t {g : (Nat × Nat × Int32 × Int32 × Int32 × Nat × Nat × am_H) → Option (Int32 × am_H)} (hg : ∀ s r, g s = some r → Ref_positiveOfG_P s r) {dd : Nat} {v0 : Nat} {v1 : Int32} {h : am_H} {r : (Int32 × am_H)} (hb : Ref_testOf_b g dd v0 v1 h = some r) : isO h 12 v0 = true ∧ Sx (44 + dd) mX12_testOf 0 (am_en [.ref v0, .int v1] 4) [] h (some (.int r.1)) r.2 := by
  unfold Ref_testOf_b at hb
  obtain ⟨ho, hb⟩ := iz hb
  refine ⟨ho, ?_⟩
  show Sx (44 + dd) mX12_testOf 0 [.ref v0, .int v1, .retAddr 0, .retAddr 0] [] h (some (.int r.1)) r.2
  refine Sx.o (fun _ _ _ k => ex_aload_n dX12_testOf_0 rfl rfl k) ?_
  refine Sx.o (fun _ _ _ k => ex_iload_n dX12_testOf_1 rfl k) ?_
  obtain ⟨r86, e_r86, hb87⟩ := ob2 hb
  obtain ⟨hdd_r86, e_r86⟩ := iz e_r86
  refine sx_callV (dc := (44 + (dd - 1))) (as := [.int v1]) (stq := [.int r86.1]) (by omega) dX12_testOf_2 MX12_bothOf kX12_295 iX12_bothOf sX12_bothOf rfl rfl ((fun e => ((hg _ _ e).2.2.2.2.1 rfl).1) e_r86) rfl rfl (Nat.le_of_ble_eq_true rfl) (Nat.le_of_ble_eq_true rfl) ((fun e => ((hg _ _ e).2.2.2.2.1 rfl).2) e_r86) rfl ?_
  refine Sx.o (L' := [.ref v0, .int v1, .int r86.1, .retAddr 0]) (fun _ _ _ k => ex_istore_n dX12_testOf_5 (by decide) k) ?_
  exact (hg _ _ hb87).2.2.2.2.2.2.2.2.2.2.2.1 rfl
set_option maxHeartbeats 1000000 in
set_option maxRecDepth 100000 in
theorem Ref_testOf_6_t {g : (Nat × Nat × Int32 × Int32 × Int32 × Nat × Nat × am_H) → Option (Int32 × am_H)} (hg : ∀ s r, g s = some r → Ref_positiveOfG_P s r) {dd : Nat} {v0 : Nat} {v1 : Int32} {v2 : Int32} {h : am_H} {r : (Int32 × am_H)} (hb : Ref_testOf_6_b g dd v0 v1 v2 h = some r) : Sx (44 + dd) mX12_testOf 6 [.ref v0, .int v1, .int v2, .retAddr 0] [] h (some (.int r.1)) r.2 := by
  unfold Ref_testOf_6_b at hb
  refine Sx.o (fun _ _ _ k => ex_aload_n dX12_testOf_6 rfl rfl k) ?_
  refine Sx.o (fun _ _ _ k => op_iconst (5 : Int32) dX12_testOf_7 (by decide) k) ?_
  obtain ⟨r89, e_r89, hb90⟩ := ob2 hb
  refine sx_callV (dc := 1) (as := [.int (5 : Int32)]) (stq := [.int r89.1]) (by omega) dX12_testOf_8 MX12_passes0 kX12_283 iX12_passes0 sX12_passes0 rfl rfl (Ref_passes0_o e_r89) rfl rfl (Nat.le_of_ble_eq_true rfl) (Nat.le_of_ble_eq_true rfl) (Ref_passes0_s e_r89) rfl ?_
  refine Sx.b (fun _ _ _ k1 k2 => ex_if_eq 49 dX12_testOf_11 (by decide) k1 k2) (fun q => ?_) (fun q => ?_)
  · have hb92 := ip q hb90
    refine Sx.o (fun _ _ _ k => ex_iload_n dX12_testOf_49 rfl k) ?_
    obtain ⟨u94, e_u94, hb95⟩ := ob2 hb92
    obtain rfl := Option.some.inj hb95
    exact Sx.r (fun _ _ _ k => ex_zret rfl (nrZ_n e_u94) dX12_testOf_50 k)
  · have hb93 := iq q hb90
    refine Sx.o (fun _ _ _ k => ex_aload_n dX12_testOf_14 rfl rfl k) ?_
    refine Sx.o (fun _ _ _ k => ex_iload_n dX12_testOf_15 rfl k) ?_
    refine Sx.b (fun _ _ _ k1 k2 => ex_if_eq 27 dX12_testOf_16 (by decide) k1 k2) (fun q => ?_) (fun q => ?_)
    · have hb96 := ip q hb93
      exact (hg _ _ hb96).2.2.2.2.2.2.2.2.2.2.2.2.1 rfl
    · have hb97 := iq q hb93
      refine Sx.o (fun _ _ _ k => ex_iload_n dX12_testOf_19 rfl k) ?_
      refine Sx.bn (fun _ _ _ k1 k2 => ex_if_ne 27 dX12_testOf_20 (by decide) k1 k2) (fun q => ?_) (fun q => ?_)
      · have hb98 := iq q hb97
        exact (hg _ _ hb98).2.2.2.2.2.2.2.2.2.2.2.2.1 rfl
      · have hb99 := ip q hb97
        refine Sx.o (fun _ _ _ k => op_iconst (1 : Int32) dX12_testOf_23 (by decide) k) ?_
        refine Sx.o (fun _ _ _ k => ex_goto 28 dX12_testOf_24 (by decide) k) ?_
        exact (hg _ _ hb99).2.2.2.2.2.2.2.2.2.2.2.2.2.1 rfl
set_option maxHeartbeats 1000000 in
set_option maxRecDepth 100000 in
theorem Ref_testOf_27_t {g : (Nat × Nat × Int32 × Int32 × Int32 × Nat × Nat × am_H) → Option (Int32 × am_H)} (hg : ∀ s r, g s = some r → Ref_positiveOfG_P s r) {dd : Nat} {v0 : Nat} {v1 : Int32} {v2 : Int32} {s0 : Nat} {h : am_H} {r : (Int32 × am_H)} (hb : Ref_testOf_27_b g dd v0 v1 v2 s0 h = some r) : Sx (44 + dd) mX12_testOf 27 [.ref v0, .int v1, .int v2, .retAddr 0] [.ref s0] h (some (.int r.1)) r.2 := by
  unfold Ref_testOf_27_b at hb
  refine Sx.o (fun _ _ _ k => op_iconst (0 : Int32) dX12_testOf_27 (by decide) k) ?_
  exact (hg _ _ hb).2.2.2.2.2.2.2.2.2.2.2.2.2.1 rfl
set_option maxHeartbeats 1000000 in
set_option maxRecDepth 100000 in
theorem Ref_testOf_28_t {g : (Nat × Nat × Int32 × Int32 × Int32 × Nat × Nat × am_H) → Option (Int32 × am_H)} (hg : ∀ s r, g s = some r → Ref_positiveOfG_P s r) {dd : Nat} {v0 : Nat} {v1 : Int32} {v2 : Int32} {s0 : Int32} {s1 : Nat} {h : am_H} {r : (Int32 × am_H)} (hb : Ref_testOf_28_b g dd v0 v1 v2 s0 s1 h = some r) : Sx (44 + dd) mX12_testOf 28 [.ref v0, .int v1, .int v2, .retAddr 0] [.int s0, .ref s1] h (some (.int r.1)) r.2 := by
  unfold Ref_testOf_28_b at hb
  obtain ⟨r100, e_r100, hb101⟩ := ob2 hb
  obtain ⟨hdd_r100, e_r100⟩ := iz e_r100
  refine sx_callV (dc := (44 + (dd - 1))) (as := [.int s0]) (stq := [.int r100.1]) (by omega) dX12_testOf_28 MX12_bothOf kX12_295 iX12_bothOf sX12_bothOf rfl rfl ((fun e => ((hg _ _ e).2.2.2.2.1 rfl).1) e_r100) rfl rfl (Nat.le_of_ble_eq_true rfl) (Nat.le_of_ble_eq_true rfl) ((fun e => ((hg _ _ e).2.2.2.2.1 rfl).2) e_r100) rfl ?_
  refine Sx.o (L' := [.ref v0, .int v1, .int v2, .int r100.1]) (fun _ _ _ k => ex_istore_n dX12_testOf_31 (by decide) k) ?_
  refine Sx.o (fun _ _ _ k => ex_iload_n dX12_testOf_32 rfl k) ?_
  refine Sx.bn (fun _ _ _ k1 k2 => ex_if_ne 40 dX12_testOf_33 (by decide) k1 k2) (fun q => ?_) (fun q => ?_)
  · have hb103 := iq q hb101
    refine Sx.fg [true, true, false, false] ?_
    exact (hg _ _ hb103).2.2.2.2.2.2.2.2.2.2.2.2.2.2.1 rfl
  · have hb104 := ip q hb101
    refine Sx.o (fun _ _ _ k => ex_iload_n dX12_testOf_36 rfl k) ?_
    refine Sx.b (fun _ _ _ k1 k2 => ex_if_eq 44 dX12_testOf_37 (by decide) k1 k2) (fun q => ?_) (fun q => ?_)
    · have hb105 := ip q hb104
      refine Sx.o (fun _ _ _ k => op_iconst (0 : Int32) dX12_testOf_44 (by decide) k) ?_
      refine Sx.fg [true, true, false, false] ?_
      exact (hg _ _ hb105).2.2.2.2.2.2.2.2.2.2.2.2.2.2.2.1 rfl
    · have hb106 := iq q hb104
      refine Sx.fg [true, true, false, false] ?_
      exact (hg _ _ hb106).2.2.2.2.2.2.2.2.2.2.2.2.2.2.1 rfl
set_option maxHeartbeats 1000000 in
set_option maxRecDepth 100000 in
theorem Ref_testOf_40_t {g : (Nat × Nat × Int32 × Int32 × Int32 × Nat × Nat × am_H) → Option (Int32 × am_H)} (hg : ∀ s r, g s = some r → Ref_positiveOfG_P s r) {dd : Nat} {v0 : Nat} {v1 : Int32} {h : am_H} {r : (Int32 × am_H)} (hb : Ref_testOf_40_b g dd v0 v1 h = some r) : Sx (44 + dd) mX12_testOf 40 [.ref v0, .int v1, .retAddr 0, .retAddr 0] [] h (some (.int r.1)) r.2 := by
  unfold Ref_testOf_40_b at hb
  refine Sx.o (fun _ _ _ k => op_iconst (1 : Int32) dX12_testOf_40 (by decide) k) ?_
  refine Sx.o (fun _ _ _ k => ex_goto 45 dX12_testOf_41 (by decide) k) ?_
  exact (hg _ _ hb).2.2.2.2.2.2.2.2.2.2.2.2.2.2.2.1 rfl
set_option maxHeartbeats 1000000 in
set_option maxRecDepth 100000 in
theorem Ref_testOf_45_t {g : (Nat × Nat × Int32 × Int32 × Int32 × Nat × Nat × am_H) → Option (Int32 × am_H)} (hg : ∀ s r, g s = some r → Ref_positiveOfG_P s r) {dd : Nat} {v0 : Nat} {v1 : Int32} {s0 : Int32} {h : am_H} {r : (Int32 × am_H)} (hb : Ref_testOf_45_b g dd v0 v1 s0 h = some r) : Sx (44 + dd) mX12_testOf 45 [.ref v0, .int v1, .retAddr 0, .retAddr 0] [.int s0] h (some (.int r.1)) r.2 := by
  unfold Ref_testOf_45_b at hb
  refine Sx.o (L' := [.ref v0, .int v1, .int s0, .retAddr 0]) (fun _ _ _ k => ex_istore_n dX12_testOf_45 (by decide) k) ?_
  refine Sx.o (fun _ _ _ k => ex_goto 6 dX12_testOf_46 (by decide) k) ?_
  exact (hg _ _ hb).2.2.2.2.2.2.2.2.2.2.2.1 rfl
theorem Ref_positiveOfG_T : ∀ s r, fx Ref_positiveOfG_F Ref_positiveOfG_M s = some r → Ref_positiveOfG_P s r := fx_ind Ref_positiveOfG_M Ref_positiveOfG_P (fun g hg s r hb => by
  unfold Ref_positiveOfG_F at hb
  exact ⟨fun q => Ref_positiveOf_t hg (ip q hb), fun q => Ref_plainOf_t hg (ip q (iq (by rw [q]; decide) hb)), fun q => Ref_plainOf_2_t hg (ip q (iq (by rw [q]; decide) (iq (by rw [q]; decide) hb))), fun q => Ref_plainOf_20_t hg (ip q (iq (by rw [q]; decide) (iq (by rw [q]; decide) (iq (by rw [q]; decide) hb)))), fun q => Ref_bothOf_t hg (ip q (iq (by rw [q]; decide) (iq (by rw [q]; decide) (iq (by rw [q]; decide) (iq (by rw [q]; decide) hb))))), fun q => Ref_bothOf_6_t hg (ip q (iq (by rw [q]; decide) (iq (by rw [q]; decide) (iq (by rw [q]; decide) (iq (by rw [q]; decide) (iq (by rw [q]; decide) hb)))))), fun q => Ref_bothOf_28_t hg (ip q (iq (by rw [q]; decide) (iq (by rw [q]; decide) (iq (by rw [q]; decide) (iq (by rw [q]; decide) (iq (by rw [q]; decide) (iq (by rw [q]; decide) hb))))))), fun q => Ref_bothOf_29_t hg (ip q (iq (by rw [q]; decide) (iq (by rw [q]; decide) (iq (by rw [q]; decide) (iq (by rw [q]; decide) (iq (by rw [q]; decide) (iq (by rw [q]; decide) (iq (by rw [q]; decide) hb)))))))), fun q => Ref_bothOf_45_t hg (ip q (iq (by rw [q]; decide) (iq (by rw [q]; decide) (iq (by rw [q]; decide) (iq (by rw [q]; decide) (iq (by rw [q]; decide) (iq (by rw [q]; decide) (iq (by rw [q]; decide) (iq (by rw [q]; decide) hb))))))))), fun q => Ref_bothOf_46_t hg (ip q (iq (by rw [q]; decide) (iq (by rw [q]; decide) (iq (by rw [q]; decide) (iq (by rw [q]; decide) (iq (by rw [q]; decide) (iq (by rw [q]; decide) (iq (by rw [q]; decide) (iq (by rw [q]; decide) (iq (by rw [q]; decide) hb)))))))))), fun q => Ref_testOf_t hg (ip q (iq (by rw [q]; decide) (iq (by rw [q]; decide) (iq (by rw [q]; decide) (iq (by rw [q]; decide) (iq (by rw [q]; decide) (iq (by rw [q]; decide) (iq (by rw [q]; decide) (iq (by rw [q]; decide) (iq (by rw [q]; decide) (iq (by rw [q]; decide) hb))))))))))), fun q => Ref_testOf_6_t hg (ip q (iq (by rw [q]; decide) (iq (by rw [q]; decide) (iq (by rw [q]; decide) (iq (by rw [q]; decide) (iq (by rw [q]; decide) (iq (by rw [q]; decide) (iq (by rw [q]; decide) (iq (by rw [q]; decide) (iq (by rw [q]; decide) (iq (by rw [q]; decide) (iq (by rw [q]; decide) hb)))))))))))), fun q => Ref_testOf_27_t hg (ip q (iq (by rw [q]; decide) (iq (by rw [q]; decide) (iq (by rw [q]; decide) (iq (by rw [q]; decide) (iq (by rw [q]; decide) (iq (by rw [q]; decide) (iq (by rw [q]; decide) (iq (by rw [q]; decide) (iq (by rw [q]; decide) (iq (by rw [q]; decide) (iq (by rw [q]; decide) (iq (by rw [q]; decide) hb))))))))))))), fun q => Ref_testOf_28_t hg (ip q (iq (by rw [q]; decide) (iq (by rw [q]; decide) (iq (by rw [q]; decide) (iq (by rw [q]; decide) (iq (by rw [q]; decide) (iq (by rw [q]; decide) (iq (by rw [q]; decide) (iq (by rw [q]; decide) (iq (by rw [q]; decide) (iq (by rw [q]; decide) (iq (by rw [q]; decide) (iq (by rw [q]; decide) (iq (by rw [q]; decide) hb)))))))))))))), fun q => Ref_testOf_40_t hg (ip q (iq (by rw [q]; decide) (iq (by rw [q]; decide) (iq (by rw [q]; decide) (iq (by rw [q]; decide) (iq (by rw [q]; decide) (iq (by rw [q]; decide) (iq (by rw [q]; decide) (iq (by rw [q]; decide) (iq (by rw [q]; decide) (iq (by rw [q]; decide) (iq (by rw [q]; decide) (iq (by rw [q]; decide) (iq (by rw [q]; decide) (iq (by rw [q]; decide) hb))))))))))))))), fun q => Ref_testOf_45_t hg (ip q (iq (by rw [q]; decide) (iq (by rw [q]; decide) (iq (by rw [q]; decide) (iq (by rw [q]; decide) (iq (by rw [q]; decide) (iq (by rw [q]; decide) (iq (by rw [q]; decide) (iq (by rw [q]; decide) (iq (by rw [q]; decide) (iq (by rw [q]; decide) (iq (by rw [q]; decide) (iq (by rw [q]; decide) (iq (by rw [q]; decide) (iq (by rw [q]; decide) (iq (by rw [q]; decide) hb)))))))))))))))), trivial⟩)
set_option maxHeartbeats 1000000 in
set_option maxRecDepth 100000 in
theorem Ref_positiveOf_r {g : (Nat × Nat × Int32 × Int32 × Int32 × Nat × Nat × am_H) → Option (Int32 × am_H)} (hg : ∀ s r, g s = some r → Eqs s.2.2.2.2.2.2.2 r.2) {dd : Nat} {v0 : Nat} {v1 : Int32} {h : am_H} {r : (Int32 × am_H)} (hb : Ref_positiveOf_b g dd v0 v1 h = some r) : Eqs h r.2 := by
  unfold Ref_positiveOf_b at hb
  have w0 := Eqs.rf h
  obtain ⟨ho, hb⟩ := iz hb
  obtain ⟨x1, e_x1, hb2⟩ := ob2 hb
  obtain ⟨r3, e_r3, hb4⟩ := ob2 hb2
  have w5 := w0.tr (Ref_passes0_q e_r3)
  by_cases q : r3.1 = (0 : Int32)
  · have hb6 := ip q hb4
    obtain ⟨r8, e_r8, hb9⟩ := ob2 hb6
    have w10 := w5.tr (Ref_sumOf_q e_r8)
    obtain ⟨x11, e_x11, hb12⟩ := ob2 hb9
    obtain ⟨x13, e_x13, hb14⟩ := ob2 hb12
    obtain ⟨x15, e_x15, hb16⟩ := ob2 hb14
    obtain ⟨h17, e_h17, hb18⟩ := ob2 hb16
    have w19 := w10.tr (pV_q e_h17)
    obtain ⟨r20, e_r20, hb21⟩ := ob2 hb18
    have w22 := w19.tr (Ref_sumOf_q e_r20)
    by_cases q : v1 = (0 : Int32)
    · have hb23 := ip q hb21
      obtain rfl := Option.some.inj hb23
      exact w22
    · have hb24 := iq q hb21
      obtain ⟨x25, e_x25, hb26⟩ := ob2 hb24
      by_cases q : x25 = (0 : Int32)
      · have hb28 := ip q hb26
        obtain ⟨x29, e_x29, hb30⟩ := ob2 hb28
        by_cases q : x13 = x29
        · have hb32 := ip q hb30
          by_cases q : (0 : Int32) ≤ (lg_cmp r8.1 r20.1)
          · have hb41 := ip q hb32
            obtain rfl := Option.some.inj hb41
            exact w22
          · have hb42 := iq q hb32
            obtain rfl := Option.some.inj hb42
            exact w22
        · have hb31 := iq q hb30
          obtain ⟨x33, e_x33, hb34⟩ := ob2 hb31
          by_cases q : x13 = x33
          · have hb36 := ip q hb34
            by_cases q : (lg_cmp r8.1 r20.1) ≤ (0 : Int32)
            · have hb39 := ip q hb36
              obtain rfl := Option.some.inj hb39
              exact w22
            · have hb40 := iq q hb36
              obtain rfl := Option.some.inj hb40
              exact w22
          · have hb35 := iq q hb34
            by_cases q : (lg_cmp r8.1 r20.1) = (0 : Int32)
            · have hb38 := ip q hb35
              obtain rfl := Option.some.inj hb38
              exact w22
            · have hb37 := iq q hb35
              obtain rfl := Option.some.inj hb37
              exact w22
      · have hb27 := iq q hb26
        obtain rfl := Option.some.inj hb27
        exact w22
  · have hb7 := iq q hb4
    obtain ⟨r43, e_r43, hb44⟩ := ob2 hb7
    obtain ⟨hdd_r43, e_r43⟩ := iz e_r43
    have w45 := w5.tr (hg _ _ e_r43)
    obtain ⟨x46, e_x46, hb47⟩ := ob2 hb44
    obtain ⟨h48, e_h48, hb49⟩ := ob2 hb47
    have w50 := w45.tr (pV_q e_h48)
    obtain ⟨u51, e_u51, hb52⟩ := ob2 hb49
    obtain rfl := Option.some.inj hb52
    exact w50
set_option maxHeartbeats 1000000 in
set_option maxRecDepth 100000 in
theorem Ref_plainOf_r {g : (Nat × Nat × Int32 × Int32 × Int32 × Nat × Nat × am_H) → Option (Int32 × am_H)} (hg : ∀ s r, g s = some r → Eqs s.2.2.2.2.2.2.2 r.2) {dd : Nat} {v0 : Nat} {v1 : Int32} {h : am_H} {r : (Int32 × am_H)} (hb : Ref_plainOf_b g dd v0 v1 h = some r) : Eqs h r.2 := by
  unfold Ref_plainOf_b at hb
  have w0 := Eqs.rf h
  obtain ⟨ho, hb⟩ := iz hb
  exact w0.tr (hg _ _ hb)
set_option maxHeartbeats 1000000 in
set_option maxRecDepth 100000 in
theorem Ref_plainOf_2_r {g : (Nat × Nat × Int32 × Int32 × Int32 × Nat × Nat × am_H) → Option (Int32 × am_H)} (hg : ∀ s r, g s = some r → Eqs s.2.2.2.2.2.2.2 r.2) {dd : Nat} {v0 : Nat} {v1 : Int32} {v2 : Int32} {h : am_H} {r : (Int32 × am_H)} (hb : Ref_plainOf_2_b g dd v0 v1 v2 h = some r) : Eqs h r.2 := by
  unfold Ref_plainOf_2_b at hb
  have w0 := Eqs.rf h
  obtain ⟨r53, e_r53, hb54⟩ := ob2 hb
  have w55 := w0.tr (Ref_passes0_q e_r53)
  by_cases q : r53.1 = (0 : Int32)
  · have hb56 := ip q hb54
    obtain ⟨r58, e_r58, hb59⟩ := ob2 hb56
    obtain ⟨hdd_r58, e_r58⟩ := iz e_r58
    have w60 := w55.tr (hg _ _ e_r58)
    by_cases q : r58.1 = v2
    · have hb61 := ip q hb59
      obtain rfl := Option.some.inj hb61
      exact w60
    · have hb62 := iq q hb59
      obtain rfl := Option.some.inj hb62
      exact w60
  · have hb57 := iq q hb54
    by_cases q : v2 = (0 : Int32)
    · have hb64 := ip q hb57
      exact w55.tr (hg _ _ hb64)
    · have hb63 := iq q hb57
      exact w55.tr (hg _ _ hb63)
set_option maxHeartbeats 1000000 in
set_option maxRecDepth 100000 in
theorem Ref_plainOf_20_r {g : (Nat × Nat × Int32 × Int32 × Int32 × Nat × Nat × am_H) → Option (Int32 × am_H)} (hg : ∀ s r, g s = some r → Eqs s.2.2.2.2.2.2.2 r.2) {dd : Nat} {v0 : Nat} {v1 : Int32} {s0 : Int32} {h : am_H} {r : (Int32 × am_H)} (hb : Ref_plainOf_20_b g dd v0 v1 s0 h = some r) : Eqs h r.2 := by
  unfold Ref_plainOf_20_b at hb
  have w0 := Eqs.rf h
  exact w0.tr (hg _ _ hb)
set_option maxHeartbeats 1000000 in
set_option maxRecDepth 100000 in
theorem Ref_bothOf_r {g : (Nat × Nat × Int32 × Int32 × Int32 × Nat × Nat × am_H) → Option (Int32 × am_H)} (hg : ∀ s r, g s = some r → Eqs s.2.2.2.2.2.2.2 r.2) {dd : Nat} {v0 : Nat} {v1 : Int32} {h : am_H} {r : (Int32 × am_H)} (hb : Ref_bothOf_b g dd v0 v1 h = some r) : Eqs h r.2 := by
  unfold Ref_bothOf_b at hb
  have w0 := Eqs.rf h
  obtain ⟨ho, hb⟩ := iz hb
  obtain ⟨r65, e_r65, hb66⟩ := ob2 hb
  obtain ⟨hdd_r65, e_r65⟩ := iz e_r65
  have w67 := w0.tr (hg _ _ e_r65)
  exact w67.tr (hg _ _ hb66)
set_option maxHeartbeats 1000000 in
set_option maxRecDepth 100000 in
theorem Ref_bothOf_6_r {g : (Nat × Nat × Int32 × Int32 × Int32 × Nat × Nat × am_H) → Option (Int32 × am_H)} (hg : ∀ s r, g s = some r → Eqs s.2.2.2.2.2.2.2 r.2) {dd : Nat} {v0 : Nat} {v1 : Int32} {v2 : Int32} {h : am_H} {r : (Int32 × am_H)} (hb : Ref_bothOf_6_b g dd v0 v1 v2 h = some r) : Eqs h r.2 := by
  unfold Ref_bothOf_6_b at hb
  have w0 := Eqs.rf h
  obtain ⟨r68, e_r68, hb69⟩ := ob2 hb
  have w70 := w0.tr (Ref_passes0_q e_r68)
  by_cases q : r68.1 = (0 : Int32)
  · have hb71 := ip q hb69
    obtain ⟨u73, e_u73, hb74⟩ := ob2 hb71
    obtain rfl := Option.some.inj hb74
    exact w70
  · have hb72 := iq q hb69
    by_cases q : v1 = (0 : Int32)
    · have hb75 := ip q hb72
      exact w70.tr (hg _ _ hb75)
    · have hb76 := iq q hb72
      by_cases q : v2 = (0 : Int32)
      · have hb77 := ip q hb76
        exact w70.tr (hg _ _ hb77)
      · have hb78 := iq q hb76
        exact w70.tr (hg _ _ hb78)
set_option maxHeartbeats 1000000 in
set_option maxRecDepth 100000 in
theorem Ref_bothOf_28_r {g : (Nat × Nat × Int32 × Int32 × Int32 × Nat × Nat × am_H) → Option (Int32 × am_H)} (hg : ∀ s r, g s = some r → Eqs s.2.2.2.2.2.2.2 r.2) {dd : Nat} {v0 : Nat} {v1 : Int32} {v2 : Int32} {s0 : Nat} {h : am_H} {r : (Int32 × am_H)} (hb : Ref_bothOf_28_b g dd v0 v1 v2 s0 h = some r) : Eqs h r.2 := by
  unfold Ref_bothOf_28_b at hb
  have w0 := Eqs.rf h
  exact w0.tr (hg _ _ hb)
set_option maxHeartbeats 1000000 in
set_option maxRecDepth 100000 in
theorem Ref_bothOf_29_r {g : (Nat × Nat × Int32 × Int32 × Int32 × Nat × Nat × am_H) → Option (Int32 × am_H)} (hg : ∀ s r, g s = some r → Eqs s.2.2.2.2.2.2.2 r.2) {dd : Nat} {v0 : Nat} {v1 : Int32} {v2 : Int32} {s0 : Int32} {s1 : Nat} {h : am_H} {r : (Int32 × am_H)} (hb : Ref_bothOf_29_b g dd v0 v1 v2 s0 s1 h = some r) : Eqs h r.2 := by
  unfold Ref_bothOf_29_b at hb
  have w0 := Eqs.rf h
  obtain ⟨r79, e_r79, hb80⟩ := ob2 hb
  obtain ⟨hdd_r79, e_r79⟩ := iz e_r79
  have w81 := w0.tr (hg _ _ e_r79)
  by_cases q : v2 = (0 : Int32)
  · have hb82 := ip q hb80
    exact w81.tr (hg _ _ hb82)
  · have hb83 := iq q hb80
    by_cases q : r79.1 = (0 : Int32)
    · have hb84 := ip q hb83
      exact w81.tr (hg _ _ hb84)
    · have hb85 := iq q hb83
      exact w81.tr (hg _ _ hb85)
set_option maxHeartbeats 1000000 in
set_option maxRecDepth 100000 in
theorem Ref_bothOf_45_r {g : (Nat × Nat × Int32 × Int32 × Int32 × Nat × Nat × am_H) → Option (Int32 × am_H)} (hg : ∀ s r, g s = some r → Eqs s.2.2.2.2.2.2.2 r.2) {dd : Nat} {v0 : Nat} {v1 : Int32} {h : am_H} {r : (Int32 × am_H)} (hb : Ref_bothOf_45_b g dd v0 v1 h = some r) : Eqs h r.2 := by
  unfold Ref_bothOf_45_b at hb
  have w0 := Eqs.rf h
  exact w0.tr (hg _ _ hb)
set_option maxHeartbeats 1000000 in
set_option maxRecDepth 100000 in
theorem Ref_bothOf_46_r {g : (Nat × Nat × Int32 × Int32 × Int32 × Nat × Nat × am_H) → Option (Int32 × am_H)} (hg : ∀ s r, g s = some r → Eqs s.2.2.2.2.2.2.2 r.2) {dd : Nat} {v0 : Nat} {v1 : Int32} {s0 : Int32} {h : am_H} {r : (Int32 × am_H)} (hb : Ref_bothOf_46_b g dd v0 v1 s0 h = some r) : Eqs h r.2 := by
  unfold Ref_bothOf_46_b at hb
  have w0 := Eqs.rf h
  exact w0.tr (hg _ _ hb)
set_option maxHeartbeats 1000000 in
set_option maxRecDepth 100000 in
theorem Ref_testOf_r {g : (Nat × Nat × Int32 × Int32 × Int32 × Nat × Nat × am_H) → Option (Int32 × am_H)} (hg : ∀ s r, g s = some r → Eqs s.2.2.2.2.2.2.2 r.2) {dd : Nat} {v0 : Nat} {v1 : Int32} {h : am_H} {r : (Int32 × am_H)} (hb : Ref_testOf_b g dd v0 v1 h = some r) : Eqs h r.2 := by
  unfold Ref_testOf_b at hb
  have w0 := Eqs.rf h
  obtain ⟨ho, hb⟩ := iz hb
  obtain ⟨r86, e_r86, hb87⟩ := ob2 hb
  obtain ⟨hdd_r86, e_r86⟩ := iz e_r86
  have w88 := w0.tr (hg _ _ e_r86)
  exact w88.tr (hg _ _ hb87)
set_option maxHeartbeats 1000000 in
set_option maxRecDepth 100000 in
theorem Ref_testOf_6_r {g : (Nat × Nat × Int32 × Int32 × Int32 × Nat × Nat × am_H) → Option (Int32 × am_H)} (hg : ∀ s r, g s = some r → Eqs s.2.2.2.2.2.2.2 r.2) {dd : Nat} {v0 : Nat} {v1 : Int32} {v2 : Int32} {h : am_H} {r : (Int32 × am_H)} (hb : Ref_testOf_6_b g dd v0 v1 v2 h = some r) : Eqs h r.2 := by
  unfold Ref_testOf_6_b at hb
  have w0 := Eqs.rf h
  obtain ⟨r89, e_r89, hb90⟩ := ob2 hb
  have w91 := w0.tr (Ref_passes0_q e_r89)
  by_cases q : r89.1 = (0 : Int32)
  · have hb92 := ip q hb90
    obtain ⟨u94, e_u94, hb95⟩ := ob2 hb92
    obtain rfl := Option.some.inj hb95
    exact w91
  · have hb93 := iq q hb90
    by_cases q : v1 = (0 : Int32)
    · have hb96 := ip q hb93
      exact w91.tr (hg _ _ hb96)
    · have hb97 := iq q hb93
      by_cases q : v2 = (0 : Int32)
      · have hb99 := ip q hb97
        exact w91.tr (hg _ _ hb99)
      · have hb98 := iq q hb97
        exact w91.tr (hg _ _ hb98)
set_option maxHeartbeats 1000000 in
set_option maxRecDepth 100000 in
theorem Ref_testOf_27_r {g : (Nat × Nat × Int32 × Int32 × Int32 × Nat × Nat × am_H) → Option (Int32 × am_H)} (hg : ∀ s r, g s = some r → Eqs s.2.2.2.2.2.2.2 r.2) {dd : Nat} {v0 : Nat} {v1 : Int32} {v2 : Int32} {s0 : Nat} {h : am_H} {r : (Int32 × am_H)} (hb : Ref_testOf_27_b g dd v0 v1 v2 s0 h = some r) : Eqs h r.2 := by
  unfold Ref_testOf_27_b at hb
  have w0 := Eqs.rf h
  exact w0.tr (hg _ _ hb)
set_option maxHeartbeats 1000000 in
set_option maxRecDepth 100000 in
theorem Ref_testOf_28_r {g : (Nat × Nat × Int32 × Int32 × Int32 × Nat × Nat × am_H) → Option (Int32 × am_H)} (hg : ∀ s r, g s = some r → Eqs s.2.2.2.2.2.2.2 r.2) {dd : Nat} {v0 : Nat} {v1 : Int32} {v2 : Int32} {s0 : Int32} {s1 : Nat} {h : am_H} {r : (Int32 × am_H)} (hb : Ref_testOf_28_b g dd v0 v1 v2 s0 s1 h = some r) : Eqs h r.2 := by
  unfold Ref_testOf_28_b at hb
  have w0 := Eqs.rf h
  obtain ⟨r100, e_r100, hb101⟩ := ob2 hb
  obtain ⟨hdd_r100, e_r100⟩ := iz e_r100
  have w102 := w0.tr (hg _ _ e_r100)
  by_cases q : v2 = (0 : Int32)
  · have hb104 := ip q hb101
    by_cases q : r100.1 = (0 : Int32)
    · have hb105 := ip q hb104
      exact w102.tr (hg _ _ hb105)
    · have hb106 := iq q hb104
      exact w102.tr (hg _ _ hb106)
  · have hb103 := iq q hb101
    exact w102.tr (hg _ _ hb103)
set_option maxHeartbeats 1000000 in
set_option maxRecDepth 100000 in
theorem Ref_testOf_40_r {g : (Nat × Nat × Int32 × Int32 × Int32 × Nat × Nat × am_H) → Option (Int32 × am_H)} (hg : ∀ s r, g s = some r → Eqs s.2.2.2.2.2.2.2 r.2) {dd : Nat} {v0 : Nat} {v1 : Int32} {h : am_H} {r : (Int32 × am_H)} (hb : Ref_testOf_40_b g dd v0 v1 h = some r) : Eqs h r.2 := by
  unfold Ref_testOf_40_b at hb
  have w0 := Eqs.rf h
  exact w0.tr (hg _ _ hb)
set_option maxHeartbeats 1000000 in
set_option maxRecDepth 100000 in
theorem Ref_testOf_45_r {g : (Nat × Nat × Int32 × Int32 × Int32 × Nat × Nat × am_H) → Option (Int32 × am_H)} (hg : ∀ s r, g s = some r → Eqs s.2.2.2.2.2.2.2 r.2) {dd : Nat} {v0 : Nat} {v1 : Int32} {s0 : Int32} {h : am_H} {r : (Int32 × am_H)} (hb : Ref_testOf_45_b g dd v0 v1 s0 h = some r) : Eqs h r.2 := by
  unfold Ref_testOf_45_b at hb
  have w0 := Eqs.rf h
  exact w0.tr (hg _ _ hb)
theorem Ref_positiveOfG_Q : ∀ s r, fx Ref_positiveOfG_F Ref_positiveOfG_M s = some r → Eqs s.2.2.2.2.2.2.2 r.2 := fx_ind Ref_positiveOfG_M (fun s r => Eqs s.2.2.2.2.2.2.2 r.2) (fun g hg s r hb => by
  unfold Ref_positiveOfG_F at hb
  by_cases q0 : s.1 = 0
  · exact Ref_positiveOf_r hg (ip q0 hb)
  · have hb0 := iq q0 hb
    by_cases q1 : s.1 = 10000
    · exact Ref_plainOf_r hg (ip q1 hb0)
    · have hb1 := iq q1 hb0
      by_cases q2 : s.1 = 10002
      · exact Ref_plainOf_2_r hg (ip q2 hb1)
      · have hb2 := iq q2 hb1
        by_cases q3 : s.1 = 10020
        · exact Ref_plainOf_20_r hg (ip q3 hb2)
        · have hb3 := iq q3 hb2
          by_cases q4 : s.1 = 20000
          · exact Ref_bothOf_r hg (ip q4 hb3)
          · have hb4 := iq q4 hb3
            by_cases q5 : s.1 = 20006
            · exact Ref_bothOf_6_r hg (ip q5 hb4)
            · have hb5 := iq q5 hb4
              by_cases q6 : s.1 = 20028
              · exact Ref_bothOf_28_r hg (ip q6 hb5)
              · have hb6 := iq q6 hb5
                by_cases q7 : s.1 = 20029
                · exact Ref_bothOf_29_r hg (ip q7 hb6)
                · have hb7 := iq q7 hb6
                  by_cases q8 : s.1 = 20045
                  · exact Ref_bothOf_45_r hg (ip q8 hb7)
                  · have hb8 := iq q8 hb7
                    by_cases q9 : s.1 = 20046
                    · exact Ref_bothOf_46_r hg (ip q9 hb8)
                    · have hb9 := iq q9 hb8
                      by_cases q10 : s.1 = 30000
                      · exact Ref_testOf_r hg (ip q10 hb9)
                      · have hb10 := iq q10 hb9
                        by_cases q11 : s.1 = 30006
                        · exact Ref_testOf_6_r hg (ip q11 hb10)
                        · have hb11 := iq q11 hb10
                          by_cases q12 : s.1 = 30027
                          · exact Ref_testOf_27_r hg (ip q12 hb11)
                          · have hb12 := iq q12 hb11
                            by_cases q13 : s.1 = 30028
                            · exact Ref_testOf_28_r hg (ip q13 hb12)
                            · have hb13 := iq q13 hb12
                              by_cases q14 : s.1 = 30040
                              · exact Ref_testOf_40_r hg (ip q14 hb13)
                              · have hb14 := iq q14 hb13
                                by_cases q15 : s.1 = 30045
                                · exact Ref_testOf_45_r hg (ip q15 hb14)
                                · have hb15 := iq q15 hb14
                                  exact nomatch hb15)
noncomputable def Ref_positiveOf (dd : Nat) (v0 : Nat) (v1 : Int32) (h : am_H) : Option (Int32 × am_H) := fx Ref_positiveOfG_F Ref_positiveOfG_M (0, dd, v1, 0, 0, v0, 0, h)
noncomputable def Ref_plainOf (dd : Nat) (v0 : Nat) (v1 : Int32) (h : am_H) : Option (Int32 × am_H) := fx Ref_positiveOfG_F Ref_positiveOfG_M (10000, dd, v1, 0, 0, v0, 0, h)
noncomputable def Ref_plainOf_2 (dd : Nat) (v0 : Nat) (v1 : Int32) (v2 : Int32) (h : am_H) : Option (Int32 × am_H) := fx Ref_positiveOfG_F Ref_positiveOfG_M (10002, dd, v1, v2, 0, v0, 0, h)
noncomputable def Ref_plainOf_20 (dd : Nat) (v0 : Nat) (v1 : Int32) (s0 : Int32) (h : am_H) : Option (Int32 × am_H) := fx Ref_positiveOfG_F Ref_positiveOfG_M (10020, dd, v1, s0, 0, v0, 0, h)
noncomputable def Ref_bothOf (dd : Nat) (v0 : Nat) (v1 : Int32) (h : am_H) : Option (Int32 × am_H) := fx Ref_positiveOfG_F Ref_positiveOfG_M (20000, dd, v1, 0, 0, v0, 0, h)
noncomputable def Ref_bothOf_6 (dd : Nat) (v0 : Nat) (v1 : Int32) (v2 : Int32) (h : am_H) : Option (Int32 × am_H) := fx Ref_positiveOfG_F Ref_positiveOfG_M (20006, dd, v1, v2, 0, v0, 0, h)
noncomputable def Ref_bothOf_28 (dd : Nat) (v0 : Nat) (v1 : Int32) (v2 : Int32) (s0 : Nat) (h : am_H) : Option (Int32 × am_H) := fx Ref_positiveOfG_F Ref_positiveOfG_M (20028, dd, v1, v2, 0, v0, s0, h)
noncomputable def Ref_bothOf_29 (dd : Nat) (v0 : Nat) (v1 : Int32) (v2 : Int32) (s0 : Int32) (s1 : Nat) (h : am_H) : Option (Int32 × am_H) := fx Ref_positiveOfG_F Ref_positiveOfG_M (20029, dd, v1, v2, s0, v0, s1, h)
noncomputable def Ref_bothOf_45 (dd : Nat) (v0 : Nat) (v1 : Int32) (h : am_H) : Option (Int32 × am_H) := fx Ref_positiveOfG_F Ref_positiveOfG_M (20045, dd, v1, 0, 0, v0, 0, h)
noncomputable def Ref_bothOf_46 (dd : Nat) (v0 : Nat) (v1 : Int32) (s0 : Int32) (h : am_H) : Option (Int32 × am_H) := fx Ref_positiveOfG_F Ref_positiveOfG_M (20046, dd, v1, s0, 0, v0, 0, h)
noncomputable def Ref_testOf (dd : Nat) (v0 : Nat) (v1 : Int32) (h : am_H) : Option (Int32 × am_H) := fx Ref_positiveOfG_F Ref_positiveOfG_M (30000, dd, v1, 0, 0, v0, 0, h)
noncomputable def Ref_testOf_6 (dd : Nat) (v0 : Nat) (v1 : Int32) (v2 : Int32) (h : am_H) : Option (Int32 × am_H) := fx Ref_positiveOfG_F Ref_positiveOfG_M (30006, dd, v1, v2, 0, v0, 0, h)
noncomputable def Ref_testOf_27 (dd : Nat) (v0 : Nat) (v1 : Int32) (v2 : Int32) (s0 : Nat) (h : am_H) : Option (Int32 × am_H) := fx Ref_positiveOfG_F Ref_positiveOfG_M (30027, dd, v1, v2, 0, v0, s0, h)
noncomputable def Ref_testOf_28 (dd : Nat) (v0 : Nat) (v1 : Int32) (v2 : Int32) (s0 : Int32) (s1 : Nat) (h : am_H) : Option (Int32 × am_H) := fx Ref_positiveOfG_F Ref_positiveOfG_M (30028, dd, v1, v2, s0, v0, s1, h)
noncomputable def Ref_testOf_40 (dd : Nat) (v0 : Nat) (v1 : Int32) (h : am_H) : Option (Int32 × am_H) := fx Ref_positiveOfG_F Ref_positiveOfG_M (30040, dd, v1, 0, 0, v0, 0, h)
noncomputable def Ref_testOf_45 (dd : Nat) (v0 : Nat) (v1 : Int32) (s0 : Int32) (h : am_H) : Option (Int32 × am_H) := fx Ref_positiveOfG_F Ref_positiveOfG_M (30045, dd, v1, s0, 0, v0, 0, h)
set_option maxHeartbeats 1000000 in
set_option maxRecDepth 100000 in
theorem Ref_positiveOf_e (dd : Nat) (v0 : Nat) (v1 : Int32) (h : am_H) : Ref_positiveOf dd v0 v1 h = (if isO h 12 v0 = true then (Ref_sign (40 : Int32) h).bind fun x1 => (Ref_passes0 v0 x1 h).bind fun r3 => if r3.1 = (0 : Int32) then (Ref_sumOf 40 v0 v1 r3.2).bind fun r8 => (gI r8.2 12 v0 21).bind fun x11 => (Ref_codeAt v0 x11 r8.2).bind fun x13 => (gI r8.2 12 v0 21).bind fun x15 => (pV r8.2 12 v0 21 (.int (x15 + (1 : Int32)))).bind fun h17 => (Ref_sumOf 40 v0 v1 h17).bind fun r20 => if v1 = (0 : Int32) then some ((0 : Int32), r20.2) else (gI r20.2 12 v0 23).bind fun x25 => if x25 = (0 : Int32) then (Ref_sign (60 : Int32) r20.2).bind fun x29 => if x13 = x29 then if (0 : Int32) ≤ (lg_cmp r8.1 r20.1) then some ((0 : Int32), r20.2) else some ((1 : Int32), r20.2) else (Ref_sign (62 : Int32) r20.2).bind fun x33 => if x13 = x33 then if (lg_cmp r8.1 r20.1) ≤ (0 : Int32) then some ((0 : Int32), r20.2) else some ((1 : Int32), r20.2) else if (lg_cmp r8.1 r20.1) = (0 : Int32) then some ((1 : Int32), r20.2) else some ((0 : Int32), r20.2) else some ((0 : Int32), r20.2) else (if 0 < dd then Ref_testOf (dd - 1) v0 v1 r3.2 else none).bind fun r43 => (gI r43.2 12 v0 21).bind fun x46 => (pV r43.2 12 v0 21 (.int (x46 + (1 : Int32)))).bind fun h48 => (nrZ r43.1).bind fun u51 => some (r43.1, h48) else none) := (fx_eq Ref_positiveOfG_M (0, dd, v1, 0, 0, v0, 0, h)).trans (if_pos rfl)
theorem Ref_positiveOf_q {dd : Nat} {v0 : Nat} {v1 : Int32} {h : am_H} {r : (Int32 × am_H)} (hb : Ref_positiveOf dd v0 v1 h = some r) : Eqs h r.2 := Ref_positiveOfG_Q _ _ hb
theorem Ref_positiveOf_s {dd : Nat} {v0 : Nat} {v1 : Int32} {h : am_H} {r : (Int32 × am_H)} (hb : Ref_positiveOf dd v0 v1 h = some r) : Sx (44 + dd) mX12_positiveOf 0 (am_en [.ref v0, .int v1] 7) [] h (some (.int r.1)) r.2 := ((Ref_positiveOfG_T _ _ hb).1 rfl).2
theorem Ref_positiveOf_o {dd : Nat} {v0 : Nat} {v1 : Int32} {h : am_H} {r : (Int32 × am_H)} (hb : Ref_positiveOf dd v0 v1 h = some r) : isO h 12 v0 = true := ((Ref_positiveOfG_T _ _ hb).1 rfl).1
set_option maxHeartbeats 1000000 in
set_option maxRecDepth 100000 in
theorem Ref_plainOf_e (dd : Nat) (v0 : Nat) (v1 : Int32) (h : am_H) : Ref_plainOf dd v0 v1 h = (if isO h 12 v0 = true then Ref_plainOf_2 dd v0 v1 (0 : Int32) h else none) := (fx_eq Ref_positiveOfG_M (10000, dd, v1, 0, 0, v0, 0, h)).trans ((if_neg (show ¬ (10000 : Nat) = 0 by decide)).trans (if_pos rfl))
theorem Ref_plainOf_q {dd : Nat} {v0 : Nat} {v1 : Int32} {h : am_H} {r : (Int32 × am_H)} (hb : Ref_plainOf dd v0 v1 h = some r) : Eqs h r.2 := Ref_positiveOfG_Q _ _ hb
theorem Ref_plainOf_s {dd : Nat} {v0 : Nat} {v1 : Int32} {h : am_H} {r : (Int32 × am_H)} (hb : Ref_plainOf dd v0 v1 h = some r) : Sx (44 + dd) mX12_plainOf 0 (am_en [.ref v0, .int v1] 3) [] h (some (.int r.1)) r.2 := ((Ref_positiveOfG_T _ _ hb).2.1 rfl).2
theorem Ref_plainOf_o {dd : Nat} {v0 : Nat} {v1 : Int32} {h : am_H} {r : (Int32 × am_H)} (hb : Ref_plainOf dd v0 v1 h = some r) : isO h 12 v0 = true := ((Ref_positiveOfG_T _ _ hb).2.1 rfl).1
set_option maxHeartbeats 1000000 in
set_option maxRecDepth 100000 in
theorem Ref_plainOf_2_e (dd : Nat) (v0 : Nat) (v1 : Int32) (v2 : Int32) (h : am_H) : Ref_plainOf_2 dd v0 v1 v2 h = ((Ref_passes0 v0 (7 : Int32) h).bind fun r53 => if r53.1 = (0 : Int32) then (if 0 < dd then Ref_positiveOf (dd - 1) v0 v1 r53.2 else none).bind fun r58 => if r58.1 = v2 then some ((0 : Int32), r58.2) else some ((1 : Int32), r58.2) else if v2 = (0 : Int32) then Ref_plainOf_20 dd v0 v1 (1 : Int32) r53.2 else Ref_plainOf_20 dd v0 v1 (0 : Int32) r53.2) := (fx_eq Ref_positiveOfG_M (10002, dd, v1, v2, 0, v0, 0, h)).trans ((if_neg (show ¬ (10002 : Nat) = 0 by decide)).trans ((if_neg (show ¬ (10002 : Nat) = 10000 by decide)).trans (if_pos rfl)))
theorem Ref_plainOf_2_q {dd : Nat} {v0 : Nat} {v1 : Int32} {v2 : Int32} {h : am_H} {r : (Int32 × am_H)} (hb : Ref_plainOf_2 dd v0 v1 v2 h = some r) : Eqs h r.2 := Ref_positiveOfG_Q _ _ hb
theorem Ref_plainOf_2_s {dd : Nat} {v0 : Nat} {v1 : Int32} {v2 : Int32} {h : am_H} {r : (Int32 × am_H)} (hb : Ref_plainOf_2 dd v0 v1 v2 h = some r) : Sx (44 + dd) mX12_plainOf 2 [.ref v0, .int v1, .int v2] [] h (some (.int r.1)) r.2 := (Ref_positiveOfG_T _ _ hb).2.2.1 rfl
set_option maxHeartbeats 1000000 in
set_option maxRecDepth 100000 in
theorem Ref_plainOf_20_e (dd : Nat) (v0 : Nat) (v1 : Int32) (s0 : Int32) (h : am_H) : Ref_plainOf_20 dd v0 v1 s0 h = (Ref_plainOf_2 dd v0 v1 s0 h) := (fx_eq Ref_positiveOfG_M (10020, dd, v1, s0, 0, v0, 0, h)).trans ((if_neg (show ¬ (10020 : Nat) = 0 by decide)).trans ((if_neg (show ¬ (10020 : Nat) = 10000 by decide)).trans ((if_neg (show ¬ (10020 : Nat) = 10002 by decide)).trans (if_pos rfl))))
theorem Ref_plainOf_20_q {dd : Nat} {v0 : Nat} {v1 : Int32} {s0 : Int32} {h : am_H} {r : (Int32 × am_H)} (hb : Ref_plainOf_20 dd v0 v1 s0 h = some r) : Eqs h r.2 := Ref_positiveOfG_Q _ _ hb
theorem Ref_plainOf_20_s {dd : Nat} {v0 : Nat} {v1 : Int32} {s0 : Int32} {h : am_H} {r : (Int32 × am_H)} (hb : Ref_plainOf_20 dd v0 v1 s0 h = some r) : Sx (44 + dd) mX12_plainOf 20 [.ref v0, .int v1, .retAddr 0] [.int s0] h (some (.int r.1)) r.2 := (Ref_positiveOfG_T _ _ hb).2.2.2.1 rfl
set_option maxHeartbeats 1000000 in
set_option maxRecDepth 100000 in
theorem Ref_bothOf_e (dd : Nat) (v0 : Nat) (v1 : Int32) (h : am_H) : Ref_bothOf dd v0 v1 h = (if isO h 12 v0 = true then (if 0 < dd then Ref_plainOf (dd - 1) v0 v1 h else none).bind fun r65 => Ref_bothOf_6 dd v0 v1 r65.1 r65.2 else none) := (fx_eq Ref_positiveOfG_M (20000, dd, v1, 0, 0, v0, 0, h)).trans ((if_neg (show ¬ (20000 : Nat) = 0 by decide)).trans ((if_neg (show ¬ (20000 : Nat) = 10000 by decide)).trans ((if_neg (show ¬ (20000 : Nat) = 10002 by decide)).trans ((if_neg (show ¬ (20000 : Nat) = 10020 by decide)).trans (if_pos rfl)))))
theorem Ref_bothOf_q {dd : Nat} {v0 : Nat} {v1 : Int32} {h : am_H} {r : (Int32 × am_H)} (hb : Ref_bothOf dd v0 v1 h = some r) : Eqs h r.2 := Ref_positiveOfG_Q _ _ hb
theorem Ref_bothOf_s {dd : Nat} {v0 : Nat} {v1 : Int32} {h : am_H} {r : (Int32 × am_H)} (hb : Ref_bothOf dd v0 v1 h = some r) : Sx (44 + dd) mX12_bothOf 0 (am_en [.ref v0, .int v1] 4) [] h (some (.int r.1)) r.2 := ((Ref_positiveOfG_T _ _ hb).2.2.2.2.1 rfl).2
theorem Ref_bothOf_o {dd : Nat} {v0 : Nat} {v1 : Int32} {h : am_H} {r : (Int32 × am_H)} (hb : Ref_bothOf dd v0 v1 h = some r) : isO h 12 v0 = true := ((Ref_positiveOfG_T _ _ hb).2.2.2.2.1 rfl).1
set_option maxHeartbeats 1000000 in
set_option maxRecDepth 100000 in
theorem Ref_bothOf_6_e (dd : Nat) (v0 : Nat) (v1 : Int32) (v2 : Int32) (h : am_H) : Ref_bothOf_6 dd v0 v1 v2 h = ((Ref_passes0 v0 (6 : Int32) h).bind fun r68 => if r68.1 = (0 : Int32) then (nrZ v2).bind fun u73 => some (v2, r68.2) else if v1 = (0 : Int32) then Ref_bothOf_28 dd v0 v1 v2 v0 r68.2 else if v2 = (0 : Int32) then Ref_bothOf_28 dd v0 v1 v2 v0 r68.2 else Ref_bothOf_29 dd v0 v1 v2 (1 : Int32) v0 r68.2) := (fx_eq Ref_positiveOfG_M (20006, dd, v1, v2, 0, v0, 0, h)).trans ((if_neg (show ¬ (20006 : Nat) = 0 by decide)).trans ((if_neg (show ¬ (20006 : Nat) = 10000 by decide)).trans ((if_neg (show ¬ (20006 : Nat) = 10002 by decide)).trans ((if_neg (show ¬ (20006 : Nat) = 10020 by decide)).trans ((if_neg (show ¬ (20006 : Nat) = 20000 by decide)).trans (if_pos rfl))))))
theorem Ref_bothOf_6_q {dd : Nat} {v0 : Nat} {v1 : Int32} {v2 : Int32} {h : am_H} {r : (Int32 × am_H)} (hb : Ref_bothOf_6 dd v0 v1 v2 h = some r) : Eqs h r.2 := Ref_positiveOfG_Q _ _ hb
theorem Ref_bothOf_6_s {dd : Nat} {v0 : Nat} {v1 : Int32} {v2 : Int32} {h : am_H} {r : (Int32 × am_H)} (hb : Ref_bothOf_6 dd v0 v1 v2 h = some r) : Sx (44 + dd) mX12_bothOf 6 [.ref v0, .int v1, .int v2, .retAddr 0] [] h (some (.int r.1)) r.2 := (Ref_positiveOfG_T _ _ hb).2.2.2.2.2.1 rfl
set_option maxHeartbeats 1000000 in
set_option maxRecDepth 100000 in
theorem Ref_bothOf_28_e (dd : Nat) (v0 : Nat) (v1 : Int32) (v2 : Int32) (s0 : Nat) (h : am_H) : Ref_bothOf_28 dd v0 v1 v2 s0 h = (Ref_bothOf_29 dd v0 v1 v2 (0 : Int32) s0 h) := (fx_eq Ref_positiveOfG_M (20028, dd, v1, v2, 0, v0, s0, h)).trans ((if_neg (show ¬ (20028 : Nat) = 0 by decide)).trans ((if_neg (show ¬ (20028 : Nat) = 10000 by decide)).trans ((if_neg (show ¬ (20028 : Nat) = 10002 by decide)).trans ((if_neg (show ¬ (20028 : Nat) = 10020 by decide)).trans ((if_neg (show ¬ (20028 : Nat) = 20000 by decide)).trans ((if_neg (show ¬ (20028 : Nat) = 20006 by decide)).trans (if_pos rfl)))))))
theorem Ref_bothOf_28_q {dd : Nat} {v0 : Nat} {v1 : Int32} {v2 : Int32} {s0 : Nat} {h : am_H} {r : (Int32 × am_H)} (hb : Ref_bothOf_28 dd v0 v1 v2 s0 h = some r) : Eqs h r.2 := Ref_positiveOfG_Q _ _ hb
theorem Ref_bothOf_28_s {dd : Nat} {v0 : Nat} {v1 : Int32} {v2 : Int32} {s0 : Nat} {h : am_H} {r : (Int32 × am_H)} (hb : Ref_bothOf_28 dd v0 v1 v2 s0 h = some r) : Sx (44 + dd) mX12_bothOf 28 [.ref v0, .int v1, .int v2, .retAddr 0] [.ref s0] h (some (.int r.1)) r.2 := (Ref_positiveOfG_T _ _ hb).2.2.2.2.2.2.1 rfl
set_option maxHeartbeats 1000000 in
set_option maxRecDepth 100000 in
theorem Ref_bothOf_29_e (dd : Nat) (v0 : Nat) (v1 : Int32) (v2 : Int32) (s0 : Int32) (s1 : Nat) (h : am_H) : Ref_bothOf_29 dd v0 v1 v2 s0 s1 h = ((if 0 < dd then Ref_plainOf (dd - 1) s1 s0 h else none).bind fun r79 => if v2 = (0 : Int32) then Ref_bothOf_45 dd v0 v1 r79.2 else if r79.1 = (0 : Int32) then Ref_bothOf_45 dd v0 v1 r79.2 else Ref_bothOf_46 dd v0 v1 (1 : Int32) r79.2) := (fx_eq Ref_positiveOfG_M (20029, dd, v1, v2, s0, v0, s1, h)).trans ((if_neg (show ¬ (20029 : Nat) = 0 by decide)).trans ((if_neg (show ¬ (20029 : Nat) = 10000 by decide)).trans ((if_neg (show ¬ (20029 : Nat) = 10002 by decide)).trans ((if_neg (show ¬ (20029 : Nat) = 10020 by decide)).trans ((if_neg (show ¬ (20029 : Nat) = 20000 by decide)).trans ((if_neg (show ¬ (20029 : Nat) = 20006 by decide)).trans ((if_neg (show ¬ (20029 : Nat) = 20028 by decide)).trans (if_pos rfl))))))))
theorem Ref_bothOf_29_q {dd : Nat} {v0 : Nat} {v1 : Int32} {v2 : Int32} {s0 : Int32} {s1 : Nat} {h : am_H} {r : (Int32 × am_H)} (hb : Ref_bothOf_29 dd v0 v1 v2 s0 s1 h = some r) : Eqs h r.2 := Ref_positiveOfG_Q _ _ hb
theorem Ref_bothOf_29_s {dd : Nat} {v0 : Nat} {v1 : Int32} {v2 : Int32} {s0 : Int32} {s1 : Nat} {h : am_H} {r : (Int32 × am_H)} (hb : Ref_bothOf_29 dd v0 v1 v2 s0 s1 h = some r) : Sx (44 + dd) mX12_bothOf 29 [.ref v0, .int v1, .int v2, .retAddr 0] [.int s0, .ref s1] h (some (.int r.1)) r.2 := (Ref_positiveOfG_T _ _ hb).2.2.2.2.2.2.2.1 rfl
set_option maxHeartbeats 1000000 in
set_option maxRecDepth 100000 in
theorem Ref_bothOf_45_e (dd : Nat) (v0 : Nat) (v1 : Int32) (h : am_H) : Ref_bothOf_45 dd v0 v1 h = (Ref_bothOf_46 dd v0 v1 (0 : Int32) h) := (fx_eq Ref_positiveOfG_M (20045, dd, v1, 0, 0, v0, 0, h)).trans ((if_neg (show ¬ (20045 : Nat) = 0 by decide)).trans ((if_neg (show ¬ (20045 : Nat) = 10000 by decide)).trans ((if_neg (show ¬ (20045 : Nat) = 10002 by decide)).trans ((if_neg (show ¬ (20045 : Nat) = 10020 by decide)).trans ((if_neg (show ¬ (20045 : Nat) = 20000 by decide)).trans ((if_neg (show ¬ (20045 : Nat) = 20006 by decide)).trans ((if_neg (show ¬ (20045 : Nat) = 20028 by decide)).trans ((if_neg (show ¬ (20045 : Nat) = 20029 by decide)).trans (if_pos rfl)))))))))
theorem Ref_bothOf_45_q {dd : Nat} {v0 : Nat} {v1 : Int32} {h : am_H} {r : (Int32 × am_H)} (hb : Ref_bothOf_45 dd v0 v1 h = some r) : Eqs h r.2 := Ref_positiveOfG_Q _ _ hb
theorem Ref_bothOf_45_s {dd : Nat} {v0 : Nat} {v1 : Int32} {h : am_H} {r : (Int32 × am_H)} (hb : Ref_bothOf_45 dd v0 v1 h = some r) : Sx (44 + dd) mX12_bothOf 45 [.ref v0, .int v1, .retAddr 0, .retAddr 0] [] h (some (.int r.1)) r.2 := (Ref_positiveOfG_T _ _ hb).2.2.2.2.2.2.2.2.1 rfl
set_option maxHeartbeats 1000000 in
set_option maxRecDepth 100000 in
theorem Ref_bothOf_46_e (dd : Nat) (v0 : Nat) (v1 : Int32) (s0 : Int32) (h : am_H) : Ref_bothOf_46 dd v0 v1 s0 h = (Ref_bothOf_6 dd v0 v1 s0 h) := (fx_eq Ref_positiveOfG_M (20046, dd, v1, s0, 0, v0, 0, h)).trans ((if_neg (show ¬ (20046 : Nat) = 0 by decide)).trans ((if_neg (show ¬ (20046 : Nat) = 10000 by decide)).trans ((if_neg (show ¬ (20046 : Nat) = 10002 by decide)).trans ((if_neg (show ¬ (20046 : Nat) = 10020 by decide)).trans ((if_neg (show ¬ (20046 : Nat) = 20000 by decide)).trans ((if_neg (show ¬ (20046 : Nat) = 20006 by decide)).trans ((if_neg (show ¬ (20046 : Nat) = 20028 by decide)).trans ((if_neg (show ¬ (20046 : Nat) = 20029 by decide)).trans ((if_neg (show ¬ (20046 : Nat) = 20045 by decide)).trans (if_pos rfl))))))))))
theorem Ref_bothOf_46_q {dd : Nat} {v0 : Nat} {v1 : Int32} {s0 : Int32} {h : am_H} {r : (Int32 × am_H)} (hb : Ref_bothOf_46 dd v0 v1 s0 h = some r) : Eqs h r.2 := Ref_positiveOfG_Q _ _ hb
theorem Ref_bothOf_46_s {dd : Nat} {v0 : Nat} {v1 : Int32} {s0 : Int32} {h : am_H} {r : (Int32 × am_H)} (hb : Ref_bothOf_46 dd v0 v1 s0 h = some r) : Sx (44 + dd) mX12_bothOf 46 [.ref v0, .int v1, .retAddr 0, .retAddr 0] [.int s0] h (some (.int r.1)) r.2 := (Ref_positiveOfG_T _ _ hb).2.2.2.2.2.2.2.2.2.1 rfl
set_option maxHeartbeats 1000000 in
set_option maxRecDepth 100000 in
theorem Ref_testOf_e (dd : Nat) (v0 : Nat) (v1 : Int32) (h : am_H) : Ref_testOf dd v0 v1 h = (if isO h 12 v0 = true then (if 0 < dd then Ref_bothOf (dd - 1) v0 v1 h else none).bind fun r86 => Ref_testOf_6 dd v0 v1 r86.1 r86.2 else none) := (fx_eq Ref_positiveOfG_M (30000, dd, v1, 0, 0, v0, 0, h)).trans ((if_neg (show ¬ (30000 : Nat) = 0 by decide)).trans ((if_neg (show ¬ (30000 : Nat) = 10000 by decide)).trans ((if_neg (show ¬ (30000 : Nat) = 10002 by decide)).trans ((if_neg (show ¬ (30000 : Nat) = 10020 by decide)).trans ((if_neg (show ¬ (30000 : Nat) = 20000 by decide)).trans ((if_neg (show ¬ (30000 : Nat) = 20006 by decide)).trans ((if_neg (show ¬ (30000 : Nat) = 20028 by decide)).trans ((if_neg (show ¬ (30000 : Nat) = 20029 by decide)).trans ((if_neg (show ¬ (30000 : Nat) = 20045 by decide)).trans ((if_neg (show ¬ (30000 : Nat) = 20046 by decide)).trans (if_pos rfl)))))))))))
theorem Ref_testOf_q {dd : Nat} {v0 : Nat} {v1 : Int32} {h : am_H} {r : (Int32 × am_H)} (hb : Ref_testOf dd v0 v1 h = some r) : Eqs h r.2 := Ref_positiveOfG_Q _ _ hb
theorem Ref_testOf_s {dd : Nat} {v0 : Nat} {v1 : Int32} {h : am_H} {r : (Int32 × am_H)} (hb : Ref_testOf dd v0 v1 h = some r) : Sx (44 + dd) mX12_testOf 0 (am_en [.ref v0, .int v1] 4) [] h (some (.int r.1)) r.2 := ((Ref_positiveOfG_T _ _ hb).2.2.2.2.2.2.2.2.2.2.1 rfl).2
theorem Ref_testOf_o {dd : Nat} {v0 : Nat} {v1 : Int32} {h : am_H} {r : (Int32 × am_H)} (hb : Ref_testOf dd v0 v1 h = some r) : isO h 12 v0 = true := ((Ref_positiveOfG_T _ _ hb).2.2.2.2.2.2.2.2.2.2.1 rfl).1
set_option maxHeartbeats 1000000 in
set_option maxRecDepth 100000 in
theorem Ref_testOf_6_e (dd : Nat) (v0 : Nat) (v1 : Int32) (v2 : Int32) (h : am_H) : Ref_testOf_6 dd v0 v1 v2 h = ((Ref_passes0 v0 (5 : Int32) h).bind fun r89 => if r89.1 = (0 : Int32) then (nrZ v2).bind fun u94 => some (v2, r89.2) else if v1 = (0 : Int32) then Ref_testOf_27 dd v0 v1 v2 v0 r89.2 else if v2 = (0 : Int32) then Ref_testOf_28 dd v0 v1 v2 (1 : Int32) v0 r89.2 else Ref_testOf_27 dd v0 v1 v2 v0 r89.2) := (fx_eq Ref_positiveOfG_M (30006, dd, v1, v2, 0, v0, 0, h)).trans ((if_neg (show ¬ (30006 : Nat) = 0 by decide)).trans ((if_neg (show ¬ (30006 : Nat) = 10000 by decide)).trans ((if_neg (show ¬ (30006 : Nat) = 10002 by decide)).trans ((if_neg (show ¬ (30006 : Nat) = 10020 by decide)).trans ((if_neg (show ¬ (30006 : Nat) = 20000 by decide)).trans ((if_neg (show ¬ (30006 : Nat) = 20006 by decide)).trans ((if_neg (show ¬ (30006 : Nat) = 20028 by decide)).trans ((if_neg (show ¬ (30006 : Nat) = 20029 by decide)).trans ((if_neg (show ¬ (30006 : Nat) = 20045 by decide)).trans ((if_neg (show ¬ (30006 : Nat) = 20046 by decide)).trans ((if_neg (show ¬ (30006 : Nat) = 30000 by decide)).trans (if_pos rfl))))))))))))
theorem Ref_testOf_6_q {dd : Nat} {v0 : Nat} {v1 : Int32} {v2 : Int32} {h : am_H} {r : (Int32 × am_H)} (hb : Ref_testOf_6 dd v0 v1 v2 h = some r) : Eqs h r.2 := Ref_positiveOfG_Q _ _ hb
theorem Ref_testOf_6_s {dd : Nat} {v0 : Nat} {v1 : Int32} {v2 : Int32} {h : am_H} {r : (Int32 × am_H)} (hb : Ref_testOf_6 dd v0 v1 v2 h = some r) : Sx (44 + dd) mX12_testOf 6 [.ref v0, .int v1, .int v2, .retAddr 0] [] h (some (.int r.1)) r.2 := (Ref_positiveOfG_T _ _ hb).2.2.2.2.2.2.2.2.2.2.2.1 rfl
set_option maxHeartbeats 1000000 in
set_option maxRecDepth 100000 in
theorem Ref_testOf_27_e (dd : Nat) (v0 : Nat) (v1 : Int32) (v2 : Int32) (s0 : Nat) (h : am_H) : Ref_testOf_27 dd v0 v1 v2 s0 h = (Ref_testOf_28 dd v0 v1 v2 (0 : Int32) s0 h) := (fx_eq Ref_positiveOfG_M (30027, dd, v1, v2, 0, v0, s0, h)).trans ((if_neg (show ¬ (30027 : Nat) = 0 by decide)).trans ((if_neg (show ¬ (30027 : Nat) = 10000 by decide)).trans ((if_neg (show ¬ (30027 : Nat) = 10002 by decide)).trans ((if_neg (show ¬ (30027 : Nat) = 10020 by decide)).trans ((if_neg (show ¬ (30027 : Nat) = 20000 by decide)).trans ((if_neg (show ¬ (30027 : Nat) = 20006 by decide)).trans ((if_neg (show ¬ (30027 : Nat) = 20028 by decide)).trans ((if_neg (show ¬ (30027 : Nat) = 20029 by decide)).trans ((if_neg (show ¬ (30027 : Nat) = 20045 by decide)).trans ((if_neg (show ¬ (30027 : Nat) = 20046 by decide)).trans ((if_neg (show ¬ (30027 : Nat) = 30000 by decide)).trans ((if_neg (show ¬ (30027 : Nat) = 30006 by decide)).trans (if_pos rfl)))))))))))))
theorem Ref_testOf_27_q {dd : Nat} {v0 : Nat} {v1 : Int32} {v2 : Int32} {s0 : Nat} {h : am_H} {r : (Int32 × am_H)} (hb : Ref_testOf_27 dd v0 v1 v2 s0 h = some r) : Eqs h r.2 := Ref_positiveOfG_Q _ _ hb
theorem Ref_testOf_27_s {dd : Nat} {v0 : Nat} {v1 : Int32} {v2 : Int32} {s0 : Nat} {h : am_H} {r : (Int32 × am_H)} (hb : Ref_testOf_27 dd v0 v1 v2 s0 h = some r) : Sx (44 + dd) mX12_testOf 27 [.ref v0, .int v1, .int v2, .retAddr 0] [.ref s0] h (some (.int r.1)) r.2 := (Ref_positiveOfG_T _ _ hb).2.2.2.2.2.2.2.2.2.2.2.2.1 rfl
set_option maxHeartbeats 1000000 in
set_option maxRecDepth 100000 in
theorem Ref_testOf_28_e (dd : Nat) (v0 : Nat) (v1 : Int32) (v2 : Int32) (s0 : Int32) (s1 : Nat) (h : am_H) : Ref_testOf_28 dd v0 v1 v2 s0 s1 h = ((if 0 < dd then Ref_bothOf (dd - 1) s1 s0 h else none).bind fun r100 => if v2 = (0 : Int32) then if r100.1 = (0 : Int32) then Ref_testOf_45 dd v0 v1 (0 : Int32) r100.2 else Ref_testOf_40 dd v0 v1 r100.2 else Ref_testOf_40 dd v0 v1 r100.2) := (fx_eq Ref_positiveOfG_M (30028, dd, v1, v2, s0, v0, s1, h)).trans ((if_neg (show ¬ (30028 : Nat) = 0 by decide)).trans ((if_neg (show ¬ (30028 : Nat) = 10000 by decide)).trans ((if_neg (show ¬ (30028 : Nat) = 10002 by decide)).trans ((if_neg (show ¬ (30028 : Nat) = 10020 by decide)).trans ((if_neg (show ¬ (30028 : Nat) = 20000 by decide)).trans ((if_neg (show ¬ (30028 : Nat) = 20006 by decide)).trans ((if_neg (show ¬ (30028 : Nat) = 20028 by decide)).trans ((if_neg (show ¬ (30028 : Nat) = 20029 by decide)).trans ((if_neg (show ¬ (30028 : Nat) = 20045 by decide)).trans ((if_neg (show ¬ (30028 : Nat) = 20046 by decide)).trans ((if_neg (show ¬ (30028 : Nat) = 30000 by decide)).trans ((if_neg (show ¬ (30028 : Nat) = 30006 by decide)).trans ((if_neg (show ¬ (30028 : Nat) = 30027 by decide)).trans (if_pos rfl))))))))))))))
theorem Ref_testOf_28_q {dd : Nat} {v0 : Nat} {v1 : Int32} {v2 : Int32} {s0 : Int32} {s1 : Nat} {h : am_H} {r : (Int32 × am_H)} (hb : Ref_testOf_28 dd v0 v1 v2 s0 s1 h = some r) : Eqs h r.2 := Ref_positiveOfG_Q _ _ hb
theorem Ref_testOf_28_s {dd : Nat} {v0 : Nat} {v1 : Int32} {v2 : Int32} {s0 : Int32} {s1 : Nat} {h : am_H} {r : (Int32 × am_H)} (hb : Ref_testOf_28 dd v0 v1 v2 s0 s1 h = some r) : Sx (44 + dd) mX12_testOf 28 [.ref v0, .int v1, .int v2, .retAddr 0] [.int s0, .ref s1] h (some (.int r.1)) r.2 := (Ref_positiveOfG_T _ _ hb).2.2.2.2.2.2.2.2.2.2.2.2.2.1 rfl
set_option maxHeartbeats 1000000 in
set_option maxRecDepth 100000 in
theorem Ref_testOf_40_e (dd : Nat) (v0 : Nat) (v1 : Int32) (h : am_H) : Ref_testOf_40 dd v0 v1 h = (Ref_testOf_45 dd v0 v1 (1 : Int32) h) := (fx_eq Ref_positiveOfG_M (30040, dd, v1, 0, 0, v0, 0, h)).trans ((if_neg (show ¬ (30040 : Nat) = 0 by decide)).trans ((if_neg (show ¬ (30040 : Nat) = 10000 by decide)).trans ((if_neg (show ¬ (30040 : Nat) = 10002 by decide)).trans ((if_neg (show ¬ (30040 : Nat) = 10020 by decide)).trans ((if_neg (show ¬ (30040 : Nat) = 20000 by decide)).trans ((if_neg (show ¬ (30040 : Nat) = 20006 by decide)).trans ((if_neg (show ¬ (30040 : Nat) = 20028 by decide)).trans ((if_neg (show ¬ (30040 : Nat) = 20029 by decide)).trans ((if_neg (show ¬ (30040 : Nat) = 20045 by decide)).trans ((if_neg (show ¬ (30040 : Nat) = 20046 by decide)).trans ((if_neg (show ¬ (30040 : Nat) = 30000 by decide)).trans ((if_neg (show ¬ (30040 : Nat) = 30006 by decide)).trans ((if_neg (show ¬ (30040 : Nat) = 30027 by decide)).trans ((if_neg (show ¬ (30040 : Nat) = 30028 by decide)).trans (if_pos rfl)))))))))))))))
theorem Ref_testOf_40_q {dd : Nat} {v0 : Nat} {v1 : Int32} {h : am_H} {r : (Int32 × am_H)} (hb : Ref_testOf_40 dd v0 v1 h = some r) : Eqs h r.2 := Ref_positiveOfG_Q _ _ hb
theorem Ref_testOf_40_s {dd : Nat} {v0 : Nat} {v1 : Int32} {h : am_H} {r : (Int32 × am_H)} (hb : Ref_testOf_40 dd v0 v1 h = some r) : Sx (44 + dd) mX12_testOf 40 [.ref v0, .int v1, .retAddr 0, .retAddr 0] [] h (some (.int r.1)) r.2 := (Ref_positiveOfG_T _ _ hb).2.2.2.2.2.2.2.2.2.2.2.2.2.2.1 rfl
set_option maxHeartbeats 1000000 in
set_option maxRecDepth 100000 in
theorem Ref_testOf_45_e (dd : Nat) (v0 : Nat) (v1 : Int32) (s0 : Int32) (h : am_H) : Ref_testOf_45 dd v0 v1 s0 h = (Ref_testOf_6 dd v0 v1 s0 h) := (fx_eq Ref_positiveOfG_M (30045, dd, v1, s0, 0, v0, 0, h)).trans ((if_neg (show ¬ (30045 : Nat) = 0 by decide)).trans ((if_neg (show ¬ (30045 : Nat) = 10000 by decide)).trans ((if_neg (show ¬ (30045 : Nat) = 10002 by decide)).trans ((if_neg (show ¬ (30045 : Nat) = 10020 by decide)).trans ((if_neg (show ¬ (30045 : Nat) = 20000 by decide)).trans ((if_neg (show ¬ (30045 : Nat) = 20006 by decide)).trans ((if_neg (show ¬ (30045 : Nat) = 20028 by decide)).trans ((if_neg (show ¬ (30045 : Nat) = 20029 by decide)).trans ((if_neg (show ¬ (30045 : Nat) = 20045 by decide)).trans ((if_neg (show ¬ (30045 : Nat) = 20046 by decide)).trans ((if_neg (show ¬ (30045 : Nat) = 30000 by decide)).trans ((if_neg (show ¬ (30045 : Nat) = 30006 by decide)).trans ((if_neg (show ¬ (30045 : Nat) = 30027 by decide)).trans ((if_neg (show ¬ (30045 : Nat) = 30028 by decide)).trans ((if_neg (show ¬ (30045 : Nat) = 30040 by decide)).trans (if_pos rfl))))))))))))))))
theorem Ref_testOf_45_q {dd : Nat} {v0 : Nat} {v1 : Int32} {s0 : Int32} {h : am_H} {r : (Int32 × am_H)} (hb : Ref_testOf_45 dd v0 v1 s0 h = some r) : Eqs h r.2 := Ref_positiveOfG_Q _ _ hb
theorem Ref_testOf_45_s {dd : Nat} {v0 : Nat} {v1 : Int32} {s0 : Int32} {h : am_H} {r : (Int32 × am_H)} (hb : Ref_testOf_45 dd v0 v1 s0 h = some r) : Sx (44 + dd) mX12_testOf 45 [.ref v0, .int v1, .retAddr 0, .retAddr 0] [.int s0] h (some (.int r.1)) r.2 := (Ref_positiveOfG_T _ _ hb).2.2.2.2.2.2.2.2.2.2.2.2.2.2.2.1 rfl
