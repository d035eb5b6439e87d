/-! the reference: its methods as functions (by wip/whole/dec.py) -/
set_option maxHeartbeats 1000000 in
set_option maxRecDepth 100000 in
noncomputable def Ref_common_4_b (g : (Nat × Int32 × Int32 × am_H) → Option Int32) (v2 : Int32) (v3 : Int32) (h : am_H) : Option Int32 := if v3 = (0 : Int32) then some v2 else (rmI v2 v3).bind fun x3 => g (4, v3, x3, h)
set_option maxHeartbeats 1000000 in
set_option maxRecDepth 100000 in
theorem Ref_common_4_m {g g2 : (Nat × Int32 × Int32 × am_H) → Option Int32} (hg : ∀ s, Le (g s) (g2 s)) (v2 : Int32) (v3 : Int32) (h : am_H) : Le (Ref_common_4_b g v2 v3 h) (Ref_common_4_b g2 v2 v3 h) := by unfold Ref_common_4_b; exact le_i (le_r _) (le_b (le_r _) fun x3 => hg _)
noncomputable def Ref_common_4_F (g : (Nat × Int32 × Int32 × am_H) → Option Int32) (s : (Nat × Int32 × Int32 × am_H)) : Option Int32 := if s.1 = 4 then Ref_common_4_b g s.2.1 s.2.2.1 s.2.2.2 else none
theorem Ref_common_4_M : Mn Ref_common_4_F := fun g g2 hg s => by unfold Ref_common_4_F; exact le_i (Ref_common_4_m hg s.2.1 s.2.2.1 s.2.2.2) (le_r _)
def Ref_common_4_P (s : (Nat × Int32 × Int32 × am_H)) (r : Int32) : Prop := (s.1 = 4 → Sx 0 mX12_common 4 [.retAddr 0, .retAddr 0, .int s.2.1, .int s.2.2.1, .retAddr 0] [] s.2.2.2 (some (.int r)) s.2.2.2) ∧ True
set_option maxHeartbeats 1000000 in
set_option maxRecDepth 100000 in
theorem Ref_common_4_t {g : (Nat × Int32 × Int32 × am_H) → Option Int32} (hg : ∀ s r, g s = some r → Ref_common_4_P s r) {v2 : Int32} {v3 : Int32} {h : am_H} {r : Int32} (hb : Ref_common_4_b g v2 v3 h = some r) : Sx 0 mX12_common 4 [.retAddr 0, .retAddr 0, .int v2, .int v3, .retAddr 0] [] h (some (.int r)) h := by
  unfold Ref_common_4_b at hb
  refine Sx.o (fun _ _ _ k => ex_iload_n dX12_common_4 rfl k) ?_
  refine Sx.b (fun _ _ _ k1 k2 => ex_if_eq 21 dX12_common_5 (by decide) k1 k2) (fun q => ?_) (fun q => ?_)
  · have hb1 := ip q hb
    refine Sx.o (fun _ _ _ k => ex_iload_n dX12_common_21 rfl k) ?_
    obtain rfl := Option.some.inj hb1
    exact Sx.r (fun _ _ _ k => ex_iret rfl dX12_common_22 k)
  · have hb2 := iq q hb
    refine Sx.o (fun _ _ _ k => ex_iload_n dX12_common_8 rfl k) ?_
    refine Sx.o (fun _ _ _ k => ex_iload_n dX12_common_9 rfl k) ?_
    obtain ⟨x3, e_x3, hb4⟩ := ob2 hb2
    refine Sx.o (fun _ _ _ k => op_irem dX12_common_10 e_x3 k) ?_
    refine Sx.o (L' := [.retAddr 0, .retAddr 0, .int v2, .int v3, .int x3]) (fun _ _ _ k => ex_istore dX12_common_11 (by decide) k) ?_
    refine Sx.o (fun _ _ _ k => ex_iload_n dX12_common_13 rfl k) ?_
    refine Sx.o (L' := [.retAddr 0, .retAddr 0, .int v3, .int v3, .int x3]) (fun _ _ _ k => ex_istore_n dX12_common_14 (by decide) k) ?_
    refine Sx.o (fun _ _ _ k => ex_iload dX12_common_15 rfl k) ?_
    refine Sx.o (L' := [.retAddr 0, .retAddr 0, .int v3, .int x3, .int x3]) (fun _ _ _ k => ex_istore_n dX12_common_17 (by decide) k) ?_
    refine Sx.o (fun _ _ _ k => ex_goto 4 dX12_common_18 (by decide) k) ?_
    refine Sx.fg [true, true, true, true, false] ?_
    exact (hg _ _ hb4).1 rfl
theorem Ref_common_4_T : ∀ s r, fx Ref_common_4_F Ref_common_4_M s = some r → Ref_common_4_P s r := fx_ind Ref_common_4_M Ref_common_4_P (fun g hg s r hb => by
  unfold Ref_common_4_F at hb
  exact ⟨fun q => Ref_common_4_t hg (ip q hb), trivial⟩)
noncomputable def Ref_common_4 (v2 : Int32) (v3 : Int32) (h : am_H) : Option Int32 := fx Ref_common_4_F Ref_common_4_M (4, v2, v3, h)
set_option maxHeartbeats 1000000 in
set_option maxRecDepth 100000 in
theorem Ref_common_4_e (v2 : Int32) (v3 : Int32) (h : am_H) : Ref_common_4 v2 v3 h = (if v3 = (0 : Int32) then some v2 else (rmI v2 v3).bind fun x3 => Ref_common_4 v3 x3 h) := (fx_eq Ref_common_4_M (4, v2, v3, h)).trans (if_pos rfl)
theorem Ref_common_4_s {v2 : Int32} {v3 : Int32} {h : am_H} {r : Int32} (hb : Ref_common_4 v2 v3 h = some r) : Sx 0 mX12_common 4 [.retAddr 0, .retAddr 0, .int v2, .int v3, .retAddr 0] [] h (some (.int r)) h := (Ref_common_4_T _ _ hb).1 rfl
set_option maxHeartbeats 1000000 in
set_option maxRecDepth 100000 in
noncomputable def Ref_common (v0 : Int32) (v1 : Int32) (h : am_H) : Option Int32 := Ref_common_4 v0 v1 h
set_option maxHeartbeats 1000000 in
set_option maxRecDepth 100000 in
theorem Ref_common_s {v0 : Int32} {v1 : Int32} {h : am_H} {r : Int32} (hb : Ref_common v0 v1 h = some r) : Sx 0 mX12_common 0 (am_en [.int v0, .int v1] 5) [] h (some (.int r)) h := by
  unfold Ref_common at hb
  show Sx 0 mX12_common 0 [.int v0, .int v1, .retAddr 0, .retAddr 0, .retAddr 0] [] h (some (.int r)) h
  refine Sx.o (fun _ _ _ k => ex_iload_n dX12_common_0 rfl k) ?_
  refine Sx.o (L' := [.int v0, .int v1, .int v0, .retAddr 0, .retAddr 0]) (fun _ _ _ k => ex_istore_n dX12_common_1 (by decide) k) ?_
  refine Sx.o (fun _ _ _ k => ex_iload_n dX12_common_2 rfl k) ?_
  refine Sx.o (L' := [.int v0, .int v1, .int v0, .int v1, .retAddr 0]) (fun _ _ _ k => ex_istore_n dX12_common_3 (by decide) k) ?_
  refine Sx.fg [false, false, true, true, true] ?_
  exact Ref_common_4_s hb
set_option maxHeartbeats 1000000 in
set_option maxRecDepth 100000 in
noncomputable def Ref_count (v0 : Nat) (v1 : Int32) (h : am_H) : Option Int32 := if isO h 12 v0 = true then if v1 = (0 : Int32) then (gR h 12 v0 2).bind fun x2 => (aI h 0 x2 (96 : Int32)).bind fun x4 => some x4 else if v1 = (1 : Int32) then (gR h 12 v0 2).bind fun x8 => (aI h 0 x8 (115 : Int32)).bind fun x10 => some x10 else if v1 = (2 : Int32) then (gR h 12 v0 2).bind fun x14 => (aI h 0 x14 (116 : Int32)).bind fun x16 => some x16 else if v1 = (3 : Int32) then (gI h 12 v0 39).bind fun x20 => some x20 else if v1 = (4 : Int32) then (gI h 12 v0 12).bind fun x24 => some x24 else if v1 = (5 : Int32) then (gR h 12 v0 1).bind fun x28 => (aI h 0 x28 (v1 - (4 : Int32))).bind fun x30 => some x30 else if v1 = (6 : Int32) then (gR h 12 v0 1).bind fun x34 => (aI h 0 x34 (v1 - (4 : Int32))).bind fun x36 => some x36 else if v1 = (7 : Int32) then (gR h 12 v0 1).bind fun x40 => (aI h 0 x40 (v1 - (4 : Int32))).bind fun x42 => some x42 else if v1 = (8 : Int32) then (gR h 12 v0 1).bind fun x46 => (aI h 0 x46 (5 : Int32)).bind fun x48 => some x48 else if v1 = (9 : Int32) then (gR h 12 v0 1).bind fun x52 => (aI h 0 x52 (6 : Int32)).bind fun x54 => some x54 else if v1 = (10 : Int32) then (gR h 12 v0 2).bind fun x58 => (aI h 0 x58 (117 : Int32)).bind fun x60 => some x60 else if v1 = (11 : Int32) then (gR h 12 v0 2).bind fun x64 => (aI h 0 x64 (((113 : Int32) + v1) - (11 : Int32))).bind fun x66 => some x66 else if v1 = (12 : Int32) then (gR h 12 v0 2).bind fun x70 => (aI h 0 x70 (((113 : Int32) + v1) - (11 : Int32))).bind fun x72 => some x72 else some (-1 : Int32) else none
set_option maxHeartbeats 1000000 in
set_option maxRecDepth 100000 in
theorem Ref_count_s {v0 : Nat} {v1 : Int32} {h : am_H} {r : Int32} (hb : Ref_count v0 v1 h = some r) : Sx 0 mX12_count 0 (am_en [.ref v0, .int v1] 2) [] h (some (.int r)) h := by
  unfold Ref_count at hb
  have hb := (iz hb).2
  show Sx 0 mX12_count 0 [.ref v0, .int v1] [] h (some (.int r)) h
  refine Sx.o (fun _ _ _ k => ex_iload_n dX12_count_0 rfl k) ?_
  by_cases q0 : v1 = (0 : Int32)
  · have hb1 := ip q0 hb
    refine Sx.o (fun _ _ _ k => ex_tableIn 68 dX12_count_1 (by rw [q0]; decide) (by rw [q0]; decide) (show _ = some (67 : Int) by rw [q0]; decide) (by decide) k) ?_
    refine Sx.o (fun _ _ _ k => ex_aload_n dX12_count_68 rfl rfl k) ?_
    obtain ⟨x2, e_x2, hb3⟩ := ob2 hb1
    refine Sx.o (fun _ _ _ k => op_getR fX12_24 dX12_count_69 e_x2 k) ?_
    refine Sx.o (fun _ _ _ k => op_bipush (96 : Int32) dX12_count_72 (by decide) k) ?_
    obtain ⟨x4, e_x4, hb5⟩ := ob2 hb3
    refine Sx.o (fun _ _ _ k => op_iald dX12_count_74 e_x4 k) ?_
    obtain rfl := Option.some.inj hb5
    exact Sx.r (fun _ _ _ k => ex_iret rfl dX12_count_75 k)
  · have hb6 := iq q0 hb
    by_cases q1 : v1 = (1 : Int32)
    · have hb7 := ip q1 hb6
      refine Sx.o (fun _ _ _ k => ex_tableIn 76 dX12_count_1 (by rw [q1]; decide) (by rw [q1]; decide) (show _ = some (75 : Int) by rw [q1]; decide) (by decide) k) ?_
      refine Sx.o (fun _ _ _ k => ex_aload_n dX12_count_76 rfl rfl k) ?_
      obtain ⟨x8, e_x8, hb9⟩ := ob2 hb7
      refine Sx.o (fun _ _ _ k => op_getR fX12_24 dX12_count_77 e_x8 k) ?_
      refine Sx.o (fun _ _ _ k => op_bipush (115 : Int32) dX12_count_80 (by decide) k) ?_
      obtain ⟨x10, e_x10, hb11⟩ := ob2 hb9
      refine Sx.o (fun _ _ _ k => op_iald dX12_count_82 e_x10 k) ?_
      obtain rfl := Option.some.inj hb11
      exact Sx.r (fun _ _ _ k => ex_iret rfl dX12_count_83 k)
    · have hb12 := iq q1 hb6
      by_cases q2 : v1 = (2 : Int32)
      · have hb13 := ip q2 hb12
        refine Sx.o (fun _ _ _ k => ex_tableIn 84 dX12_count_1 (by rw [q2]; decide) (by rw [q2]; decide) (show _ = some (83 : Int) by rw [q2]; decide) (by decide) k) ?_
        refine Sx.o (fun _ _ _ k => ex_aload_n dX12_count_84 rfl rfl k) ?_
        obtain ⟨x14, e_x14, hb15⟩ := ob2 hb13
        refine Sx.o (fun _ _ _ k => op_getR fX12_24 dX12_count_85 e_x14 k) ?_
        refine Sx.o (fun _ _ _ k => op_bipush (116 : Int32) dX12_count_88 (by decide) k) ?_
        obtain ⟨x16, e_x16, hb17⟩ := ob2 hb15
        refine Sx.o (fun _ _ _ k => op_iald dX12_count_90 e_x16 k) ?_
        obtain rfl := Option.some.inj hb17
        exact Sx.r (fun _ _ _ k => ex_iret rfl dX12_count_91 k)
      · have hb18 := iq q2 hb12
        by_cases q3 : v1 = (3 : Int32)
        · have hb19 := ip q3 hb18
          refine Sx.o (fun _ _ _ k => ex_tableIn 92 dX12_count_1 (by rw [q3]; decide) (by rw [q3]; decide) (show _ = some (91 : Int) by rw [q3]; decide) (by decide) k) ?_
          refine Sx.o (fun _ _ _ k => ex_aload_n dX12_count_92 rfl rfl k) ?_
          obtain ⟨x20, e_x20, hb21⟩ := ob2 hb19
          refine Sx.o (fun _ _ _ k => op_getI fX12_11 dX12_count_93 e_x20 k) ?_
          obtain rfl := Option.some.inj hb21
          exact Sx.r (fun _ _ _ k => ex_iret rfl dX12_count_96 k)
        · have hb22 := iq q3 hb18
          by_cases q4 : v1 = (4 : Int32)
          · have hb23 := ip q4 hb22
            refine Sx.o (fun _ _ _ k => ex_tableIn 97 dX12_count_1 (by rw [q4]; decide) (by rw [q4]; decide) (show _ = some (96 : Int) by rw [q4]; decide) (by decide) k) ?_
            refine Sx.o (fun _ _ _ k => ex_aload_n dX12_count_97 rfl rfl k) ?_
            obtain ⟨x24, e_x24, hb25⟩ := ob2 hb23
            refine Sx.o (fun _ _ _ k => op_getI fX12_115 dX12_count_98 e_x24 k) ?_
            obtain rfl := Option.some.inj hb25
            exact Sx.r (fun _ _ _ k => ex_iret rfl dX12_count_101 k)
          · have hb26 := iq q4 hb22
            by_cases q5 : v1 = (5 : Int32)
            · have hb27 := ip q5 hb26
              refine Sx.o (fun _ _ _ k => ex_tableIn 102 dX12_count_1 (by rw [q5]; decide) (by rw [q5]; decide) (show _ = some (101 : Int) by rw [q5]; decide) (by decide) k) ?_
              refine Sx.o (fun _ _ _ k => ex_aload_n dX12_count_102 rfl rfl k) ?_
              obtain ⟨x28, e_x28, hb29⟩ := ob2 hb27
              refine Sx.o (fun _ _ _ k => op_getR fX12_7 dX12_count_103 e_x28 k) ?_
              refine Sx.o (fun _ _ _ k => ex_iload_n dX12_count_106 rfl k) ?_
              refine Sx.o (fun _ _ _ k => op_iconst (4 : Int32) dX12_count_107 (by decide) k) ?_
              refine Sx.o (fun _ _ _ k => ex_isub dX12_count_108 k) ?_
              obtain ⟨x30, e_x30, hb31⟩ := ob2 hb29
              refine Sx.o (fun _ _ _ k => op_iald dX12_count_109 e_x30 k) ?_
              obtain rfl := Option.some.inj hb31
              exact Sx.r (fun _ _ _ k => ex_iret rfl dX12_count_110 k)
            · have hb32 := iq q5 hb26
              by_cases q6 : v1 = (6 : Int32)
              · have hb33 := ip q6 hb32
                refine Sx.o (fun _ _ _ k => ex_tableIn 102 dX12_count_1 (by rw [q6]; decide) (by rw [q6]; decide) (show _ = some (101 : Int) by rw [q6]; decide) (by decide) k) ?_
                refine Sx.o (fun _ _ _ k => ex_aload_n dX12_count_102 rfl rfl k) ?_
                obtain ⟨x34, e_x34, hb35⟩ := ob2 hb33
                refine Sx.o (fun _ _ _ k => op_getR fX12_7 dX12_count_103 e_x34 k) ?_
                refine Sx.o (fun _ _ _ k => ex_iload_n dX12_count_106 rfl k) ?_
                refine Sx.o (fun _ _ _ k => op_iconst (4 : Int32) dX12_count_107 (by decide) k) ?_
                refine Sx.o (fun _ _ _ k => ex_isub dX12_count_108 k) ?_
                obtain ⟨x36, e_x36, hb37⟩ := ob2 hb35
                refine Sx.o (fun _ _ _ k => op_iald dX12_count_109 e_x36 k) ?_
                obtain rfl := Option.some.inj hb37
                exact Sx.r (fun _ _ _ k => ex_iret rfl dX12_count_110 k)
              · have hb38 := iq q6 hb32
                by_cases q7 : v1 = (7 : Int32)
                · have hb39 := ip q7 hb38
                  refine Sx.o (fun _ _ _ k => ex_tableIn 102 dX12_count_1 (by rw [q7]; decide) (by rw [q7]; decide) (show _ = some (101 : Int) by rw [q7]; decide) (by decide) k) ?_
                  refine Sx.o (fun _ _ _ k => ex_aload_n dX12_count_102 rfl rfl k) ?_
                  obtain ⟨x40, e_x40, hb41⟩ := ob2 hb39
                  refine Sx.o (fun _ _ _ k => op_getR fX12_7 dX12_count_103 e_x40 k) ?_
                  refine Sx.o (fun _ _ _ k => ex_iload_n dX12_count_106 rfl k) ?_
                  refine Sx.o (fun _ _ _ k => op_iconst (4 : Int32) dX12_count_107 (by decide) k) ?_
                  refine Sx.o (fun _ _ _ k => ex_isub dX12_count_108 k) ?_
                  obtain ⟨x42, e_x42, hb43⟩ := ob2 hb41
                  refine Sx.o (fun _ _ _ k => op_iald dX12_count_109 e_x42 k) ?_
                  obtain rfl := Option.some.inj hb43
                  exact Sx.r (fun _ _ _ k => ex_iret rfl dX12_count_110 k)
                · have hb44 := iq q7 hb38
                  by_cases q8 : v1 = (8 : Int32)
                  · have hb45 := ip q8 hb44
                    refine Sx.o (fun _ _ _ k => ex_tableIn 111 dX12_count_1 (by rw [q8]; decide) (by rw [q8]; decide) (show _ = some (110 : Int) by rw [q8]; decide) (by decide) k) ?_
                    refine Sx.o (fun _ _ _ k => ex_aload_n dX12_count_111 rfl rfl k) ?_
                    obtain ⟨x46, e_x46, hb47⟩ := ob2 hb45
                    refine Sx.o (fun _ _ _ k => op_getR fX12_7 dX12_count_112 e_x46 k) ?_
                    refine Sx.o (fun _ _ _ k => op_iconst (5 : Int32) dX12_count_115 (by decide) k) ?_
                    obtain ⟨x48, e_x48, hb49⟩ := ob2 hb47
                    refine Sx.o (fun _ _ _ k => op_iald dX12_count_116 e_x48 k) ?_
                    obtain rfl := Option.some.inj hb49
                    exact Sx.r (fun _ _ _ k => ex_iret rfl dX12_count_117 k)
                  · have hb50 := iq q8 hb44
                    by_cases q9 : v1 = (9 : Int32)
                    · have hb51 := ip q9 hb50
                      refine Sx.o (fun _ _ _ k => ex_tableIn 118 dX12_count_1 (by rw [q9]; decide) (by rw [q9]; decide) (show _ = some (117 : Int) by rw [q9]; decide) (by decide) k) ?_
                      refine Sx.o (fun _ _ _ k => ex_aload_n dX12_count_118 rfl rfl k) ?_
                      obtain ⟨x52, e_x52, hb53⟩ := ob2 hb51
                      refine Sx.o (fun _ _ _ k => op_getR fX12_7 dX12_count_119 e_x52 k) ?_
                      refine Sx.o (fun _ _ _ k => op_bipush (6 : Int32) dX12_count_122 (by decide) k) ?_
                      obtain ⟨x54, e_x54, hb55⟩ := ob2 hb53
                      refine Sx.o (fun _ _ _ k => op_iald dX12_count_124 e_x54 k) ?_
                      obtain rfl := Option.some.inj hb55
                      exact Sx.r (fun _ _ _ k => ex_iret rfl dX12_count_125 k)
                    · have hb56 := iq q9 hb50
                      by_cases q10 : v1 = (10 : Int32)
                      · have hb57 := ip q10 hb56
                        refine Sx.o (fun _ _ _ k => ex_tableIn 126 dX12_count_1 (by rw [q10]; decide) (by rw [q10]; decide) (show _ = some (125 : Int) by rw [q10]; decide) (by decide) k) ?_
                        refine Sx.o (fun _ _ _ k => ex_aload_n dX12_count_126 rfl rfl k) ?_
                        obtain ⟨x58, e_x58, hb59⟩ := ob2 hb57
                        refine Sx.o (fun _ _ _ k => op_getR fX12_24 dX12_count_127 e_x58 k) ?_
                        refine Sx.o (fun _ _ _ k => op_bipush (117 : Int32) dX12_count_130 (by decide) k) ?_
                        obtain ⟨x60, e_x60, hb61⟩ := ob2 hb59
                        refine Sx.o (fun _ _ _ k => op_iald dX12_count_132 e_x60 k) ?_
                        obtain rfl := Option.some.inj hb61
                        exact Sx.r (fun _ _ _ k => ex_iret rfl dX12_count_133 k)
                      · have hb62 := iq q10 hb56
                        by_cases q11 : v1 = (11 : Int32)
                        · have hb63 := ip q11 hb62
                          refine Sx.o (fun _ _ _ k => ex_tableIn 134 dX12_count_1 (by rw [q11]; decide) (by rw [q11]; decide) (show _ = some (133 : Int) by rw [q11]; decide) (by decide) k) ?_
                          refine Sx.o (fun _ _ _ k => ex_aload_n dX12_count_134 rfl rfl k) ?_
                          obtain ⟨x64, e_x64, hb65⟩ := ob2 hb63
                          refine Sx.o (fun _ _ _ k => op_getR fX12_24 dX12_count_135 e_x64 k) ?_
                          refine Sx.o (fun _ _ _ k => op_bipush (113 : Int32) dX12_count_138 (by decide) k) ?_
                          refine Sx.o (fun _ _ _ k => ex_iload_n dX12_count_140 rfl k) ?_
                          refine Sx.o (fun _ _ _ k => ex_iadd dX12_count_141 k) ?_
                          refine Sx.o (fun _ _ _ k => op_bipush (11 : Int32) dX12_count_142 (by decide) k) ?_
                          refine Sx.o (fun _ _ _ k => ex_isub dX12_count_144 k) ?_
                          obtain ⟨x66, e_x66, hb67⟩ := ob2 hb65
                          refine Sx.o (fun _ _ _ k => op_iald dX12_count_145 e_x66 k) ?_
                          obtain rfl := Option.some.inj hb67
                          exact Sx.r (fun _ _ _ k => ex_iret rfl dX12_count_146 k)
                        · have hb68 := iq q11 hb62
                          by_cases q12 : v1 = (12 : Int32)
                          · have hb69 := ip q12 hb68
                            refine Sx.o (fun _ _ _ k => ex_tableIn 134 dX12_count_1 (by rw [q12]; decide) (by rw [q12]; decide) (show _ = some (133 : Int) by rw [q12]; decide) (by decide) k) ?_
                            refine Sx.o (fun _ _ _ k => ex_aload_n dX12_count_134 rfl rfl k) ?_
                            obtain ⟨x70, e_x70, hb71⟩ := ob2 hb69
                            refine Sx.o (fun _ _ _ k => op_getR fX12_24 dX12_count_135 e_x70 k) ?_
                            refine Sx.o (fun _ _ _ k => op_bipush (113 : Int32) dX12_count_138 (by decide) k) ?_
                            refine Sx.o (fun _ _ _ k => ex_iload_n dX12_count_140 rfl k) ?_
                            refine Sx.o (fun _ _ _ k => ex_iadd dX12_count_141 k) ?_
                            refine Sx.o (fun _ _ _ k => op_bipush (11 : Int32) dX12_count_142 (by decide) k) ?_
                            refine Sx.o (fun _ _ _ k => ex_isub dX12_count_144 k) ?_
                            obtain ⟨x72, e_x72, hb73⟩ := ob2 hb71
                            refine Sx.o (fun _ _ _ k => op_iald dX12_count_145 e_x72 k) ?_
                            obtain rfl := Option.some.inj hb73
                            exact Sx.r (fun _ _ _ k => ex_iret rfl dX12_count_146 k)
                          · have hb74 := iq q12 hb68
                            have t0 : ¬ (Int32.toInt v1) = 0 := fun z => q0 (Int32.toInt_inj.mp (z.trans (by decide)))
                            have t1 : ¬ (Int32.toInt v1) = 1 := fun z => q1 (Int32.toInt_inj.mp (z.trans (by decide)))
                            have t2 : ¬ (Int32.toInt v1) = 2 := fun z => q2 (Int32.toInt_inj.mp (z.trans (by decide)))
                            have t3 : ¬ (Int32.toInt v1) = 3 := fun z => q3 (Int32.toInt_inj.mp (z.trans (by decide)))
                            have t4 : ¬ (Int32.toInt v1) = 4 := fun z => q4 (Int32.toInt_inj.mp (z.trans (by decide)))
                            have t5 : ¬ (Int32.toInt v1) = 5 := fun z => q5 (Int32.toInt_inj.mp (z.trans (by decide)))
                            have t6 : ¬ (Int32.toInt v1) = 6 := fun z => q6 (Int32.toInt_inj.mp (z.trans (by decide)))
                            have t7 : ¬ (Int32.toInt v1) = 7 := fun z => q7 (Int32.toInt_inj.mp (z.trans (by decide)))
                            have t8 : ¬ (Int32.toInt v1) = 8 := fun z => q8 (Int32.toInt_inj.mp (z.trans (by decide)))
                            have t9 : ¬ (Int32.toInt v1) = 9 := fun z => q9 (Int32.toInt_inj.mp (z.trans (by decide)))
                            have t10 : ¬ (Int32.toInt v1) = 10 := fun z => q10 (Int32.toInt_inj.mp (z.trans (by decide)))
                            have t11 : ¬ (Int32.toInt v1) = 11 := fun z => q11 (Int32.toInt_inj.mp (z.trans (by decide)))
                            have t12 : ¬ (Int32.toInt v1) = 12 := fun z => q12 (Int32.toInt_inj.mp (z.trans (by decide)))
                            refine Sx.o (fun _ _ _ k => ex_tableOut 147 dX12_count_1 (by omega) (by decide) k) ?_
                            refine Sx.o (fun _ _ _ k => op_iconst (-1 : Int32) dX12_count_147 (by decide) k) ?_
                            obtain rfl := Option.some.inj hb74
                            exact Sx.r (fun _ _ _ k => ex_iret rfl dX12_count_148 k)
theorem Ref_count_o {v0 : Nat} {v1 : Int32} {h : am_H} {r : Int32} (hb : Ref_count v0 v1 h = some r) : isO h 12 v0 = true := by
  unfold Ref_count at hb
  exact (iz hb).1
set_option maxHeartbeats 1000000 in
set_option maxRecDepth 100000 in
noncomputable def Ref_firstOrder_7_b (g : (Nat × Int32 × Int32 × Nat × am_H) → Option am_H) (v0 : Nat) (v1 : Int32) (v2 : Int32) (h : am_H) : Option am_H := if v1 ≤ v2 then some h else (gR h 12 v0 40).bind fun x3 => (sI h x3 v2 (v2 + (1 : Int32))).bind fun h5 => g (7, v1, (v2 + (1 : Int32)), v0, h5)
set_option maxHeartbeats 1000000 in
set_option maxRecDepth 100000 in
theorem Ref_firstOrder_7_m {g g2 : (Nat × Int32 × Int32 × Nat × am_H) → Option am_H} (hg : ∀ s, Le (g s) (g2 s)) (v0 : Nat) (v1 : Int32) (v2 : Int32) (h : am_H) : Le (Ref_firstOrder_7_b g v0 v1 v2 h) (Ref_firstOrder_7_b g2 v0 v1 v2 h) := by unfold Ref_firstOrder_7_b; exact le_i (le_r _) (le_b (le_r _) fun x3 => le_b (le_r _) fun h5 => hg _)
noncomputable def Ref_firstOrder_7_F (g : (Nat × Int32 × Int32 × Nat × am_H) → Option am_H) (s : (Nat × Int32 × Int32 × Nat × am_H)) : Option am_H := if s.1 = 7 then Ref_firstOrder_7_b g s.2.2.2.1 s.2.1 s.2.2.1 s.2.2.2.2 else none
theorem Ref_firstOrder_7_M : Mn Ref_firstOrder_7_F := fun g g2 hg s => by unfold Ref_firstOrder_7_F; exact le_i (Ref_firstOrder_7_m hg s.2.2.2.1 s.2.1 s.2.2.1 s.2.2.2.2) (le_r _)
def Ref_firstOrder_7_P (s : (Nat × Int32 × Int32 × Nat × am_H)) (r : am_H) : Prop := (s.1 = 7 → Sx 0 mX12_firstOrder 7 [.ref s.2.2.2.1, .int s.2.1, .int s.2.2.1] [] s.2.2.2.2 none r) ∧ True
set_option maxHeartbeats 1000000 in
set_option maxRecDepth 100000 in
theorem Ref_firstOrder_7_t {g : (Nat × Int32 × Int32 × Nat × am_H) → Option am_H} (hg : ∀ s r, g s = some r → Ref_firstOrder_7_P s r) {v0 : Nat} {v1 : Int32} {v2 : Int32} {h : am_H} {r : am_H} (hb : Ref_firstOrder_7_b g v0 v1 v2 h = some r) : Sx 0 mX12_firstOrder 7 [.ref v0, .int v1, .int v2] [] h none r := by
  unfold Ref_firstOrder_7_b at hb
  refine Sx.o (fun _ _ _ k => ex_iload_n dX12_firstOrder_7 rfl k) ?_
  refine Sx.o (fun _ _ _ k => ex_iload_n dX12_firstOrder_8 rfl k) ?_
  refine Sx.b (fun _ _ _ k1 k2 => ex_icmp_ge 27 dX12_firstOrder_9 (by decide) k1 k2) (fun q => ?_) (fun q => ?_)
  · have hb1 := ip q hb
    obtain rfl := Option.some.inj hb1
    exact Sx.r (fun _ _ _ k => ex_vret rfl dX12_firstOrder_27 k)
  · have hb2 := iq q hb
    refine Sx.o (fun _ _ _ k => ex_aload_n dX12_firstOrder_12 rfl rfl k) ?_
    obtain ⟨x3, e_x3, hb4⟩ := ob2 hb2
    refine Sx.o (fun _ _ _ k => op_getR fX12_80 dX12_firstOrder_13 e_x3 k) ?_
    refine Sx.o (fun _ _ _ k => ex_iload_n dX12_firstOrder_16 rfl k) ?_
    refine Sx.o (fun _ _ _ k => ex_iload_n dX12_firstOrder_17 rfl k) ?_
    refine Sx.o (fun _ _ _ k => op_iconst (1 : Int32) dX12_firstOrder_18 (by decide) k) ?_
    refine Sx.o (fun _ _ _ k => ex_iadd dX12_firstOrder_19 k) ?_
    obtain ⟨h5, e_h5, hb6⟩ := ob2 hb4
    refine Sx.p (sI_q e_h5) (fun _ _ _ k => op_iast dX12_firstOrder_20 e_h5 k) ?_
    refine Sx.o (L' := [.ref v0, .int v1, .int (v2 + (1 : Int32))]) (fun _ _ _ k => op_iinc (1 : Int32) dX12_firstOrder_21 (by decide) rfl (by decide) k) ?_
    refine Sx.o (fun _ _ _ k => ex_goto 7 dX12_firstOrder_24 (by decide) k) ?_
    exact (hg _ _ hb6).1 rfl
theorem Ref_firstOrder_7_T : ∀ s r, fx Ref_firstOrder_7_F Ref_firstOrder_7_M s = some r → Ref_firstOrder_7_P s r := fx_ind Ref_firstOrder_7_M Ref_firstOrder_7_P (fun g hg s r hb => by
  unfold Ref_firstOrder_7_F at hb
  exact ⟨fun q => Ref_firstOrder_7_t hg (ip q hb), trivial⟩)
set_option maxHeartbeats 1000000 in
set_option maxRecDepth 100000 in
theorem Ref_firstOrder_7_r {g : (Nat × Int32 × Int32 × Nat × am_H) → Option am_H} (hg : ∀ s r, g s = some r → Eqs s.2.2.2.2 r) {v0 : Nat} {v1 : Int32} {v2 : Int32} {h : am_H} {r : am_H} (hb : Ref_firstOrder_7_b g v0 v1 v2 h = some r) : Eqs h r := by
  unfold Ref_firstOrder_7_b at hb
  have w0 := Eqs.rf h
  by_cases q : v1 ≤ v2
  · have hb1 := ip q hb
    obtain rfl := Option.some.inj hb1
    exact w0
  · have hb2 := iq q hb
    obtain ⟨x3, e_x3, hb4⟩ := ob2 hb2
    obtain ⟨h5, e_h5, hb6⟩ := ob2 hb4
    have w7 := w0.tr (sI_q e_h5)
    exact w7.tr (hg _ _ hb6)
theorem Ref_firstOrder_7_Q : ∀ s r, fx Ref_firstOrder_7_F Ref_firstOrder_7_M s = some r → Eqs s.2.2.2.2 r := fx_ind Ref_firstOrder_7_M (fun s r => Eqs s.2.2.2.2 r) (fun g hg s r hb => by
  unfold Ref_firstOrder_7_F at hb
  by_cases q0 : s.1 = 7
  · exact Ref_firstOrder_7_r hg (ip q0 hb)
  · have hb0 := iq q0 hb
    exact nomatch hb0)
noncomputable def Ref_firstOrder_7 (v0 : Nat) (v1 : Int32) (v2 : Int32) (h : am_H) : Option am_H := fx Ref_firstOrder_7_F Ref_firstOrder_7_M (7, v1, v2, v0, h)
set_option maxHeartbeats 1000000 in
set_option maxRecDepth 100000 in
theorem Ref_firstOrder_7_e (v0 : Nat) (v1 : Int32) (v2 : Int32) (h : am_H) : Ref_firstOrder_7 v0 v1 v2 h = (if v1 ≤ v2 then some h else (gR h 12 v0 40).bind fun x3 => (sI h x3 v2 (v2 + (1 : Int32))).bind fun h5 => Ref_firstOrder_7 v0 v1 (v2 + (1 : Int32)) h5) := (fx_eq Ref_firstOrder_7_M (7, v1, v2, v0, h)).trans (if_pos rfl)
theorem Ref_firstOrder_7_q {v0 : Nat} {v1 : Int32} {v2 : Int32} {h : am_H} {r : am_H} (hb : Ref_firstOrder_7 v0 v1 v2 h = some r) : Eqs h r := Ref_firstOrder_7_Q _ _ hb
theorem Ref_firstOrder_7_s {v0 : Nat} {v1 : Int32} {v2 : Int32} {h : am_H} {r : am_H} (hb : Ref_firstOrder_7 v0 v1 v2 h = some r) : Sx 0 mX12_firstOrder 7 [.ref v0, .int v1, .int v2] [] h none r := (Ref_firstOrder_7_T _ _ hb).1 rfl
set_option maxHeartbeats 1000000 in
set_option maxRecDepth 100000 in
noncomputable def Ref_firstOrder (v0 : Nat) (v1 : Int32) (h : am_H) : Option am_H := if isO h 12 v0 = true then (pV h 12 v0 41 (.int v1)).bind fun h8 => Ref_firstOrder_7 v0 v1 (0 : Int32) h8 else none
set_option maxHeartbeats 1000000 in
set_option maxRecDepth 100000 in
theorem Ref_firstOrder_s {v0 : Nat} {v1 : Int32} {h : am_H} {r : am_H} (hb : Ref_firstOrder v0 v1 h = some r) : Sx 0 mX12_firstOrder 0 (am_en [.ref v0, .int v1] 3) [] h none r := by
  unfold Ref_firstOrder at hb
  have hb := (iz hb).2
  show Sx 0 mX12_firstOrder 0 [.ref v0, .int v1, .retAddr 0] [] h none r
  refine Sx.o (fun _ _ _ k => ex_aload_n dX12_firstOrder_0 rfl rfl k) ?_
  refine Sx.o (fun _ _ _ k => ex_iload_n dX12_firstOrder_1 rfl k) ?_
  obtain ⟨h8, e_h8, hb9⟩ := ob2 hb
  refine Sx.p (pV_q e_h8) (fun _ _ _ k => op_put pX12_378 dX12_firstOrder_2 e_h8 (fun _ => rfl) (fun _ => rfl) k) ?_
  refine Sx.o (fun _ _ _ k => op_iconst (0 : Int32) dX12_firstOrder_5 (by decide) k) ?_
  refine Sx.o (L' := [.ref v0, .int v1, .int (0 : Int32)]) (fun _ _ _ k => ex_istore_n dX12_firstOrder_6 (by decide) k) ?_
  exact Ref_firstOrder_7_s hb9
set_option maxHeartbeats 1000000 in
set_option maxRecDepth 100000 in
theorem Ref_firstOrder_q {v0 : Nat} {v1 : Int32} {h : am_H} {r : am_H} (hb : Ref_firstOrder v0 v1 h = some r) : Eqs h r := by
  unfold Ref_firstOrder at hb
  have hb := (iz hb).2
  have w0 := Eqs.rf h
  obtain ⟨h8, e_h8, hb9⟩ := ob2 hb
  have w10 := w0.tr (pV_q e_h8)
  exact w10.tr (Ref_firstOrder_7_q hb9)
theorem Ref_firstOrder_o {v0 : Nat} {v1 : Int32} {h : am_H} {r : am_H} (hb : Ref_firstOrder v0 v1 h = some r) : isO h 12 v0 = true := by
  unfold Ref_firstOrder at hb
  exact (iz hb).1
set_option maxHeartbeats 1000000 in
set_option maxRecDepth 100000 in
noncomputable def Ref_nextRow_107_b (g : (Nat × Int32 × Int32 × Nat × am_H) → Option (Int32 × am_H)) (v0 : Nat) (v4 : Int32) (v5 : Int32) (h : am_H) : Option (Int32 × am_H) := if v5 ≤ v4 then some ((1 : Int32), h) else (gR h 12 v0 40).bind fun x3 => (aI h 0 x3 v4).bind fun x5 => (gR h 12 v0 40).bind fun x7 => (gR h 12 v0 40).bind fun x9 => (aI h 0 x9 v5).bind fun x11 => (sI h x7 v4 x11).bind fun h13 => (gR h13 12 v0 40).bind fun x16 => (sI h13 x16 v5 x5).bind fun h18 => g (107, (v4 + (1 : Int32)), (v5 + (-1 : Int32)), v0, h18)
set_option maxHeartbeats 1000000 in
set_option maxRecDepth 100000 in
theorem Ref_nextRow_107_m {g g2 : (Nat × Int32 × Int32 × Nat × am_H) → Option (Int32 × am_H)} (hg : ∀ s, Le (g s) (g2 s)) (v0 : Nat) (v4 : Int32) (v5 : Int32) (h : am_H) : Le (Ref_nextRow_107_b g v0 v4 v5 h) (Ref_nextRow_107_b g2 v0 v4 v5 h) := by unfold Ref_nextRow_107_b; exact le_i (le_r _) (le_b (le_r _) fun x3 => le_b (le_r _) fun x5 => le_b (le_r _) fun x7 => le_b (le_r _) fun x9 => le_b (le_r _) fun x11 => le_b (le_r _) fun h13 => le_b (le_r _) fun x16 => le_b (le_r _) fun h18 => hg _)
noncomputable def Ref_nextRow_107_F (g : (Nat × Int32 × Int32 × Nat × am_H) → Option (Int32 × am_H)) (s : (Nat × Int32 × Int32 × Nat × am_H)) : Option (Int32 × am_H) := if s.1 = 107 then Ref_nextRow_107_b g s.2.2.2.1 s.2.1 s.2.2.1 s.2.2.2.2 else none
theorem Ref_nextRow_107_M : Mn Ref_nextRow_107_F := fun g g2 hg s => by unfold Ref_nextRow_107_F; exact le_i (Ref_nextRow_107_m hg s.2.2.2.1 s.2.1 s.2.2.1 s.2.2.2.2) (le_r _)
def Ref_nextRow_107_P (s : (Nat × Int32 × Int32 × Nat × am_H)) (r : (Int32 × am_H)) : Prop := (s.1 = 107 → Sx 0 mX12_nextRow 107 [.ref s.2.2.2.1, .retAddr 0, .retAddr 0, .retAddr 0, .int s.2.1, .int s.2.2.1] [] s.2.2.2.2 (some (.int r.1)) r.2) ∧ True
set_option maxHeartbeats 1000000 in
set_option maxRecDepth 100000 in
theorem Ref_nextRow_107_t {g : (Nat × Int32 × Int32 × Nat × am_H) → Option (Int32 × am_H)} (hg : ∀ s r, g s = some r → Ref_nextRow_107_P s r) {v0 : Nat} {v4 : Int32} {v5 : Int32} {h : am_H} {r : (Int32 × am_H)} (hb : Ref_nextRow_107_b g v0 v4 v5 h = some r) : Sx 0 mX12_nextRow 107 [.ref v0, .retAddr 0, .retAddr 0, .retAddr 0, .int v4, .int v5] [] h (some (.int r.1)) r.2 := by
  unfold Ref_nextRow_107_b at hb
  refine Sx.o (fun _ _ _ k => ex_iload dX12_nextRow_107 rfl k) ?_
  refine Sx.o (fun _ _ _ k => ex_iload dX12_nextRow_109 rfl k) ?_
  refine Sx.b (fun _ _ _ k1 k2 => ex_icmp_ge 153 dX12_nextRow_111 (by decide) k1 k2) (fun q => ?_) (fun q => ?_)
  · have hb1 := ip q hb
    refine Sx.o (fun _ _ _ k => op_iconst (1 : Int32) dX12_nextRow_153 (by decide) k) ?_
    obtain rfl := Option.some.inj hb1
    exact Sx.r (fun _ _ _ k => ex_zret rfl rfl dX12_nextRow_154 k)
  · have hb2 := iq q hb
    refine Sx.o (fun _ _ _ k => ex_aload_n dX12_nextRow_114 rfl rfl k) ?_
    obtain ⟨x3, e_x3, hb4⟩ := ob2 hb2
    refine Sx.o (fun _ _ _ k => op_getR fX12_80 dX12_nextRow_115 e_x3 k) ?_
    refine Sx.o (fun _ _ _ k => ex_iload dX12_nextRow_118 rfl k) ?_
    obtain ⟨x5, e_x5, hb6⟩ := ob2 hb4
    refine Sx.o (fun _ _ _ k => op_iald dX12_nextRow_120 e_x5 k) ?_
    refine Sx.o (L' := [.ref v0, .retAddr 0, .retAddr 0, .int x5, .int v4, .int v5]) (fun _ _ _ k => ex_istore_n dX12_nextRow_121 (by decide) k) ?_
    refine Sx.o (fun _ _ _ k => ex_aload_n dX12_nextRow_122 rfl rfl k) ?_
    obtain ⟨x7, e_x7, hb8⟩ := ob2 hb6
    refine Sx.o (fun _ _ _ k => op_getR fX12_80 dX12_nextRow_123 e_x7 k) ?_
    refine Sx.o (fun _ _ _ k => ex_iload dX12_nextRow_126 rfl k) ?_
    refine Sx.o (fun _ _ _ k => ex_aload_n dX12_nextRow_128 rfl rfl k) ?_
    obtain ⟨x9, e_x9, hb10⟩ := ob2 hb8
    refine Sx.o (fun _ _ _ k => op_getR fX12_80 dX12_nextRow_129 e_x9 k) ?_
    refine Sx.o (fun _ _ _ k => ex_iload dX12_nextRow_132 rfl k) ?_
    obtain ⟨x11, e_x11, hb12⟩ := ob2 hb10
    refine Sx.o (fun _ _ _ k => op_iald dX12_nextRow_134 e_x11 k) ?_
    obtain ⟨h13, e_h13, hb14⟩ := ob2 hb12
    refine Sx.p (sI_q e_h13) (fun _ _ _ k => op_iast dX12_nextRow_135 e_h13 k) ?_
    refine Sx.o (fun _ _ _ k => ex_aload_n dX12_nextRow_136 rfl rfl k) ?_
    obtain ⟨x16, e_x16, hb17⟩ := ob2 hb14
    refine Sx.o (fun _ _ _ k => op_getR fX12_80 dX12_nextRow_137 e_x16 k) ?_
    refine Sx.o (fun _ _ _ k => ex_iload dX12_nextRow_140 rfl k) ?_
    refine Sx.o (fun _ _ _ k => ex_iload_n dX12_nextRow_142 rfl k) ?_
    obtain ⟨h18, e_h18, hb19⟩ := ob2 hb17
    refine Sx.p (sI_q e_h18) (fun _ _ _ k => op_iast dX12_nextRow_143 e_h18 k) ?_
    refine Sx.o (L' := [.ref v0, .retAddr 0, .retAddr 0, .int x5, .int (v4 + (1 : Int32)), .int v5]) (fun _ _ _ k => op_iinc (1 : Int32) dX12_nextRow_144 (by decide) rfl (by decide) k) ?_
    refine Sx.o (L' := [.ref v0, .retAddr 0, .retAddr 0, .int x5, .int (v4 + (1 : Int32)), .int (v5 + (-1 : Int32))]) (fun _ _ _ k => op_iinc (-1 : Int32) dX12_nextRow_147 (by decide) rfl (by decide) k) ?_
    refine Sx.o (fun _ _ _ k => ex_goto 107 dX12_nextRow_150 (by decide) k) ?_
    refine Sx.fg [true, true, true, false, true, true] ?_
    exact (hg _ _ hb19).1 rfl
theorem Ref_nextRow_107_T : ∀ s r, fx Ref_nextRow_107_F Ref_nextRow_107_M s = some r → Ref_nextRow_107_P s r := fx_ind Ref_nextRow_107_M Ref_nextRow_107_P (fun g hg s r hb => by
  unfold Ref_nextRow_107_F at hb
  exact ⟨fun q => Ref_nextRow_107_t hg (ip q hb), trivial⟩)
set_option maxHeartbeats 1000000 in
set_option maxRecDepth 100000 in
theorem Ref_nextRow_107_r {g : (Nat × Int32 × Int32 × Nat × am_H) → Option (Int32 × am_H)} (hg : ∀ s r, g s = some r → Eqs s.2.2.2.2 r.2) {v0 : Nat} {v4 : Int32} {v5 : Int32} {h : am_H} {r : (Int32 × am_H)} (hb : Ref_nextRow_107_b g v0 v4 v5 h = some r) : Eqs h r.2 := by
  unfold Ref_nextRow_107_b at hb
  have w0 := Eqs.rf h
  by_cases q : v5 ≤ v4
  · have hb1 := ip q hb
    obtain rfl := Option.some.inj hb1
    exact w0
  · have hb2 := iq q hb
    obtain ⟨x3, e_x3, hb4⟩ := ob2 hb2
    obtain ⟨x5, e_x5, hb6⟩ := ob2 hb4
    obtain ⟨x7, e_x7, hb8⟩ := ob2 hb6
    obtain ⟨x9, e_x9, hb10⟩ := ob2 hb8
    obtain ⟨x11, e_x11, hb12⟩ := ob2 hb10
    obtain ⟨h13, e_h13, hb14⟩ := ob2 hb12
    have w15 := w0.tr (sI_q e_h13)
    obtain ⟨x16, e_x16, hb17⟩ := ob2 hb14
    obtain ⟨h18, e_h18, hb19⟩ := ob2 hb17
    have w20 := w15.tr (sI_q e_h18)
    exact w20.tr (hg _ _ hb19)
theorem Ref_nextRow_107_Q : ∀ s r, fx Ref_nextRow_107_F Ref_nextRow_107_M s = some r → Eqs s.2.2.2.2 r.2 := fx_ind Ref_nextRow_107_M (fun s r => Eqs s.2.2.2.2 r.2) (fun g hg s r hb => by
  unfold Ref_nextRow_107_F at hb
  by_cases q0 : s.1 = 107
  · exact Ref_nextRow_107_r hg (ip q0 hb)
  · have hb0 := iq q0 hb
    exact nomatch hb0)
noncomputable def Ref_nextRow_107 (v0 : Nat) (v4 : Int32) (v5 : Int32) (h : am_H) : Option (Int32 × am_H) := fx Ref_nextRow_107_F Ref_nextRow_107_M (107, v4, v5, v0, h)
set_option maxHeartbeats 1000000 in
set_option maxRecDepth 100000 in
theorem Ref_nextRow_107_e (v0 : Nat) (v4 : Int32) (v5 : Int32) (h : am_H) : Ref_nextRow_107 v0 v4 v5 h = (if v5 ≤ v4 then some ((1 : Int32), h) else (gR h 12 v0 40).bind fun x3 => (aI h 0 x3 v4).bind fun x5 => (gR h 12 v0 40).bind fun x7 => (gR h 12 v0 40).bind fun x9 => (aI h 0 x9 v5).bind fun x11 => (sI h x7 v4 x11).bind fun h13 => (gR h13 12 v0 40).bind fun x16 => (sI h13 x16 v5 x5).bind fun h18 => Ref_nextRow_107 v0 (v4 + (1 : Int32)) (v5 + (-1 : Int32)) h18) := (fx_eq Ref_nextRow_107_M (107, v4, v5, v0, h)).trans (if_pos rfl)
theorem Ref_nextRow_107_q {v0 : Nat} {v4 : Int32} {v5 : Int32} {h : am_H} {r : (Int32 × am_H)} (hb : Ref_nextRow_107 v0 v4 v5 h = some r) : Eqs h r.2 := Ref_nextRow_107_Q _ _ hb
theorem Ref_nextRow_107_s {v0 : Nat} {v4 : Int32} {v5 : Int32} {h : am_H} {r : (Int32 × am_H)} (hb : Ref_nextRow_107 v0 v4 v5 h = some r) : Sx 0 mX12_nextRow 107 [.ref v0, .retAddr 0, .retAddr 0, .retAddr 0, .int v4, .int v5] [] h (some (.int r.1)) r.2 := (Ref_nextRow_107_T _ _ hb).1 rfl
set_option maxHeartbeats 1000000 in
set_option maxRecDepth 100000 in
noncomputable def Ref_nextRow_47_b (g : (Nat × Int32 × Int32 × Nat × am_H) → Option (Int32 × am_H)) (v0 : Nat) (v1 : Int32) (v2 : Int32) (h : am_H) : Option (Int32 × am_H) := (gR h 12 v0 40).bind fun x21 => (aI h 0 x21 v2).bind fun x23 => (gR h 12 v0 40).bind fun x25 => (aI h 0 x25 v1).bind fun x27 => if x27 < x23 then (gR h 12 v0 40).bind fun x31 => (aI h 0 x31 v1).bind fun x33 => (gR h 12 v0 40).bind fun x35 => (gR h 12 v0 40).bind fun x37 => (aI h 0 x37 v2).bind fun x39 => (sI h x35 v1 x39).bind fun h41 => (gR h41 12 v0 40).bind fun x44 => (sI h41 x44 v2 x33).bind fun h46 => (gI h46 12 v0 41).bind fun x49 => Ref_nextRow_107 v0 (v1 + (1 : Int32)) (x49 - (1 : Int32)) h46 else g (47, v1, (v2 + (-1 : Int32)), v0, h)
set_option maxHeartbeats 1000000 in
set_option maxRecDepth 100000 in
theorem Ref_nextRow_47_m {g g2 : (Nat × Int32 × Int32 × Nat × am_H) → Option (Int32 × am_H)} (hg : ∀ s, Le (g s) (g2 s)) (v0 : Nat) (v1 : Int32) (v2 : Int32) (h : am_H) : Le (Ref_nextRow_47_b g v0 v1 v2 h) (Ref_nextRow_47_b g2 v0 v1 v2 h) := by unfold Ref_nextRow_47_b; exact le_b (le_r _) fun x21 => le_b (le_r _) fun x23 => le_b (le_r _) fun x25 => le_b (le_r _) fun x27 => le_i (le_r _) (hg _)
noncomputable def Ref_nextRow_47_F (g : (Nat × Int32 × Int32 × Nat × am_H) → Option (Int32 × am_H)) (s : (Nat × Int32 × Int32 × Nat × am_H)) : Option (Int32 × am_H) := if s.1 = 47 then Ref_nextRow_47_b g s.2.2.2.1 s.2.1 s.2.2.1 s.2.2.2.2 else none
theorem Ref_nextRow_47_M : Mn Ref_nextRow_47_F := fun g g2 hg s => by unfold Ref_nextRow_47_F; exact le_i (Ref_nextRow_47_m hg s.2.2.2.1 s.2.1 s.2.2.1 s.2.2.2.2) (le_r _)
def Ref_nextRow_47_P (s : (Nat × Int32 × Int32 × Nat × am_H)) (r : (Int32 × am_H)) : Prop := (s.1 = 47 → Sx 0 mX12_nextRow 47 [.ref s.2.2.2.1, .int s.2.1, .int s.2.2.1, .retAddr 0, .retAddr 0, .retAddr 0] [] s.2.2.2.2 (some (.int r.1)) r.2) ∧ True
set_option maxHeartbeats 1000000 in
set_option maxRecDepth 100000 in
theorem Ref_nextRow_47_t {g : (Nat × Int32 × Int32 × Nat × am_H) → Option (Int32 × am_H)} (hg : ∀ s r, g s = some r → Ref_nextRow_47_P s r) {v0 : Nat} {v1 : Int32} {v2 : Int32} {h : am_H} {r : (Int32 × am_H)} (hb : Ref_nextRow_47_b g v0 v1 v2 h = some r) : Sx 0 mX12_nextRow 47 [.ref v0, .int v1, .int v2, .retAddr 0, .retAddr 0, .retAddr 0] [] h (some (.int r.1)) r.2 := by
  unfold Ref_nextRow_47_b at hb
  refine Sx.o (fun _ _ _ k => ex_aload_n dX12_nextRow_47 rfl rfl k) ?_
  obtain ⟨x21, e_x21, hb22⟩ := ob2 hb
  refine Sx.o (fun _ _ _ k => op_getR fX12_80 dX12_nextRow_48 e_x21 k) ?_
  refine Sx.o (fun _ _ _ k => ex_iload_n dX12_nextRow_51 rfl k) ?_
  obtain ⟨x23, e_x23, hb24⟩ := ob2 hb22
  refine Sx.o (fun _ _ _ k => op_iald dX12_nextRow_52 e_x23 k) ?_
  refine Sx.o (fun _ _ _ k => ex_aload_n dX12_nextRow_53 rfl rfl k) ?_
  obtain ⟨x25, e_x25, hb26⟩ := ob2 hb24
  refine Sx.o (fun _ _ _ k => op_getR fX12_80 dX12_nextRow_54 e_x25 k) ?_
  refine Sx.o (fun _ _ _ k => ex_iload_n dX12_nextRow_57 rfl k) ?_
  obtain ⟨x27, e_x27, hb28⟩ := ob2 hb26
  refine Sx.o (fun _ _ _ k => op_iald dX12_nextRow_58 e_x27 k) ?_
  refine Sx.b (fun _ _ _ k1 k2 => ex_icmp_gt 68 dX12_nextRow_59 (by decide) k1 k2) (fun q => ?_) (fun q => ?_)
  · have hb29 := ip q hb28
    refine Sx.o (fun _ _ _ k => ex_aload_n dX12_nextRow_68 rfl rfl k) ?_
    obtain ⟨x31, e_x31, hb32⟩ := ob2 hb29
    refine Sx.o (fun _ _ _ k => op_getR fX12_80 dX12_nextRow_69 e_x31 k) ?_
    refine Sx.o (fun _ _ _ k => ex_iload_n dX12_nextRow_72 rfl k) ?_
    obtain ⟨x33, e_x33, hb34⟩ := ob2 hb32
    refine Sx.o (fun _ _ _ k => op_iald dX12_nextRow_73 e_x33 k) ?_
    refine Sx.o (L' := [.ref v0, .int v1, .int v2, .int x33, .retAddr 0, .retAddr 0]) (fun _ _ _ k => ex_istore_n dX12_nextRow_74 (by decide) k) ?_
    refine Sx.o (fun _ _ _ k => ex_aload_n dX12_nextRow_75 rfl rfl k) ?_
    obtain ⟨x35, e_x35, hb36⟩ := ob2 hb34
    refine Sx.o (fun _ _ _ k => op_getR fX12_80 dX12_nextRow_76 e_x35 k) ?_
    refine Sx.o (fun _ _ _ k => ex_iload_n dX12_nextRow_79 rfl k) ?_
    refine Sx.o (fun _ _ _ k => ex_aload_n dX12_nextRow_80 rfl rfl k) ?_
    obtain ⟨x37, e_x37, hb38⟩ := ob2 hb36
    refine Sx.o (fun _ _ _ k => op_getR fX12_80 dX12_nextRow_81 e_x37 k) ?_
    refine Sx.o (fun _ _ _ k => ex_iload_n dX12_nextRow_84 rfl k) ?_
    obtain ⟨x39, e_x39, hb40⟩ := ob2 hb38
    refine Sx.o (fun _ _ _ k => op_iald dX12_nextRow_85 e_x39 k) ?_
    obtain ⟨h41, e_h41, hb42⟩ := ob2 hb40
    refine Sx.p (sI_q e_h41) (fun _ _ _ k => op_iast dX12_nextRow_86 e_h41 k) ?_
    refine Sx.o (fun _ _ _ k => ex_aload_n dX12_nextRow_87 rfl rfl k) ?_
    obtain ⟨x44, e_x44, hb45⟩ := ob2 hb42
    refine Sx.o (fun _ _ _ k => op_getR fX12_80 dX12_nextRow_88 e_x44 k) ?_
    refine Sx.o (fun _ _ _ k => ex_iload_n dX12_nextRow_91 rfl k) ?_
    refine Sx.o (fun _ _ _ k => ex_iload_n dX12_nextRow_92 rfl k) ?_
    obtain ⟨h46, e_h46, hb47⟩ := ob2 hb45
    refine Sx.p (sI_q e_h46) (fun _ _ _ k => op_iast dX12_nextRow_93 e_h46 k) ?_
    refine Sx.o (fun _ _ _ k => ex_iload_n dX12_nextRow_94 rfl k) ?_
    refine Sx.o (fun _ _ _ k => op_iconst (1 : Int32) dX12_nextRow_95 (by decide) k) ?_
    refine Sx.o (fun _ _ _ k => ex_iadd dX12_nextRow_96 k) ?_
    refine Sx.o (L' := [.ref v0, .int v1, .int v2, .int x33, .int (v1 + (1 : Int32)), .retAddr 0]) (fun _ _ _ k => ex_istore dX12_nextRow_97 (by decide) k) ?_
    refine Sx.o (fun _ _ _ k => ex_aload_n dX12_nextRow_99 rfl rfl k) ?_
    obtain ⟨x49, e_x49, hb50⟩ := ob2 hb47
    refine Sx.o (fun _ _ _ k => op_getI fX12_378 dX12_nextRow_100 e_x49 k) ?_
    refine Sx.o (fun _ _ _ k => op_iconst (1 : Int32) dX12_nextRow_103 (by decide) k) ?_
    refine Sx.o (fun _ _ _ k => ex_isub dX12_nextRow_104 k) ?_
    refine Sx.o (L' := [.ref v0, .int v1, .int v2, .int x33, .int (v1 + (1 : Int32)), .int (x49 - (1 : Int32))]) (fun _ _ _ k => ex_istore dX12_nextRow_105 (by decide) k) ?_
    refine Sx.fg [true, false, false, false, true, true] ?_
    exact Ref_nextRow_107_s hb50
  · have hb30 := iq q hb28
    refine Sx.o (L' := [.ref v0, .int v1, .int (v2 + (-1 : Int32)), .retAddr 0, .retAddr 0, .retAddr 0]) (fun _ _ _ k => op_iinc (-1 : Int32) dX12_nextRow_62 (by decide) rfl (by decide) k) ?_
    refine Sx.o (fun _ _ _ k => ex_goto 47 dX12_nextRow_65 (by decide) k) ?_
    exact (hg _ _ hb30).1 rfl
theorem Ref_nextRow_47_T : ∀ s r, fx Ref_nextRow_47_F Ref_nextRow_47_M s = some r → Ref_nextRow_47_P s r := fx_ind Ref_nextRow_47_M Ref_nextRow_47_P (fun g hg s r hb => by
  unfold Ref_nextRow_47_F at hb
  exact ⟨fun q => Ref_nextRow_47_t hg (ip q hb), trivial⟩)
set_option maxHeartbeats 1000000 in
set_option maxRecDepth 100000 in
theorem Ref_nextRow_47_r {g : (Nat × Int32 × Int32 × Nat × am_H) → Option (Int32 × am_H)} (hg : ∀ s r, g s = some r → Eqs s.2.2.2.2 r.2) {v0 : Nat} {v1 : Int32} {v2 : Int32} {h : am_H} {r : (Int32 × am_H)} (hb : Ref_nextRow_47_b g v0 v1 v2 h = some r) : Eqs h r.2 := by
  unfold Ref_nextRow_47_b at hb
  have w0 := Eqs.rf h
  obtain ⟨x21, e_x21, hb22⟩ := ob2 hb
  obtain ⟨x23, e_x23, hb24⟩ := ob2 hb22
  obtain ⟨x25, e_x25, hb26⟩ := ob2 hb24
  obtain ⟨x27, e_x27, hb28⟩ := ob2 hb26
  by_cases q : x27 < x23
  · have hb29 := ip q hb28
    obtain ⟨x31, e_x31, hb32⟩ := ob2 hb29
    obtain ⟨x33, e_x33, hb34⟩ := ob2 hb32
    obtain ⟨x35, e_x35, hb36⟩ := ob2 hb34
    obtain ⟨x37, e_x37, hb38⟩ := ob2 hb36
    obtain ⟨x39, e_x39, hb40⟩ := ob2 hb38
    obtain ⟨h41, e_h41, hb42⟩ := ob2 hb40
    have w43 := w0.tr (sI_q e_h41)
    obtain ⟨x44, e_x44, hb45⟩ := ob2 hb42
    obtain ⟨h46, e_h46, hb47⟩ := ob2 hb45
    have w48 := w43.tr (sI_q e_h46)
    obtain ⟨x49, e_x49, hb50⟩ := ob2 hb47
    exact w48.tr (Ref_nextRow_107_q hb50)
  · have hb30 := iq q hb28
    exact w0.tr (hg _ _ hb30)
theorem Ref_nextRow_47_Q : ∀ s r, fx Ref_nextRow_47_F Ref_nextRow_47_M s = some r → Eqs s.2.2.2.2 r.2 := fx_ind Ref_nextRow_47_M (fun s r => Eqs s.2.2.2.2 r.2) (fun g hg s r hb => by
  unfold Ref_nextRow_47_F at hb
  by_cases q0 : s.1 = 47
  · exact Ref_nextRow_47_r hg (ip q0 hb)
  · have hb0 := iq q0 hb
    exact nomatch hb0)
noncomputable def Ref_nextRow_47 (v0 : Nat) (v1 : Int32) (v2 : Int32) (h : am_H) : Option (Int32 × am_H) := fx Ref_nextRow_47_F Ref_nextRow_47_M (47, v1, v2, v0, h)
set_option maxHeartbeats 1000000 in
set_option maxRecDepth 100000 in
theorem Ref_nextRow_47_e (v0 : Nat) (v1 : Int32) (v2 : Int32) (h : am_H) : Ref_nextRow_47 v0 v1 v2 h = ((gR h 12 v0 40).bind fun x21 => (aI h 0 x21 v2).bind fun x23 => (gR h 12 v0 40).bind fun x25 => (aI h 0 x25 v1).bind fun x27 => if x27 < x23 then (gR h 12 v0 40).bind fun x31 => (aI h 0 x31 v1).bind fun x33 => (gR h 12 v0 40).bind fun x35 => (gR h 12 v0 40).bind fun x37 => (aI h 0 x37 v2).bind fun x39 => (sI h x35 v1 x39).bind fun h41 => (gR h41 12 v0 40).bind fun x44 => (sI h41 x44 v2 x33).bind fun h46 => (gI h46 12 v0 41).bind fun x49 => Ref_nextRow_107 v0 (v1 + (1 : Int32)) (x49 - (1 : Int32)) h46 else Ref_nextRow_47 v0 v1 (v2 + (-1 : Int32)) h) := (fx_eq Ref_nextRow_47_M (47, v1, v2, v0, h)).trans (if_pos rfl)
theorem Ref_nextRow_47_q {v0 : Nat} {v1 : Int32} {v2 : Int32} {h : am_H} {r : (Int32 × am_H)} (hb : Ref_nextRow_47 v0 v1 v2 h = some r) : Eqs h r.2 := Ref_nextRow_47_Q _ _ hb
theorem Ref_nextRow_47_s {v0 : Nat} {v1 : Int32} {v2 : Int32} {h : am_H} {r : (Int32 × am_H)} (hb : Ref_nextRow_47 v0 v1 v2 h = some r) : Sx 0 mX12_nextRow 47 [.ref v0, .int v1, .int v2, .retAddr 0, .retAddr 0, .retAddr 0] [] h (some (.int r.1)) r.2 := (Ref_nextRow_47_T _ _ hb).1 rfl
set_option maxHeartbeats 1000000 in
set_option maxRecDepth 100000 in
noncomputable def Ref_nextRow_34 (v0 : Nat) (v1 : Int32) (h : am_H) : Option (Int32 × am_H) := if (0 : Int32) ≤ v1 then (gI h 12 v0 41).bind fun x53 => Ref_nextRow_47 v0 v1 (x53 - (1 : Int32)) h else some ((0 : Int32), h)
set_option maxHeartbeats 1000000 in
set_option maxRecDepth 100000 in
theorem Ref_nextRow_34_s {v0 : Nat} {v1 : Int32} {h : am_H} {r : (Int32 × am_H)} (hb : Ref_nextRow_34 v0 v1 h = some r) : Sx 0 mX12_nextRow 34 [.ref v0, .int v1, .retAddr 0, .retAddr 0, .retAddr 0, .retAddr 0] [] h (some (.int r.1)) r.2 := by
  unfold Ref_nextRow_34 at hb
  refine Sx.o (fun _ _ _ k => ex_iload_n dX12_nextRow_34 rfl k) ?_
  refine Sx.b (fun _ _ _ k1 k2 => ex_if_ge 40 dX12_nextRow_35 (by decide) k1 k2) (fun q => ?_) (fun q => ?_)
  · have hb51 := ip q hb
    refine Sx.o (fun _ _ _ k => ex_aload_n dX12_nextRow_40 rfl rfl k) ?_
    obtain ⟨x53, e_x53, hb54⟩ := ob2 hb51
    refine Sx.o (fun _ _ _ k => op_getI fX12_378 dX12_nextRow_41 e_x53 k) ?_
    refine Sx.o (fun _ _ _ k => op_iconst (1 : Int32) dX12_nextRow_44 (by decide) k) ?_
    refine Sx.o (fun _ _ _ k => ex_isub dX12_nextRow_45 k) ?_
    refine Sx.o (L' := [.ref v0, .int v1, .int (x53 - (1 : Int32)), .retAddr 0, .retAddr 0, .retAddr 0]) (fun _ _ _ k => ex_istore_n dX12_nextRow_46 (by decide) k) ?_
    exact Ref_nextRow_47_s hb54
  · have hb52 := iq q hb
    refine Sx.o (fun _ _ _ k => op_iconst (0 : Int32) dX12_nextRow_38 (by decide) k) ?_
    obtain rfl := Option.some.inj hb52
    exact Sx.r (fun _ _ _ k => ex_zret rfl rfl dX12_nextRow_39 k)
set_option maxHeartbeats 1000000 in
set_option maxRecDepth 100000 in
theorem Ref_nextRow_34_q {v0 : Nat} {v1 : Int32} {h : am_H} {r : (Int32 × am_H)} (hb : Ref_nextRow_34 v0 v1 h = some r) : Eqs h r.2 := by
  unfold Ref_nextRow_34 at hb
  have w0 := Eqs.rf h
  by_cases q : (0 : Int32) ≤ v1
  · have hb51 := ip q hb
    obtain ⟨x53, e_x53, hb54⟩ := ob2 hb51
    exact w0.tr (Ref_nextRow_47_q hb54)
  · have hb52 := iq q hb
    obtain rfl := Option.some.inj hb52
    exact w0
set_option maxHeartbeats 1000000 in
set_option maxRecDepth 100000 in
noncomputable def Ref_nextRow_7_b (g : (Nat × Int32 × Nat × am_H) → Option (Int32 × am_H)) (v0 : Nat) (v1 : Int32) (h : am_H) : Option (Int32 × am_H) := if v1 < (0 : Int32) then Ref_nextRow_34 v0 v1 h else (gR h 12 v0 40).bind fun x57 => (aI h 0 x57 v1).bind fun x59 => (gR h 12 v0 40).bind fun x61 => (aI h 0 x61 (v1 + (1 : Int32))).bind fun x63 => if x59 < x63 then Ref_nextRow_34 v0 v1 h else g (7, (v1 + (-1 : Int32)), v0, h)
set_option maxHeartbeats 1000000 in
set_option maxRecDepth 100000 in
theorem Ref_nextRow_7_m {g g2 : (Nat × Int32 × Nat × am_H) → Option (Int32 × am_H)} (hg : ∀ s, Le (g s) (g2 s)) (v0 : Nat) (v1 : Int32) (h : am_H) : Le (Ref_nextRow_7_b g v0 v1 h) (Ref_nextRow_7_b g2 v0 v1 h) := by unfold Ref_nextRow_7_b; exact le_i (le_r _) (le_b (le_r _) fun x57 => le_b (le_r _) fun x59 => le_b (le_r _) fun x61 => le_b (le_r _) fun x63 => le_i (le_r _) (hg _))
noncomputable def Ref_nextRow_7_F (g : (Nat × Int32 × Nat × am_H) → Option (Int32 × am_H)) (s : (Nat × Int32 × Nat × am_H)) : Option (Int32 × am_H) := if s.1 = 7 then Ref_nextRow_7_b g s.2.2.1 s.2.1 s.2.2.2 else none
theorem Ref_nextRow_7_M : Mn Ref_nextRow_7_F := fun g g2 hg s => by unfold Ref_nextRow_7_F; exact le_i (Ref_nextRow_7_m hg s.2.2.1 s.2.1 s.2.2.2) (le_r _)
def Ref_nextRow_7_P (s : (Nat × Int32 × Nat × am_H)) (r : (Int32 × am_H)) : Prop := (s.1 = 7 → Sx 0 mX12_nextRow 7 [.ref s.2.2.1, .int s.2.1, .retAddr 0, .retAddr 0, .retAddr 0, .retAddr 0] [] s.2.2.2 (some (.int r.1)) r.2) ∧ True
set_option maxHeartbeats 1000000 in
set_option maxRecDepth 100000 in
theorem Ref_nextRow_7_t {g : (Nat × Int32 × Nat × am_H) → Option (Int32 × am_H)} (hg : ∀ s r, g s = some r → Ref_nextRow_7_P s r) {v0 : Nat} {v1 : Int32} {h : am_H} {r : (Int32 × am_H)} (hb : Ref_nextRow_7_b g v0 v1 h = some r) : Sx 0 mX12_nextRow 7 [.ref v0, .int v1, .retAddr 0, .retAddr 0, .retAddr 0, .retAddr 0] [] h (some (.int r.1)) r.2 := by
  unfold Ref_nextRow_7_b at hb
  refine Sx.o (fun _ _ _ k => ex_iload_n dX12_nextRow_7 rfl k) ?_
  refine Sx.b (fun _ _ _ k1 k2 => ex_if_lt 34 dX12_nextRow_8 (by decide) k1 k2) (fun q => ?_) (fun q => ?_)
  · have hb55 := ip q hb
    exact Ref_nextRow_34_s hb55
  · have hb56 := iq q hb
    refine Sx.o (fun _ _ _ k => ex_aload_n dX12_nextRow_11 rfl rfl k) ?_
    obtain ⟨x57, e_x57, hb58⟩ := ob2 hb56
    refine Sx.o (fun _ _ _ k => op_getR fX12_80 dX12_nextRow_12 e_x57 k) ?_
    refine Sx.o (fun _ _ _ k => ex_iload_n dX12_nextRow_15 rfl k) ?_
    obtain ⟨x59, e_x59, hb60⟩ := ob2 hb58
    refine Sx.o (fun _ _ _ k => op_iald dX12_nextRow_16 e_x59 k) ?_
    refine Sx.o (fun _ _ _ k => ex_aload_n dX12_nextRow_17 rfl rfl k) ?_
    obtain ⟨x61, e_x61, hb62⟩ := ob2 hb60
    refine Sx.o (fun _ _ _ k => op_getR fX12_80 dX12_nextRow_18 e_x61 k) ?_
    refine Sx.o (fun _ _ _ k => ex_iload_n dX12_nextRow_21 rfl k) ?_
    refine Sx.o (fun _ _ _ k => op_iconst (1 : Int32) dX12_nextRow_22 (by decide) k) ?_
    refine Sx.o (fun _ _ _ k => ex_iadd dX12_nextRow_23 k) ?_
    obtain ⟨x63, e_x63, hb64⟩ := ob2 hb62
    refine Sx.o (fun _ _ _ k => op_iald dX12_nextRow_24 e_x63 k) ?_
    refine Sx.b (fun _ _ _ k1 k2 => ex_icmp_lt 34 dX12_nextRow_25 (by decide) k1 k2) (fun q => ?_) (fun q => ?_)
    · have hb65 := ip q hb64
      exact Ref_nextRow_34_s hb65
    · have hb66 := iq q hb64
      refine Sx.o (L' := [.ref v0, .int (v1 + (-1 : Int32)), .retAddr 0, .retAddr 0, .retAddr 0, .retAddr 0]) (fun _ _ _ k => op_iinc (-1 : Int32) dX12_nextRow_28 (by decide) rfl (by decide) k) ?_
      refine Sx.o (fun _ _ _ k => ex_goto 7 dX12_nextRow_31 (by decide) k) ?_
      exact (hg _ _ hb66).1 rfl
theorem Ref_nextRow_7_T : ∀ s r, fx Ref_nextRow_7_F Ref_nextRow_7_M s = some r → Ref_nextRow_7_P s r := fx_ind Ref_nextRow_7_M Ref_nextRow_7_P (fun g hg s r hb => by
  unfold Ref_nextRow_7_F at hb
  exact ⟨fun q => Ref_nextRow_7_t hg (ip q hb), trivial⟩)
set_option maxHeartbeats 1000000 in
set_option maxRecDepth 100000 in
theorem Ref_nextRow_7_r {g : (Nat × Int32 × Nat × am_H) → Option (Int32 × am_H)} (hg : ∀ s r, g s = some r → Eqs s.2.2.2 r.2) {v0 : Nat} {v1 : Int32} {h : am_H} {r : (Int32 × am_H)} (hb : Ref_nextRow_7_b g v0 v1 h = some r) : Eqs h r.2 := by
  unfold Ref_nextRow_7_b at hb
  have w0 := Eqs.rf h
  by_cases q : v1 < (0 : Int32)
  · have hb55 := ip q hb
    exact w0.tr (Ref_nextRow_34_q hb55)
  · have hb56 := iq q hb
    obtain ⟨x57, e_x57, hb58⟩ := ob2 hb56
    obtain ⟨x59, e_x59, hb60⟩ := ob2 hb58
    obtain ⟨x61, e_x61, hb62⟩ := ob2 hb60
    obtain ⟨x63, e_x63, hb64⟩ := ob2 hb62
    by_cases q : x59 < x63
    · have hb65 := ip q hb64
      exact w0.tr (Ref_nextRow_34_q hb65)
    · have hb66 := iq q hb64
      exact w0.tr (hg _ _ hb66)
theorem Ref_nextRow_7_Q : ∀ s r, fx Ref_nextRow_7_F Ref_nextRow_7_M s = some r → Eqs s.2.2.2 r.2 := fx_ind Ref_nextRow_7_M (fun s r => Eqs s.2.2.2 r.2) (fun g hg s r hb => by
  unfold Ref_nextRow_7_F at hb
  by_cases q0 : s.1 = 7
  · exact Ref_nextRow_7_r hg (ip q0 hb)
  · have hb0 := iq q0 hb
    exact nomatch hb0)
noncomputable def Ref_nextRow_7 (v0 : Nat) (v1 : Int32) (h : am_H) : Option (Int32 × am_H) := fx Ref_nextRow_7_F Ref_nextRow_7_M (7, v1, v0, h)
set_option maxHeartbeats 1000000 in
set_option maxRecDepth 100000 in
theorem Ref_nextRow_7_e (v0 : Nat) (v1 : Int32) (h : am_H) : Ref_nextRow_7 v0 v1 h = (if v1 < (0 : Int32) then Ref_nextRow_34 v0 v1 h else (gR h 12 v0 40).bind fun x57 => (aI h 0 x57 v1).bind fun x59 => (gR h 12 v0 40).bind fun x61 => (aI h 0 x61 (v1 + (1 : Int32))).bind fun x63 => if x59 < x63 then Ref_nextRow_34 v0 v1 h else Ref_nextRow_7 v0 (v1 + (-1 : Int32)) h) := (fx_eq Ref_nextRow_7_M (7, v1, v0, h)).trans (if_pos rfl)
theorem Ref_nextRow_7_q {v0 : Nat} {v1 : Int32} {h : am_H} {r : (Int32 × am_H)} (hb : Ref_nextRow_7 v0 v1 h = some r) : Eqs h r.2 := Ref_nextRow_7_Q _ _ hb
theorem Ref_nextRow_7_s {v0 : Nat} {v1 : Int32} {h : am_H} {r : (Int32 × am_H)} (hb : Ref_nextRow_7 v0 v1 h = some r) : Sx 0 mX12_nextRow 7 [.ref v0, .int v1, .retAddr 0, .retAddr 0, .retAddr 0, .retAddr 0] [] h (some (.int r.1)) r.2 := (Ref_nextRow_7_T _ _ hb).1 rfl
set_option maxHeartbeats 1000000 in
set_option maxRecDepth 100000 in
noncomputable def Ref_nextRow (v0 : Nat) (h : am_H) : Option (Int32 × am_H) := if isO h 12 v0 = true then (gI h 12 v0 41).bind fun x67 => Ref_nextRow_7 v0 (x67 - (2 : Int32)) h else none
set_option maxHeartbeats 1000000 in
set_option maxRecDepth 100000 in
theorem Ref_nextRow_s {v0 : Nat} {h : am_H} {r : (Int32 × am_H)} (hb : Ref_nextRow v0 h = some r) : Sx 0 mX12_nextRow 0 (am_en [.ref v0] 6) [] h (some (.int r.1)) r.2 := by
  unfold Ref_nextRow at hb
  have hb := (iz hb).2
  show Sx 0 mX12_nextRow 0 [.ref v0, .retAddr 0, .retAddr 0, .retAddr 0, .retAddr 0, .retAddr 0] [] h (some (.int r.1)) r.2
  refine Sx.o (fun _ _ _ k => ex_aload_n dX12_nextRow_0 rfl rfl k) ?_
  obtain ⟨x67, e_x67, hb68⟩ := ob2 hb
  refine Sx.o (fun _ _ _ k => op_getI fX12_378 dX12_nextRow_1 e_x67 k) ?_
  refine Sx.o (fun _ _ _ k => op_iconst (2 : Int32) dX12_nextRow_4 (by decide) k) ?_
  refine Sx.o (fun _ _ _ k => ex_isub dX12_nextRow_5 k) ?_
  refine Sx.o (L' := [.ref v0, .int (x67 - (2 : Int32)), .retAddr 0, .retAddr 0, .retAddr 0, .retAddr 0]) (fun _ _ _ k => ex_istore_n dX12_nextRow_6 (by decide) k) ?_
  exact Ref_nextRow_7_s hb68
set_option maxHeartbeats 1000000 in
set_option maxRecDepth 100000 in
theorem Ref_nextRow_q {v0 : Nat} {h : am_H} {r : (Int32 × am_H)} (hb : Ref_nextRow v0 h = some r) : Eqs h r.2 := by
  unfold Ref_nextRow at hb
  have hb := (iz hb).2
  have w0 := Eqs.rf h
  obtain ⟨x67, e_x67, hb68⟩ := ob2 hb
  exact w0.tr (Ref_nextRow_7_q hb68)
theorem Ref_nextRow_o {v0 : Nat} {h : am_H} {r : (Int32 × am_H)} (hb : Ref_nextRow v0 h = some r) : isO h 12 v0 = true := by
  unfold Ref_nextRow at hb
  exact (iz hb).1
set_option maxHeartbeats 1000000 in
set_option maxRecDepth 100000 in
noncomputable def Ref_countsOrders_24_b (g : (Nat × Int32 × Int32 × Int32 × Int32 × Int32 × Nat × Nat × am_H) → Option am_H) (v0 : Nat) (v1 : Int32) (v2 : Int32) (v3 : Int32) (v4 : Int32) (h : am_H) : Option am_H := if v4 = (0 : Int32) then some h else (Ref_takes v0 v1 h).bind fun h3 => (pV h3 12 v0 32 (.int (0 : Int32))).bind fun h6 => g (42, v1, v2, v3, (0 : Int32), 0, v0, 0, h6)
set_option maxHeartbeats 1000000 in
set_option maxRecDepth 100000 in
theorem Ref_countsOrders_24_m {g g2 : (Nat × Int32 × Int32 × Int32 × Int32 × Int32 × Nat × Nat × am_H) → Option am_H} (hg : ∀ s, Le (g s) (g2 s)) (v0 : Nat) (v1 : Int32) (v2 : Int32) (v3 : Int32) (v4 : Int32) (h : am_H) : Le (Ref_countsOrders_24_b g v0 v1 v2 v3 v4 h) (Ref_countsOrders_24_b g2 v0 v1 v2 v3 v4 h) := by unfold Ref_countsOrders_24_b; exact le_i (le_r _) (le_b (le_r _) fun h3 => le_b (le_r _) fun h6 => hg _)
set_option maxHeartbeats 1000000 in
set_option maxRecDepth 100000 in
noncomputable def Ref_countsOrders_42_b (g : (Nat × Int32 × Int32 × Int32 × Int32 × Int32 × Nat × Nat × am_H) → Option am_H) (v0 : Nat) (v1 : Int32) (v2 : Int32) (v3 : Int32) (v5 : Int32) (h : am_H) : Option am_H := (gI h 12 v0 41).bind fun x9 => if x9 ≤ v5 then (gI h 12 v0 44).bind fun x13 => (Ref_endsBehind v0 h).bind fun r15 => if r15.1 = v3 then g (100, v1, v2, v3, (1 : Int32), x13, v0, v0, r15.2) else g (100, v1, v2, v3, (0 : Int32), x13, v0, v0, r15.2) else (gR h 12 v0 29).bind fun x20 => (gR h 12 v0 40).bind fun x22 => (aI h 0 x22 v5).bind fun x24 => (Ref_cardOf v0 v1 ((v2 + x24) - (1 : Int32)) h).bind fun x26 => (sI h x20 (v2 + v5) x26).bind fun h28 => g (42, v1, v2, v3, (v5 + (1 : Int32)), 0, v0, 0, h28)
set_option maxHeartbeats 1000000 in
set_option maxRecDepth 100000 in
theorem Ref_countsOrders_42_m {g g2 : (Nat × Int32 × Int32 × Int32 × Int32 × Int32 × Nat × Nat × am_H) → Option am_H} (hg : ∀ s, Le (g s) (g2 s)) (v0 : Nat) (v1 : Int32) (v2 : Int32) (v3 : Int32) (v5 : Int32) (h : am_H) : Le (Ref_countsOrders_42_b g v0 v1 v2 v3 v5 h) (Ref_countsOrders_42_b g2 v0 v1 v2 v3 v5 h) := by unfold Ref_countsOrders_42_b; exact le_b (le_r _) fun x9 => le_i (le_b (le_r _) fun x13 => le_b (le_r _) fun r15 => le_i (hg _) (hg _)) (le_b (le_r _) fun x20 => le_b (le_r _) fun x22 => le_b (le_r _) fun x24 => le_b (le_r _) fun x26 => le_b (le_r _) fun h28 => hg _)
set_option maxHeartbeats 1000000 in
set_option maxRecDepth 100000 in
noncomputable def Ref_countsOrders_100_b (g : (Nat × Int32 × Int32 × Int32 × Int32 × Int32 × Nat × Nat × am_H) → Option am_H) (v0 : Nat) (v1 : Int32) (v2 : Int32) (v3 : Int32) (s0 : Int32) (s1 : Int32) (s2 : Nat) (h : am_H) : Option am_H := (pV h 12 s2 44 (.int (s1 + s0))).bind fun h31 => (gI h31 12 v0 43).bind fun x34 => (pV h31 12 v0 43 (.int (x34 + (1 : Int32)))).bind fun h36 => (Ref_nextRow v0 h36).bind fun r39 => g (24, v1, v2, v3, r39.1, 0, v0, 0, r39.2)
set_option maxHeartbeats 1000000 in
set_option maxRecDepth 100000 in
theorem Ref_countsOrders_100_m {g g2 : (Nat × Int32 × Int32 × Int32 × Int32 × Int32 × Nat × Nat × am_H) → Option am_H} (hg : ∀ s, Le (g s) (g2 s)) (v0 : Nat) (v1 : Int32) (v2 : Int32) (v3 : Int32) (s0 : Int32) (s1 : Int32) (s2 : Nat) (h : am_H) : Le (Ref_countsOrders_100_b g v0 v1 v2 v3 s0 s1 s2 h) (Ref_countsOrders_100_b g2 v0 v1 v2 v3 s0 s1 s2 h) := by unfold Ref_countsOrders_100_b; exact le_b (le_r _) fun h31 => le_b (le_r _) fun x34 => le_b (le_r _) fun h36 => le_b (le_r _) fun r39 => hg _
noncomputable def Ref_countsOrders_24_F (g : (Nat × Int32 × Int32 × Int32 × Int32 × Int32 × Nat × Nat × am_H) → Option am_H) (s : (Nat × Int32 × Int32 × Int32 × Int32 × Int32 × Nat × Nat × am_H)) : Option am_H := if s.1 = 24 then Ref_countsOrders_24_b g s.2.2.2.2.2.2.1 s.2.1 s.2.2.1 s.2.2.2.1 s.2.2.2.2.1 s.2.2.2.2.2.2.2.2 else if s.1 = 42 then Ref_countsOrders_42_b g s.2.2.2.2.2.2.1 s.2.1 s.2.2.1 s.2.2.2.1 s.2.2.2.2.1 s.2.2.2.2.2.2.2.2 else if s.1 = 100 then Ref_countsOrders_100_b g s.2.2.2.2.2.2.1 s.2.1 s.2.2.1 s.2.2.2.1 s.2.2.2.2.1 s.2.2.2.2.2.1 s.2.2.2.2.2.2.2.1 s.2.2.2.2.2.2.2.2 else none
theorem Ref_countsOrders_24_M : Mn Ref_countsOrders_24_F := fun g g2 hg s => by unfold Ref_countsOrders_24_F; exact le_i (Ref_countsOrders_24_m hg s.2.2.2.2.2.2.1 s.2.1 s.2.2.1 s.2.2.2.1 s.2.2.2.2.1 s.2.2.2.2.2.2.2.2) (le_i (Ref_countsOrders_42_m hg s.2.2.2.2.2.2.1 s.2.1 s.2.2.1 s.2.2.2.1 s.2.2.2.2.1 s.2.2.2.2.2.2.2.2) (le_i (Ref_countsOrders_100_m hg s.2.2.2.2.2.2.1 s.2.1 s.2.2.1 s.2.2.2.1 s.2.2.2.2.1 s.2.2.2.2.2.1 s.2.2.2.2.2.2.2.1 s.2.2.2.2.2.2.2.2) (le_r _)))
def Ref_countsOrders_24_P (s : (Nat × Int32 × Int32 × Int32 × Int32 × Int32 × Nat × Nat × am_H)) (r : am_H) : Prop := (s.1 = 24 → Sx 89 mX12_countsOrders 24 [.ref s.2.2.2.2.2.2.1, .int s.2.1, .int s.2.2.1, .int s.2.2.2.1, .int s.2.2.2.2.1, .retAddr 0] [] s.2.2.2.2.2.2.2.2 none r) ∧ (s.1 = 42 → Sx 89 mX12_countsOrders 42 [.ref s.2.2.2.2.2.2.1, .int s.2.1, .int s.2.2.1, .int s.2.2.2.1, .retAddr 0, .int s.2.2.2.2.1] [] s.2.2.2.2.2.2.2.2 none r) ∧ (s.1 = 100 → Sx 89 mX12_countsOrders 100 [.ref s.2.2.2.2.2.2.1, .int s.2.1, .int s.2.2.1, .int s.2.2.2.1, .retAddr 0, .retAddr 0] [.int s.2.2.2.2.1, .int s.2.2.2.2.2.1, .ref s.2.2.2.2.2.2.2.1] s.2.2.2.2.2.2.2.2 none r) ∧ True
set_option maxHeartbeats 1000000 in
set_option maxRecDepth 100000 in
theorem Ref_countsOrders_24_t {g : (Nat × Int32 × Int32 × Int32 × Int32 × Int32 × Nat × Nat × am_H) → Option am_H} (hg : ∀ s r, g s = some r → Ref_countsOrders_24_P s r) {v0 : Nat} {v1 : Int32} {v2 : Int32} {v3 : Int32} {v4 : Int32} {h : am_H} {r : am_H} (hb : Ref_countsOrders_24_b g v0 v1 v2 v3 v4 h = some r) : Sx 89 mX12_countsOrders 24 [.ref v0, .int v1, .int v2, .int v3, .int v4, .retAddr 0] [] h none r := by
  unfold Ref_countsOrders_24_b at hb
  refine Sx.o (fun _ _ _ k => ex_iload dX12_countsOrders_24 rfl k) ?_
  refine Sx.b (fun _ _ _ k1 k2 => ex_if_eq 123 dX12_countsOrders_26 (by decide) k1 k2) (fun q => ?_) (fun q => ?_)
  · have hb1 := ip q hb
    obtain rfl := Option.some.inj hb1
    exact Sx.r (fun _ _ _ k => ex_vret rfl dX12_countsOrders_123 k)
  · have hb2 := iq q hb
    refine Sx.o (fun _ _ _ k => ex_aload_n dX12_countsOrders_29 rfl rfl k) ?_
    refine Sx.o (fun _ _ _ k => ex_iload_n dX12_countsOrders_30 rfl k) ?_
    obtain ⟨h3, e_h3, hb4⟩ := ob2 hb2
    refine sx_callV (dc := 2) (as := [.int v1]) (stq := []) (by omega) dX12_countsOrders_31 MX12_takes kX12_126 iX12_takes sX12_takes rfl rfl (Ref_takes_o e_h3) rfl rfl (Nat.le_of_ble_eq_true rfl) (Nat.le_of_ble_eq_true rfl) (Ref_takes_s e_h3) rfl ?_
    refine Sx.o (fun _ _ _ k => ex_aload_n dX12_countsOrders_34 rfl rfl k) ?_
    refine Sx.o (fun _ _ _ k => op_iconst (0 : Int32) dX12_countsOrders_35 (by decide) k) ?_
    obtain ⟨h6, e_h6, hb7⟩ := ob2 hb4
    refine Sx.p (pV_q e_h6) (fun _ _ _ k => op_put pX12_133 dX12_countsOrders_36 e_h6 (fun _ => rfl) (fun _ => rfl) k) ?_
    refine Sx.o (fun _ _ _ k => op_iconst (0 : Int32) dX12_countsOrders_39 (by decide) k) ?_
    refine Sx.o (L' := [.ref v0, .int v1, .int v2, .int v3, .int v4, .int (0 : Int32)]) (fun _ _ _ k => ex_istore dX12_countsOrders_40 (by decide) k) ?_
    refine Sx.fg [true, true, true, true, false, true] ?_
    exact (hg _ _ hb7).2.1 rfl
set_option maxHeartbeats 1000000 in
set_option maxRecDepth 100000 in
theorem Ref_countsOrders_42_t {g : (Nat × Int32 × Int32 × Int32 × Int32 × Int32 × Nat × Nat × am_H) → Option am_H} (hg : ∀ s r, g s = some r → Ref_countsOrders_24_P s r) {v0 : Nat} {v1 : Int32} {v2 : Int32} {v3 : Int32} {v5 : Int32} {h : am_H} {r : am_H} (hb : Ref_countsOrders_42_b g v0 v1 v2 v3 v5 h = some r) : Sx 89 mX12_countsOrders 42 [.ref v0, .int v1, .int v2, .int v3, .retAddr 0, .int v5] [] h none r := by
  unfold Ref_countsOrders_42_b at hb
  refine Sx.o (fun _ _ _ k => ex_iload dX12_countsOrders_42 rfl k) ?_
  refine Sx.o (fun _ _ _ k => ex_aload_n dX12_countsOrders_44 rfl rfl k) ?_
  obtain ⟨x9, e_x9, hb10⟩ := ob2 hb
  refine Sx.o (fun _ _ _ k => op_getI fX12_378 dX12_countsOrders_45 e_x9 k) ?_
  refine Sx.b (fun _ _ _ k1 k2 => ex_icmp_ge 82 dX12_countsOrders_48 (by decide) k1 k2) (fun q => ?_) (fun q => ?_)
  · have hb11 := ip q hb10
    refine Sx.o (fun _ _ _ k => ex_aload_n dX12_countsOrders_82 rfl rfl k) ?_
    refine Sx.o (fun _ _ _ k => ex_dup dX12_countsOrders_83 rfl k) ?_
    obtain ⟨x13, e_x13, hb14⟩ := ob2 hb11
    refine Sx.o (fun _ _ _ k => op_getI fX12_418 dX12_countsOrders_84 e_x13 k) ?_
    refine Sx.o (fun _ _ _ k => ex_aload_n dX12_countsOrders_87 rfl rfl k) ?_
    obtain ⟨r15, e_r15, hb16⟩ := ob2 hb14
    refine sx_callV (dc := 88) (as := []) (stq := [.int r15.1, .int x13, .ref v0]) (by omega) dX12_countsOrders_88 MX12_endsBehind kX12_353 iX12_endsBehind sX12_endsBehind rfl rfl (Ref_endsBehind_o e_r15) rfl rfl (Nat.le_of_ble_eq_true rfl) (Nat.le_of_ble_eq_true rfl) (Ref_endsBehind_s e_r15) rfl ?_
    refine Sx.o (fun _ _ _ k => ex_iload_n dX12_countsOrders_91 rfl k) ?_
    refine Sx.bn (fun _ _ _ k1 k2 => ex_icmp_ne 99 dX12_countsOrders_92 (by decide) k1 k2) (fun q => ?_) (fun q => ?_)
    · have hb18 := iq q hb16
      refine Sx.o (fun _ _ _ k => op_iconst (0 : Int32) dX12_countsOrders_99 (by decide) k) ?_
      refine Sx.fg [true, true, true, true, true, false] ?_
      exact (hg _ _ hb18).2.2.1 rfl
    · have hb19 := ip q hb16
      refine Sx.o (fun _ _ _ k => op_iconst (1 : Int32) dX12_countsOrders_95 (by decide) k) ?_
      refine Sx.o (fun _ _ _ k => ex_goto 100 dX12_countsOrders_96 (by decide) k) ?_
      refine Sx.fg [true, true, true, true, true, false] ?_
      exact (hg _ _ hb19).2.2.1 rfl
  · have hb12 := iq q hb10
    refine Sx.o (fun _ _ _ k => ex_aload_n dX12_countsOrders_51 rfl rfl k) ?_
    obtain ⟨x20, e_x20, hb21⟩ := ob2 hb12
    refine Sx.o (fun _ _ _ k => op_getR fX12_65 dX12_countsOrders_52 e_x20 k) ?_
    refine Sx.o (fun _ _ _ k => ex_iload_n dX12_countsOrders_55 rfl k) ?_
    refine Sx.o (fun _ _ _ k => ex_iload dX12_countsOrders_56 rfl k) ?_
    refine Sx.o (fun _ _ _ k => ex_iadd dX12_countsOrders_58 k) ?_
    refine Sx.o (fun _ _ _ k => ex_aload_n dX12_countsOrders_59 rfl rfl k) ?_
    refine Sx.o (fun _ _ _ k => ex_iload_n dX12_countsOrders_60 rfl k) ?_
    refine Sx.o (fun _ _ _ k => ex_iload_n dX12_countsOrders_61 rfl k) ?_
    refine Sx.o (fun _ _ _ k => ex_aload_n dX12_countsOrders_62 rfl rfl k) ?_
    obtain ⟨x22, e_x22, hb23⟩ := ob2 hb21
    refine Sx.o (fun _ _ _ k => op_getR fX12_80 dX12_countsOrders_63 e_x22 k) ?_
    refine Sx.o (fun _ _ _ k => ex_iload dX12_countsOrders_66 rfl k) ?_
    obtain ⟨x24, e_x24, hb25⟩ := ob2 hb23
    refine Sx.o (fun _ _ _ k => op_iald dX12_countsOrders_68 e_x24 k) ?_
    refine Sx.o (fun _ _ _ k => ex_iadd dX12_countsOrders_69 k) ?_
    refine Sx.o (fun _ _ _ k => op_iconst (1 : Int32) dX12_countsOrders_70 (by decide) k) ?_
    refine Sx.o (fun _ _ _ k => ex_isub dX12_countsOrders_71 k) ?_
    obtain ⟨x26, e_x26, hb27⟩ := ob2 hb25
    refine sx_callV (dc := 1) (as := [.int v1, .int ((v2 + x24) - (1 : Int32))]) (stq := [.int x26, .int (v2 + v5), .ref x20]) (by omega) dX12_countsOrders_72 MX12_cardOf kX12_280 iX12_cardOf sX12_cardOf rfl rfl (Ref_cardOf_o e_x26) rfl rfl (Nat.le_of_ble_eq_true rfl) (Nat.le_of_ble_eq_true rfl) (Ref_cardOf_s e_x26) rfl ?_
    obtain ⟨h28, e_h28, hb29⟩ := ob2 hb27
    refine Sx.p (sI_q e_h28) (fun _ _ _ k => op_iast dX12_countsOrders_75 e_h28 k) ?_
    refine Sx.o (L' := [.ref v0, .int v1, .int v2, .int v3, .retAddr 0, .int (v5 + (1 : Int32))]) (fun _ _ _ k => op_iinc (1 : Int32) dX12_countsOrders_76 (by decide) rfl (by decide) k) ?_
    refine Sx.o (fun _ _ _ k => ex_goto 42 dX12_countsOrders_79 (by decide) k) ?_
    exact (hg _ _ hb29).2.1 rfl
set_option maxHeartbeats 1000000 in
set_option maxRecDepth 100000 in
theorem Ref_countsOrders_100_t {g : (Nat × Int32 × Int32 × Int32 × Int32 × Int32 × Nat × Nat × am_H) → Option am_H} (hg : ∀ s r, g s = some r → Ref_countsOrders_24_P s r) {v0 : Nat} {v1 : Int32} {v2 : Int32} {v3 : Int32} {s0 : Int32} {s1 : Int32} {s2 : Nat} {h : am_H} {r : am_H} (hb : Ref_countsOrders_100_b g v0 v1 v2 v3 s0 s1 s2 h = some r) : Sx 89 mX12_countsOrders 100 [.ref v0, .int v1, .int v2, .int v3, .retAddr 0, .retAddr 0] [.int s0, .int s1, .ref s2] h none r := by
  unfold Ref_countsOrders_100_b at hb
  refine Sx.o (fun _ _ _ k => ex_iadd dX12_countsOrders_100 k) ?_
  obtain ⟨h31, e_h31, hb32⟩ := ob2 hb
  refine Sx.p (pV_q e_h31) (fun _ _ _ k => op_put pX12_418 dX12_countsOrders_101 e_h31 (fun _ => rfl) (fun _ => rfl) k) ?_
  refine Sx.o (fun _ _ _ k => ex_aload_n dX12_countsOrders_104 rfl rfl k) ?_
  refine Sx.o (fun _ _ _ k => ex_dup dX12_countsOrders_105 rfl k) ?_
  obtain ⟨x34, e_x34, hb35⟩ := ob2 hb32
  refine Sx.o (fun _ _ _ k => op_getI fX12_415 dX12_countsOrders_106 e_x34 k) ?_
  refine Sx.o (fun _ _ _ k => op_iconst (1 : Int32) dX12_countsOrders_109 (by decide) k) ?_
  refine Sx.o (fun _ _ _ k => ex_iadd dX12_countsOrders_110 k) ?_
  obtain ⟨h36, e_h36, hb37⟩ := ob2 hb35
  refine Sx.p (pV_q e_h36) (fun _ _ _ k => op_put pX12_415 dX12_countsOrders_111 e_h36 (fun _ => rfl) (fun _ => rfl) k) ?_
  refine Sx.o (fun _ _ _ k => ex_aload_n dX12_countsOrders_114 rfl rfl k) ?_
  obtain ⟨r39, e_r39, hb40⟩ := ob2 hb37
  refine sx_callV (dc := 0) (as := []) (stq := [.int r39.1]) (by omega) dX12_countsOrders_115 MX12_nextRow kX12_390 iX12_nextRow sX12_nextRow rfl rfl (Ref_nextRow_o e_r39) rfl rfl (Nat.le_of_ble_eq_true rfl) (Nat.le_of_ble_eq_true rfl) (Ref_nextRow_s e_r39) rfl ?_
  refine Sx.o (L' := [.ref v0, .int v1, .int v2, .int v3, .int r39.1, .retAddr 0]) (fun _ _ _ k => ex_istore dX12_countsOrders_118 (by decide) k) ?_
  refine Sx.o (fun _ _ _ k => ex_goto 24 dX12_countsOrders_120 (by decide) k) ?_
  exact (hg _ _ hb40).1 rfl
theorem Ref_countsOrders_24_T : ∀ s r, fx Ref_countsOrders_24_F Ref_countsOrders_24_M s = some r → Ref_countsOrders_24_P s r := fx_ind Ref_countsOrders_24_M Ref_countsOrders_24_P (fun g hg s r hb => by
  unfold Ref_countsOrders_24_F at hb
  exact ⟨fun q => Ref_countsOrders_24_t hg (ip q hb), fun q => Ref_countsOrders_42_t hg (ip q (iq (by rw [q]; decide) hb)), fun q => Ref_countsOrders_100_t hg (ip q (iq (by rw [q]; decide) (iq (by rw [q]; decide) hb))), trivial⟩)
set_option maxHeartbeats 1000000 in
set_option maxRecDepth 100000 in
theorem Ref_countsOrders_24_r {g : (Nat × Int32 × Int32 × Int32 × Int32 × Int32 × Nat × Nat × am_H) → Option am_H} (hg : ∀ s r, g s = some r → Eqs s.2.2.2.2.2.2.2.2 r) {v0 : Nat} {v1 : Int32} {v2 : Int32} {v3 : Int32} {v4 : Int32} {h : am_H} {r : am_H} (hb : Ref_countsOrders_24_b g v0 v1 v2 v3 v4 h = some r) : Eqs h r := by
  unfold Ref_countsOrders_24_b at hb
  have w0 := Eqs.rf h
  by_cases q : v4 = (0 : Int32)
  · have hb1 := ip q hb
    obtain rfl := Option.some.inj hb1
    exact w0
  · have hb2 := iq q hb
    obtain ⟨h3, e_h3, hb4⟩ := ob2 hb2
    have w5 := w0.tr (Ref_takes_q e_h3)
    obtain ⟨h6, e_h6, hb7⟩ := ob2 hb4
    have w8 := w5.tr (pV_q e_h6)
    exact w8.tr (hg _ _ hb7)
set_option maxHeartbeats 1000000 in
set_option maxRecDepth 100000 in
theorem Ref_countsOrders_42_r {g : (Nat × Int32 × Int32 × Int32 × Int32 × Int32 × Nat × Nat × am_H) → Option am_H} (hg : ∀ s r, g s = some r → Eqs s.2.2.2.2.2.2.2.2 r) {v0 : Nat} {v1 : Int32} {v2 : Int32} {v3 : Int32} {v5 : Int32} {h : am_H} {r : am_H} (hb : Ref_countsOrders_42_b g v0 v1 v2 v3 v5 h = some r) : Eqs h r := by
  unfold Ref_countsOrders_42_b at hb
  have w0 := Eqs.rf h
  obtain ⟨x9, e_x9, hb10⟩ := ob2 hb
  by_cases q : x9 ≤ v5
  · have hb11 := ip q hb10
    obtain ⟨x13, e_x13, hb14⟩ := ob2 hb11
    obtain ⟨r15, e_r15, hb16⟩ := ob2 hb14
    have w17 := w0.tr (Ref_endsBehind_q e_r15)
    by_cases q : r15.1 = v3
    · have hb19 := ip q hb16
      exact w17.tr (hg _ _ hb19)
    · have hb18 := iq q hb16
      exact w17.tr (hg _ _ hb18)
  · have hb12 := iq q hb10
    obtain ⟨x20, e_x20, hb21⟩ := ob2 hb12
    obtain ⟨x22, e_x22, hb23⟩ := ob2 hb21
    obtain ⟨x24, e_x24, hb25⟩ := ob2 hb23
    obtain ⟨x26, e_x26, hb27⟩ := ob2 hb25
    obtain ⟨h28, e_h28, hb29⟩ := ob2 hb27
    have w30 := w0.tr (sI_q e_h28)
    exact w30.tr (hg _ _ hb29)
set_option maxHeartbeats 1000000 in
set_option maxRecDepth 100000 in
theorem Ref_countsOrders_100_r {g : (Nat × Int32 × Int32 × Int32 × Int32 × Int32 × Nat × Nat × am_H) → Option am_H} (hg : ∀ s r, g s = some r → Eqs s.2.2.2.2.2.2.2.2 r) {v0 : Nat} {v1 : Int32} {v2 : Int32} {v3 : Int32} {s0 : Int32} {s1 : Int32} {s2 : Nat} {h : am_H} {r : am_H} (hb : Ref_countsOrders_100_b g v0 v1 v2 v3 s0 s1 s2 h = some r) : Eqs h r := by
  unfold Ref_countsOrders_100_b at hb
  have w0 := Eqs.rf h
  obtain ⟨h31, e_h31, hb32⟩ := ob2 hb
  have w33 := w0.tr (pV_q e_h31)
  obtain ⟨x34, e_x34, hb35⟩ := ob2 hb32
  obtain ⟨h36, e_h36, hb37⟩ := ob2 hb35
  have w38 := w33.tr (pV_q e_h36)
  obtain ⟨r39, e_r39, hb40⟩ := ob2 hb37
  have w41 := w38.tr (Ref_nextRow_q e_r39)
  exact w41.tr (hg _ _ hb40)
theorem Ref_countsOrders_24_Q : ∀ s r, fx Ref_countsOrders_24_F Ref_countsOrders_24_M s = some r → Eqs s.2.2.2.2.2.2.2.2 r := fx_ind Ref_countsOrders_24_M (fun s r => Eqs s.2.2.2.2.2.2.2.2 r) (fun g hg s r hb => by
  unfold Ref_countsOrders_24_F at hb
  by_cases q0 : s.1 = 24
  · exact Ref_countsOrders_24_r hg (ip q0 hb)
  · have hb0 := iq q0 hb
    by_cases q1 : s.1 = 42
    · exact Ref_countsOrders_42_r hg (ip q1 hb0)
    · have hb1 := iq q1 hb0
      by_cases q2 : s.1 = 100
      · exact Ref_countsOrders_100_r hg (ip q2 hb1)
      · have hb2 := iq q2 hb1
        exact nomatch hb2)
noncomputable def Ref_countsOrders_24 (v0 : Nat) (v1 : Int32) (v2 : Int32) (v3 : Int32) (v4 : Int32) (h : am_H) : Option am_H := fx Ref_countsOrders_24_F Ref_countsOrders_24_M (24, v1, v2, v3, v4, 0, v0, 0, h)
noncomputable def Ref_countsOrders_42 (v0 : Nat) (v1 : Int32) (v2 : Int32) (v3 : Int32) (v5 : Int32) (h : am_H) : Option am_H := fx Ref_countsOrders_24_F Ref_countsOrders_24_M (42, v1, v2, v3, v5, 0, v0, 0, h)
noncomputable def Ref_countsOrders_100 (v0 : Nat) (v1 : Int32) (v2 : Int32) (v3 : Int32) (s0 : Int32) (s1 : Int32) (s2 : Nat) (h : am_H) : Option am_H := fx Ref_countsOrders_24_F Ref_countsOrders_24_M (100, v1, v2, v3, s0, s1, v0, s2, h)
set_option maxHeartbeats 1000000 in
set_option maxRecDepth 100000 in
theorem Ref_countsOrders_24_e (v0 : Nat) (v1 : Int32) (v2 : Int32) (v3 : Int32) (v4 : Int32) (h : am_H) : Ref_countsOrders_24 v0 v1 v2 v3 v4 h = (if v4 = (0 : Int32) then some h else (Ref_takes v0 v1 h).bind fun h3 => (pV h3 12 v0 32 (.int (0 : Int32))).bind fun h6 => Ref_countsOrders_42 v0 v1 v2 v3 (0 : Int32) h6) := (fx_eq Ref_countsOrders_24_M (24, v1, v2, v3, v4, 0, v0, 0, h)).trans (if_pos rfl)
theorem Ref_countsOrders_24_q {v0 : Nat} {v1 : Int32} {v2 : Int32} {v3 : Int32} {v4 : Int32} {h : am_H} {r : am_H} (hb : Ref_countsOrders_24 v0 v1 v2 v3 v4 h = some r) : Eqs h r := Ref_countsOrders_24_Q _ _ hb
theorem Ref_countsOrders_24_s {v0 : Nat} {v1 : Int32} {v2 : Int32} {v3 : Int32} {v4 : Int32} {h : am_H} {r : am_H} (hb : Ref_countsOrders_24 v0 v1 v2 v3 v4 h = some r) : Sx 89 mX12_countsOrders 24 [.ref v0, .int v1, .int v2, .int v3, .int v4, .retAddr 0] [] h none r := (Ref_countsOrders_24_T _ _ hb).1 rfl
set_option maxHeartbeats 1000000 in
set_option maxRecDepth 100000 in
theorem Ref_countsOrders_42_e (v0 : Nat) (v1 : Int32) (v2 : Int32) (v3 : Int32) (v5 : Int32) (h : am_H) : Ref_countsOrders_42 v0 v1 v2 v3 v5 h = ((gI h 12 v0 41).bind fun x9 => if x9 ≤ v5 then (gI h 12 v0 44).bind fun x13 => (Ref_endsBehind v0 h).bind fun r15 => if r15.1 = v3 then Ref_countsOrders_100 v0 v1 v2 v3 (1 : Int32) x13 v0 r15.2 else Ref_countsOrders_100 v0 v1 v2 v3 (0 : Int32) x13 v0 r15.2 else (gR h 12 v0 29).bind fun x20 => (gR h 12 v0 40).bind fun x22 => (aI h 0 x22 v5).bind fun x24 => (Ref_cardOf v0 v1 ((v2 + x24) - (1 : Int32)) h).bind fun x26 => (sI h x20 (v2 + v5) x26).bind fun h28 => Ref_countsOrders_42 v0 v1 v2 v3 (v5 + (1 : Int32)) h28) := (fx_eq Ref_countsOrders_24_M (42, v1, v2, v3, v5, 0, v0, 0, h)).trans ((if_neg (show ¬ (42 : Nat) = 24 by decide)).trans (if_pos rfl))
theorem Ref_countsOrders_42_q {v0 : Nat} {v1 : Int32} {v2 : Int32} {v3 : Int32} {v5 : Int32} {h : am_H} {r : am_H} (hb : Ref_countsOrders_42 v0 v1 v2 v3 v5 h = some r) : Eqs h r := Ref_countsOrders_24_Q _ _ hb
theorem Ref_countsOrders_42_s {v0 : Nat} {v1 : Int32} {v2 : Int32} {v3 : Int32} {v5 : Int32} {h : am_H} {r : am_H} (hb : Ref_countsOrders_42 v0 v1 v2 v3 v5 h = some r) : Sx 89 mX12_countsOrders 42 [.ref v0, .int v1, .int v2, .int v3, .retAddr 0, .int v5] [] h none r := (Ref_countsOrders_24_T _ _ hb).2.1 rfl
set_option maxHeartbeats 1000000 in
set_option maxRecDepth 100000 in
theorem Ref_countsOrders_100_e (v0 : Nat) (v1 : Int32) (v2 : Int32) (v3 : Int32) (s0 : Int32) (s1 : Int32) (s2 : Nat) (h : am_H) : Ref_countsOrders_100 v0 v1 v2 v3 s0 s1 s2 h = ((pV h 12 s2 44 (.int (s1 + s0))).bind fun h31 => (gI h31 12 v0 43).bind fun x34 => (pV h31 12 v0 43 (.int (x34 + (1 : Int32)))).bind fun h36 => (Ref_nextRow v0 h36).bind fun r39 => Ref_countsOrders_24 v0 v1 v2 v3 r39.1 r39.2) := (fx_eq Ref_countsOrders_24_M (100, v1, v2, v3, s0, s1, v0, s2, h)).trans ((if_neg (show ¬ (100 : Nat) = 24 by decide)).trans ((if_neg (show ¬ (100 : Nat) = 42 by decide)).trans (if_pos rfl)))
theorem Ref_countsOrders_100_q {v0 : Nat} {v1 : Int32} {v2 : Int32} {v3 : Int32} {s0 : Int32} {s1 : Int32} {s2 : Nat} {h : am_H} {r : am_H} (hb : Ref_countsOrders_100 v0 v1 v2 v3 s0 s1 s2 h = some r) : Eqs h r := Ref_countsOrders_24_Q _ _ hb
theorem Ref_countsOrders_100_s {v0 : Nat} {v1 : Int32} {v2 : Int32} {v3 : Int32} {s0 : Int32} {s1 : Int32} {s2 : Nat} {h : am_H} {r : am_H} (hb : Ref_countsOrders_100 v0 v1 v2 v3 s0 s1 s2 h = some r) : Sx 89 mX12_countsOrders 100 [.ref v0, .int v1, .int v2, .int v3, .retAddr 0, .retAddr 0] [.int s0, .int s1, .ref s2] h none r := (Ref_countsOrders_24_T _ _ hb).2.2.1 rfl
set_option maxHeartbeats 1000000 in
set_option maxRecDepth 100000 in
noncomputable def Ref_countsOrders (v0 : Nat) (v1 : Int32) (v2 : Int32) (v3 : Int32) (h : am_H) : Option am_H := if isO h 12 v0 = true then (pV h 12 v0 43 (.int (0 : Int32))).bind fun h42 => (pV h42 12 v0 44 (.int (0 : Int32))).bind fun h45 => (Ref_manyIn v0 v1 h45).bind fun x48 => (Ref_firstOrder v0 (x48 - v2) h45).bind fun h50 => Ref_countsOrders_24 v0 v1 v2 v3 (1 : Int32) h50 else none
set_option maxHeartbeats 1000000 in
set_option maxRecDepth 100000 in
theorem Ref_countsOrders_s {v0 : Nat} {v1 : Int32} {v2 : Int32} {v3 : Int32} {h : am_H} {r : am_H} (hb : Ref_countsOrders v0 v1 v2 v3 h = some r) : Sx 89 mX12_countsOrders 0 (am_en [.ref v0, .int v1, .int v2, .int v3] 6) [] h none r := by
  unfold Ref_countsOrders at hb
  have hb := (iz hb).2
  show Sx 89 mX12_countsOrders 0 [.ref v0, .int v1, .int v2, .int v3, .retAddr 0, .retAddr 0] [] h none r
  refine Sx.o (fun _ _ _ k => ex_aload_n dX12_countsOrders_0 rfl rfl k) ?_
  refine Sx.o (fun _ _ _ k => op_iconst (0 : Int32) dX12_countsOrders_1 (by decide) k) ?_
  obtain ⟨h42, e_h42, hb43⟩ := ob2 hb
  refine Sx.p (pV_q e_h42) (fun _ _ _ k => op_put pX12_415 dX12_countsOrders_2 e_h42 (fun _ => rfl) (fun _ => rfl) k) ?_
  refine Sx.o (fun _ _ _ k => ex_aload_n dX12_countsOrders_5 rfl rfl k) ?_
  refine Sx.o (fun _ _ _ k => op_iconst (0 : Int32) dX12_countsOrders_6 (by decide) k) ?_
  obtain ⟨h45, e_h45, hb46⟩ := ob2 hb43
  refine Sx.p (pV_q e_h45) (fun _ _ _ k => op_put pX12_418 dX12_countsOrders_7 e_h45 (fun _ => rfl) (fun _ => rfl) k) ?_
  refine Sx.o (fun _ _ _ k => ex_aload_n dX12_countsOrders_10 rfl rfl k) ?_
  refine Sx.o (fun _ _ _ k => ex_aload_n dX12_countsOrders_11 rfl rfl k) ?_
  refine Sx.o (fun _ _ _ k => ex_iload_n dX12_countsOrders_12 rfl k) ?_
  obtain ⟨x48, e_x48, hb49⟩ := ob2 hb46
  refine sx_callV (dc := 1) (as := [.int v1]) (stq := [.int x48, .ref v0]) (by omega) dX12_countsOrders_13 MX12_manyIn kX12_316 iX12_manyIn sX12_manyIn rfl rfl (Ref_manyIn_o e_x48) rfl rfl (Nat.le_of_ble_eq_true rfl) (Nat.le_of_ble_eq_true rfl) (Ref_manyIn_s e_x48) rfl ?_
  refine Sx.o (fun _ _ _ k => ex_iload_n dX12_countsOrders_16 rfl k) ?_
  refine Sx.o (fun _ _ _ k => ex_isub dX12_countsOrders_17 k) ?_
  obtain ⟨h50, e_h50, hb51⟩ := ob2 hb49
  refine sx_callV (dc := 0) (as := [.int (x48 - v2)]) (stq := []) (by omega) dX12_countsOrders_18 MX12_firstOrder kX12_381 iX12_firstOrder sX12_firstOrder rfl rfl (Ref_firstOrder_o e_h50) rfl rfl (Nat.le_of_ble_eq_true rfl) (Nat.le_of_ble_eq_true rfl) (Ref_firstOrder_s e_h50) rfl ?_
  refine Sx.o (fun _ _ _ k => op_iconst (1 : Int32) dX12_countsOrders_21 (by decide) k) ?_
  refine Sx.o (L' := [.ref v0, .int v1, .int v2, .int v3, .int (1 : Int32), .retAddr 0]) (fun _ _ _ k => ex_istore dX12_countsOrders_22 (by decide) k) ?_
  exact Ref_countsOrders_24_s hb51
set_option maxHeartbeats 1000000 in
set_option maxRecDepth 100000 in
theorem Ref_countsOrders_q {v0 : Nat} {v1 : Int32} {v2 : Int32} {v3 : Int32} {h : am_H} {r : am_H} (hb : Ref_countsOrders v0 v1 v2 v3 h = some r) : Eqs h r := by
  unfold Ref_countsOrders at hb
  have hb := (iz hb).2
  have w0 := Eqs.rf h
  obtain ⟨h42, e_h42, hb43⟩ := ob2 hb
  have w44 := w0.tr (pV_q e_h42)
  obtain ⟨h45, e_h45, hb46⟩ := ob2 hb43
  have w47 := w44.tr (pV_q e_h45)
  obtain ⟨x48, e_x48, hb49⟩ := ob2 hb46
  obtain ⟨h50, e_h50, hb51⟩ := ob2 hb49
  have w52 := w47.tr (Ref_firstOrder_q e_h50)
  exact w52.tr (Ref_countsOrders_24_q hb51)
theorem Ref_countsOrders_o {v0 : Nat} {v1 : Int32} {v2 : Int32} {v3 : Int32} {h : am_H} {r : am_H} (hb : Ref_countsOrders v0 v1 v2 v3 h = some r) : isO h 12 v0 = true := by
  unfold Ref_countsOrders at hb
  exact (iz hb).1
set_option maxHeartbeats 1000000 in
set_option maxRecDepth 100000 in
noncomputable def Ref_keeps_54_b (g : (Nat × Int32 × Int32 × Int32 × Nat × am_H) → Option am_H) (v0 : Nat) (v1 : Int32) (v2 : Int32) (v3 : Int32) (h : am_H) : Option am_H := if (97 : Int32) ≤ v3 then (gR h 12 v0 37).bind fun x3 => (gI h 12 v0 39).bind fun x5 => (sI h x3 ((v2 * x5) + (97 : Int32)) v1).bind fun h7 => (gI h7 12 v0 39).bind fun x10 => (pV h7 12 v0 39 (.int (x10 + (1 : Int32)))).bind fun h12 => some h12 else (gR h 12 v0 37).bind fun x15 => (gI h 12 v0 39).bind fun x17 => (gR h 12 v0 2).bind fun x19 => (aI h 0 x19 v3).bind fun x21 => (sI h x15 ((v2 * x17) + v3) x21).bind fun h23 => g (54, v1, v2, (v3 + (1 : Int32)), v0, h23)
set_option maxHeartbeats 1000000 in
set_option maxRecDepth 100000 in
theorem Ref_keeps_54_m {g g2 : (Nat × Int32 × Int32 × Int32 × Nat × am_H) → Option am_H} (hg : ∀ s, Le (g s) (g2 s)) (v0 : Nat) (v1 : Int32) (v2 : Int32) (v3 : Int32) (h : am_H) : Le (Ref_keeps_54_b g v0 v1 v2 v3 h) (Ref_keeps_54_b g2 v0 v1 v2 v3 h) := by unfold Ref_keeps_54_b; exact le_i (le_r _) (le_b (le_r _) fun x15 => le_b (le_r _) fun x17 => le_b (le_r _) fun x19 => le_b (le_r _) fun x21 => le_b (le_r _) fun h23 => hg _)
noncomputable def Ref_keeps_54_F (g : (Nat × Int32 × Int32 × Int32 × Nat × am_H) → Option am_H) (s : (Nat × Int32 × Int32 × Int32 × Nat × am_H)) : Option am_H := if s.1 = 54 then Ref_keeps_54_b g s.2.2.2.2.1 s.2.1 s.2.2.1 s.2.2.2.1 s.2.2.2.2.2 else none
theorem Ref_keeps_54_M : Mn Ref_keeps_54_F := fun g g2 hg s => by unfold Ref_keeps_54_F; exact le_i (Ref_keeps_54_m hg s.2.2.2.2.1 s.2.1 s.2.2.1 s.2.2.2.1 s.2.2.2.2.2) (le_r _)
def Ref_keeps_54_P (s : (Nat × Int32 × Int32 × Int32 × Nat × am_H)) (r : am_H) : Prop := (s.1 = 54 → Sx 0 mX12_keeps 54 [.ref s.2.2.2.2.1, .int s.2.1, .int s.2.2.1, .int s.2.2.2.1] [] s.2.2.2.2.2 none r) ∧ True
set_option maxHeartbeats 1000000 in
set_option maxRecDepth 100000 in
theorem Ref_keeps_54_t {g : (Nat × Int32 × Int32 × Int32 × Nat × am_H) → Option am_H} (hg : ∀ s r, g s = some r → Ref_keeps_54_P s r) {v0 : Nat} {v1 : Int32} {v2 : Int32} {v3 : Int32} {h : am_H} {r : am_H} (hb : Ref_keeps_54_b g v0 v1 v2 v3 h = some r) : Sx 0 mX12_keeps 54 [.ref v0, .int v1, .int v2, .int v3] [] h none r := by
  unfold Ref_keeps_54_b at hb
  refine Sx.o (fun _ _ _ k => ex_iload_n dX12_keeps_54 rfl k) ?_
  refine Sx.o (fun _ _ _ k => op_bipush (97 : Int32) dX12_keeps_55 (by decide) k) ?_
  refine Sx.b (fun _ _ _ k1 k2 => ex_icmp_ge 85 dX12_keeps_57 (by decide) k1 k2) (fun q => ?_) (fun q => ?_)
  · have hb1 := ip q hb
    refine Sx.o (fun _ _ _ k => ex_aload_n dX12_keeps_85 rfl rfl k) ?_
    obtain ⟨x3, e_x3, hb4⟩ := ob2 hb1
    refine Sx.o (fun _ _ _ k => op_getR fX12_74 dX12_keeps_86 e_x3 k) ?_
    refine Sx.o (fun _ _ _ k => ex_iload_n dX12_keeps_89 rfl k) ?_
    refine Sx.o (fun _ _ _ k => ex_aload_n dX12_keeps_90 rfl rfl k) ?_
    obtain ⟨x5, e_x5, hb6⟩ := ob2 hb4
    refine Sx.o (fun _ _ _ k => op_getI fX12_11 dX12_keeps_91 e_x5 k) ?_
    refine Sx.o (fun _ _ _ k => ex_imul dX12_keeps_94 k) ?_
    refine Sx.o (fun _ _ _ k => op_bipush (97 : Int32) dX12_keeps_95 (by decide) k) ?_
    refine Sx.o (fun _ _ _ k => ex_iadd dX12_keeps_97 k) ?_
    refine Sx.o (fun _ _ _ k => ex_iload_n dX12_keeps_98 rfl k) ?_
    obtain ⟨h7, e_h7, hb8⟩ := ob2 hb6
    refine Sx.p (sI_q e_h7) (fun _ _ _ k => op_iast dX12_keeps_99 e_h7 k) ?_
    refine Sx.o (fun _ _ _ k => ex_aload_n dX12_keeps_100 rfl rfl k) ?_
    refine Sx.o (fun _ _ _ k => ex_dup dX12_keeps_101 rfl k) ?_
    obtain ⟨x10, e_x10, hb11⟩ := ob2 hb8
    refine Sx.o (fun _ _ _ k => op_getI fX12_11 dX12_keeps_102 e_x10 k) ?_
    refine Sx.o (fun _ _ _ k => op_iconst (1 : Int32) dX12_keeps_105 (by decide) k) ?_
    refine Sx.o (fun _ _ _ k => ex_iadd dX12_keeps_106 k) ?_
    obtain ⟨h12, e_h12, hb13⟩ := ob2 hb11
    refine Sx.p (pV_q e_h12) (fun _ _ _ k => op_put pX12_11 dX12_keeps_107 e_h12 (fun _ => rfl) (fun _ => rfl) k) ?_
    obtain rfl := Option.some.inj hb13
    exact Sx.r (fun _ _ _ k => ex_vret rfl dX12_keeps_110 k)
  · have hb2 := iq q hb
    refine Sx.o (fun _ _ _ k => ex_aload_n dX12_keeps_60 rfl rfl k) ?_
    obtain ⟨x15, e_x15, hb16⟩ := ob2 hb2
    refine Sx.o (fun _ _ _ k => op_getR fX12_74 dX12_keeps_61 e_x15 k) ?_
    refine Sx.o (fun _ _ _ k => ex_iload_n dX12_keeps_64 rfl k) ?_
    refine Sx.o (fun _ _ _ k => ex_aload_n dX12_keeps_65 rfl rfl k) ?_
    obtain ⟨x17, e_x17, hb18⟩ := ob2 hb16
    refine Sx.o (fun _ _ _ k => op_getI fX12_11 dX12_keeps_66 e_x17 k) ?_
    refine Sx.o (fun _ _ _ k => ex_imul dX12_keeps_69 k) ?_
    refine Sx.o (fun _ _ _ k => ex_iload_n dX12_keeps_70 rfl k) ?_
    refine Sx.o (fun _ _ _ k => ex_iadd dX12_keeps_71 k) ?_
    refine Sx.o (fun _ _ _ k => ex_aload_n dX12_keeps_72 rfl rfl k) ?_
    obtain ⟨x19, e_x19, hb20⟩ := ob2 hb18
    refine Sx.o (fun _ _ _ k => op_getR fX12_24 dX12_keeps_73 e_x19 k) ?_
    refine Sx.o (fun _ _ _ k => ex_iload_n dX12_keeps_76 rfl k) ?_
    obtain ⟨x21, e_x21, hb22⟩ := ob2 hb20
    refine Sx.o (fun _ _ _ k => op_iald dX12_keeps_77 e_x21 k) ?_
    obtain ⟨h23, e_h23, hb24⟩ := ob2 hb22
    refine Sx.p (sI_q e_h23) (fun _ _ _ k => op_iast dX12_keeps_78 e_h23 k) ?_
    refine Sx.o (L' := [.ref v0, .int v1, .int v2, .int (v3 + (1 : Int32))]) (fun _ _ _ k => op_iinc (1 : Int32) dX12_keeps_79 (by decide) rfl (by decide) k) ?_
    refine Sx.o (fun _ _ _ k => ex_goto 54 dX12_keeps_82 (by decide) k) ?_
    exact (hg _ _ hb24).1 rfl
theorem Ref_keeps_54_T : ∀ s r, fx Ref_keeps_54_F Ref_keeps_54_M s = some r → Ref_keeps_54_P s r := fx_ind Ref_keeps_54_M Ref_keeps_54_P (fun g hg s r hb => by
  unfold Ref_keeps_54_F at hb
  exact ⟨fun q => Ref_keeps_54_t hg (ip q hb), trivial⟩)
set_option maxHeartbeats 1000000 in
set_option maxRecDepth 100000 in
theorem Ref_keeps_54_r {g : (Nat × Int32 × Int32 × Int32 × Nat × am_H) → Option am_H} (hg : ∀ s r, g s = some r → Eqs s.2.2.2.2.2 r) {v0 : Nat} {v1 : Int32} {v2 : Int32} {v3 : Int32} {h : am_H} {r : am_H} (hb : Ref_keeps_54_b g v0 v1 v2 v3 h = some r) : Eqs h r := by
  unfold Ref_keeps_54_b at hb
  have w0 := Eqs.rf h
  by_cases q : (97 : Int32) ≤ v3
  · have hb1 := ip q hb
    obtain ⟨x3, e_x3, hb4⟩ := ob2 hb1
    obtain ⟨x5, e_x5, hb6⟩ := ob2 hb4
    obtain ⟨h7, e_h7, hb8⟩ := ob2 hb6
    have w9 := w0.tr (sI_q e_h7)
    obtain ⟨x10, e_x10, hb11⟩ := ob2 hb8
    obtain ⟨h12, e_h12, hb13⟩ := ob2 hb11
    have w14 := w9.tr (pV_q e_h12)
    obtain rfl := Option.some.inj hb13
    exact w14
  · have hb2 := iq q hb
    obtain ⟨x15, e_x15, hb16⟩ := ob2 hb2
    obtain ⟨x17, e_x17, hb18⟩ := ob2 hb16
    obtain ⟨x19, e_x19, hb20⟩ := ob2 hb18
    obtain ⟨x21, e_x21, hb22⟩ := ob2 hb20
    obtain ⟨h23, e_h23, hb24⟩ := ob2 hb22
    have w25 := w0.tr (sI_q e_h23)
    exact w25.tr (hg _ _ hb24)
theorem Ref_keeps_54_Q : ∀ s r, fx Ref_keeps_54_F Ref_keeps_54_M s = some r → Eqs s.2.2.2.2.2 r := fx_ind Ref_keeps_54_M (fun s r => Eqs s.2.2.2.2.2 r) (fun g hg s r hb => by
  unfold Ref_keeps_54_F at hb
  by_cases q0 : s.1 = 54
  · exact Ref_keeps_54_r hg (ip q0 hb)
  · have hb0 := iq q0 hb
    exact nomatch hb0)
noncomputable def Ref_keeps_54 (v0 : Nat) (v1 : Int32) (v2 : Int32) (v3 : Int32) (h : am_H) : Option am_H := fx Ref_keeps_54_F Ref_keeps_54_M (54, v1, v2, v3, v0, h)
set_option maxHeartbeats 1000000 in
set_option maxRecDepth 100000 in
theorem Ref_keeps_54_e (v0 : Nat) (v1 : Int32) (v2 : Int32) (v3 : Int32) (h : am_H) : Ref_keeps_54 v0 v1 v2 v3 h = (if (97 : Int32) ≤ v3 then (gR h 12 v0 37).bind fun x3 => (gI h 12 v0 39).bind fun x5 => (sI h x3 ((v2 * x5) + (97 : Int32)) v1).bind fun h7 => (gI h7 12 v0 39).bind fun x10 => (pV h7 12 v0 39 (.int (x10 + (1 : Int32)))).bind fun h12 => some h12 else (gR h 12 v0 37).bind fun x15 => (gI h 12 v0 39).bind fun x17 => (gR h 12 v0 2).bind fun x19 => (aI h 0 x19 v3).bind fun x21 => (sI h x15 ((v2 * x17) + v3) x21).bind fun h23 => Ref_keeps_54 v0 v1 v2 (v3 + (1 : Int32)) h23) := (fx_eq Ref_keeps_54_M (54, v1, v2, v3, v0, h)).trans (if_pos rfl)
theorem Ref_keeps_54_q {v0 : Nat} {v1 : Int32} {v2 : Int32} {v3 : Int32} {h : am_H} {r : am_H} (hb : Ref_keeps_54 v0 v1 v2 v3 h = some r) : Eqs h r := Ref_keeps_54_Q _ _ hb
theorem Ref_keeps_54_s {v0 : Nat} {v1 : Int32} {v2 : Int32} {v3 : Int32} {h : am_H} {r : am_H} (hb : Ref_keeps_54 v0 v1 v2 v3 h = some r) : Sx 0 mX12_keeps 54 [.ref v0, .int v1, .int v2, .int v3] [] h none r := (Ref_keeps_54_T _ _ hb).1 rfl
set_option maxHeartbeats 1000000 in
set_option maxRecDepth 100000 in
noncomputable def Ref_keeps_52 (v0 : Nat) (v1 : Int32) (v2 : Int32) (h : am_H) : Option am_H := Ref_keeps_54 v0 v1 v2 (0 : Int32) h
set_option maxHeartbeats 1000000 in
set_option maxRecDepth 100000 in
theorem Ref_keeps_52_s {v0 : Nat} {v1 : Int32} {v2 : Int32} {h : am_H} {r : am_H} (hb : Ref_keeps_52 v0 v1 v2 h = some r) : Sx 0 mX12_keeps 52 [.ref v0, .int v1, .int v2, .retAddr 0] [] h none r := by
  unfold Ref_keeps_52 at hb
  refine Sx.o (fun _ _ _ k => op_iconst (0 : Int32) dX12_keeps_52 (by decide) k) ?_
  refine Sx.o (L' := [.ref v0, .int v1, .int v2, .int (0 : Int32)]) (fun _ _ _ k => ex_istore_n dX12_keeps_53 (by decide) k) ?_
  exact Ref_keeps_54_s hb
set_option maxHeartbeats 1000000 in
set_option maxRecDepth 100000 in
theorem Ref_keeps_52_q {v0 : Nat} {v1 : Int32} {v2 : Int32} {h : am_H} {r : am_H} (hb : Ref_keeps_52 v0 v1 v2 h = some r) : Eqs h r := by
  unfold Ref_keeps_52 at hb
  have w0 := Eqs.rf h
  exact w0.tr (Ref_keeps_54_q hb)
set_option maxHeartbeats 1000000 in
set_option maxRecDepth 100000 in
noncomputable def Ref_keeps_14_b (g : (Nat × Int32 × Int32 × Int32 × Nat × am_H) → Option am_H) (v0 : Nat) (v1 : Int32) (v2 : Int32) (v3 : Int32) (h : am_H) : Option am_H := if ((15 : Int32) * v2) ≤ v3 then (gI h 12 v0 39).bind fun x28 => (pV h 12 v0 39 (.int (x28 - (1 : Int32)))).bind fun h30 => Ref_keeps_52 v0 v1 v2 h30 else (gR h 12 v0 37).bind fun x33 => (gR h 12 v0 37).bind fun x35 => (aI h 0 x35 (v3 + v2)).bind fun x37 => (sI h x33 v3 x37).bind fun h39 => g (14, v1, v2, (v3 + (1 : Int32)), v0, h39)
set_option maxHeartbeats 1000000 in
set_option maxRecDepth 100000 in
theorem Ref_keeps_14_m {g g2 : (Nat × Int32 × Int32 × Int32 × Nat × am_H) → Option am_H} (hg : ∀ s, Le (g s) (g2 s)) (v0 : Nat) (v1 : Int32) (v2 : Int32) (v3 : Int32) (h : am_H) : Le (Ref_keeps_14_b g v0 v1 v2 v3 h) (Ref_keeps_14_b g2 v0 v1 v2 v3 h) := by unfold Ref_keeps_14_b; exact le_i (le_r _) (le_b (le_r _) fun x33 => le_b (le_r _) fun x35 => le_b (le_r _) fun x37 => le_b (le_r _) fun h39 => hg _)
noncomputable def Ref_keeps_14_F (g : (Nat × Int32 × Int32 × Int32 × Nat × am_H) → Option am_H) (s : (Nat × Int32 × Int32 × Int32 × Nat × am_H)) : Option am_H := if s.1 = 14 then Ref_keeps_14_b g s.2.2.2.2.1 s.2.1 s.2.2.1 s.2.2.2.1 s.2.2.2.2.2 else none
theorem Ref_keeps_14_M : Mn Ref_keeps_14_F := fun g g2 hg s => by unfold Ref_keeps_14_F; exact le_i (Ref_keeps_14_m hg s.2.2.2.2.1 s.2.1 s.2.2.1 s.2.2.2.1 s.2.2.2.2.2) (le_r _)
def Ref_keeps_14_P (s : (Nat × Int32 × Int32 × Int32 × Nat × am_H)) (r : am_H) : Prop := (s.1 = 14 → Sx 0 mX12_keeps 14 [.ref s.2.2.2.2.1, .int s.2.1, .int s.2.2.1, .int s.2.2.2.1] [] s.2.2.2.2.2 none r) ∧ True
set_option maxHeartbeats 1000000 in
set_option maxRecDepth 100000 in
theorem Ref_keeps_14_t {g : (Nat × Int32 × Int32 × Int32 × Nat × am_H) → Option am_H} (hg : ∀ s r, g s = some r → Ref_keeps_14_P s r) {v0 : Nat} {v1 : Int32} {v2 : Int32} {v3 : Int32} {h : am_H} {r : am_H} (hb : Ref_keeps_14_b g v0 v1 v2 v3 h = some r) : Sx 0 mX12_keeps 14 [.ref v0, .int v1, .int v2, .int v3] [] h none r := by
  unfold Ref_keeps_14_b at hb
  refine Sx.o (fun _ _ _ k => ex_iload_n dX12_keeps_14 rfl k) ?_
  refine Sx.o (fun _ _ _ k => op_bipush (15 : Int32) dX12_keeps_15 (by decide) k) ?_
  refine Sx.o (fun _ _ _ k => ex_iload_n dX12_keeps_17 rfl k) ?_
  refine Sx.o (fun _ _ _ k => ex_imul dX12_keeps_18 k) ?_
  refine Sx.b (fun _ _ _ k1 k2 => ex_icmp_ge 42 dX12_keeps_19 (by decide) k1 k2) (fun q => ?_) (fun q => ?_)
  · have hb26 := ip q hb
    refine Sx.o (fun _ _ _ k => ex_aload_n dX12_keeps_42 rfl rfl k) ?_
    refine Sx.o (fun _ _ _ k => ex_dup dX12_keeps_43 rfl k) ?_
    obtain ⟨x28, e_x28, hb29⟩ := ob2 hb26
    refine Sx.o (fun _ _ _ k => op_getI fX12_11 dX12_keeps_44 e_x28 k) ?_
    refine Sx.o (fun _ _ _ k => op_iconst (1 : Int32) dX12_keeps_47 (by decide) k) ?_
    refine Sx.o (fun _ _ _ k => ex_isub dX12_keeps_48 k) ?_
    obtain ⟨h30, e_h30, hb31⟩ := ob2 hb29
    refine Sx.p (pV_q e_h30) (fun _ _ _ k => op_put pX12_11 dX12_keeps_49 e_h30 (fun _ => rfl) (fun _ => rfl) k) ?_
    refine Sx.fg [true, true, true, false] ?_
    exact Ref_keeps_52_s hb31
  · have hb27 := iq q hb
    refine Sx.o (fun _ _ _ k => ex_aload_n dX12_keeps_22 rfl rfl k) ?_
    obtain ⟨x33, e_x33, hb34⟩ := ob2 hb27
    refine Sx.o (fun _ _ _ k => op_getR fX12_74 dX12_keeps_23 e_x33 k) ?_
    refine Sx.o (fun _ _ _ k => ex_iload_n dX12_keeps_26 rfl k) ?_
    refine Sx.o (fun _ _ _ k => ex_aload_n dX12_keeps_27 rfl rfl k) ?_
    obtain ⟨x35, e_x35, hb36⟩ := ob2 hb34
    refine Sx.o (fun _ _ _ k => op_getR fX12_74 dX12_keeps_28 e_x35 k) ?_
    refine Sx.o (fun _ _ _ k => ex_iload_n dX12_keeps_31 rfl k) ?_
    refine Sx.o (fun _ _ _ k => ex_iload_n dX12_keeps_32 rfl k) ?_
    refine Sx.o (fun _ _ _ k => ex_iadd dX12_keeps_33 k) ?_
    obtain ⟨x37, e_x37, hb38⟩ := ob2 hb36
    refine Sx.o (fun _ _ _ k => op_iald dX12_keeps_34 e_x37 k) ?_
    obtain ⟨h39, e_h39, hb40⟩ := ob2 hb38
    refine Sx.p (sI_q e_h39) (fun _ _ _ k => op_iast dX12_keeps_35 e_h39 k) ?_
    refine Sx.o (L' := [.ref v0, .int v1, .int v2, .int (v3 + (1 : Int32))]) (fun _ _ _ k => op_iinc (1 : Int32) dX12_keeps_36 (by decide) rfl (by decide) k) ?_
    refine Sx.o (fun _ _ _ k => ex_goto 14 dX12_keeps_39 (by decide) k) ?_
    exact (hg _ _ hb40).1 rfl
theorem Ref_keeps_14_T : ∀ s r, fx Ref_keeps_14_F Ref_keeps_14_M s = some r → Ref_keeps_14_P s r := fx_ind Ref_keeps_14_M Ref_keeps_14_P (fun g hg s r hb => by
  unfold Ref_keeps_14_F at hb
  exact ⟨fun q => Ref_keeps_14_t hg (ip q hb), trivial⟩)
set_option maxHeartbeats 1000000 in
set_option maxRecDepth 100000 in
theorem Ref_keeps_14_r {g : (Nat × Int32 × Int32 × Int32 × Nat × am_H) → Option am_H} (hg : ∀ s r, g s = some r → Eqs s.2.2.2.2.2 r) {v0 : Nat} {v1 : Int32} {v2 : Int32} {v3 : Int32} {h : am_H} {r : am_H} (hb : Ref_keeps_14_b g v0 v1 v2 v3 h = some r) : Eqs h r := by
  unfold Ref_keeps_14_b at hb
  have w0 := Eqs.rf h
  by_cases q : ((15 : Int32) * v2) ≤ v3
  · have hb26 := ip q hb
    obtain ⟨x28, e_x28, hb29⟩ := ob2 hb26
    obtain ⟨h30, e_h30, hb31⟩ := ob2 hb29
    have w32 := w0.tr (pV_q e_h30)
    exact w32.tr (Ref_keeps_52_q hb31)
  · have hb27 := iq q hb
    obtain ⟨x33, e_x33, hb34⟩ := ob2 hb27
    obtain ⟨x35, e_x35, hb36⟩ := ob2 hb34
    obtain ⟨x37, e_x37, hb38⟩ := ob2 hb36
    obtain ⟨h39, e_h39, hb40⟩ := ob2 hb38
    have w41 := w0.tr (sI_q e_h39)
    exact w41.tr (hg _ _ hb40)
theorem Ref_keeps_14_Q : ∀ s r, fx Ref_keeps_14_F Ref_keeps_14_M s = some r → Eqs s.2.2.2.2.2 r := fx_ind Ref_keeps_14_M (fun s r => Eqs s.2.2.2.2.2 r) (fun g hg s r hb => by
  unfold Ref_keeps_14_F at hb
  by_cases q0 : s.1 = 14
  · exact Ref_keeps_14_r hg (ip q0 hb)
  · have hb0 := iq q0 hb
    exact nomatch hb0)
noncomputable def Ref_keeps_14 (v0 : Nat) (v1 : Int32) (v2 : Int32) (v3 : Int32) (h : am_H) : Option am_H := fx Ref_keeps_14_F Ref_keeps_14_M (14, v1, v2, v3, v0, h)
set_option maxHeartbeats 1000000 in
set_option maxRecDepth 100000 in
theorem Ref_keeps_14_e (v0 : Nat) (v1 : Int32) (v2 : Int32) (v3 : Int32) (h : am_H) : Ref_keeps_14 v0 v1 v2 v3 h = (if ((15 : Int32) * v2) ≤ v3 then (gI h 12 v0 39).bind fun x28 => (pV h 12 v0 39 (.int (x28 - (1 : Int32)))).bind fun h30 => Ref_keeps_52 v0 v1 v2 h30 else (gR h 12 v0 37).bind fun x33 => (gR h 12 v0 37).bind fun x35 => (aI h 0 x35 (v3 + v2)).bind fun x37 => (sI h x33 v3 x37).bind fun h39 => Ref_keeps_14 v0 v1 v2 (v3 + (1 : Int32)) h39) := (fx_eq Ref_keeps_14_M (14, v1, v2, v3, v0, h)).trans (if_pos rfl)
theorem Ref_keeps_14_q {v0 : Nat} {v1 : Int32} {v2 : Int32} {v3 : Int32} {h : am_H} {r : am_H} (hb : Ref_keeps_14 v0 v1 v2 v3 h = some r) : Eqs h r := Ref_keeps_14_Q _ _ hb
theorem Ref_keeps_14_s {v0 : Nat} {v1 : Int32} {v2 : Int32} {v3 : Int32} {h : am_H} {r : am_H} (hb : Ref_keeps_14 v0 v1 v2 v3 h = some r) : Sx 0 mX12_keeps 14 [.ref v0, .int v1, .int v2, .int v3] [] h none r := (Ref_keeps_14_T _ _ hb).1 rfl
set_option maxHeartbeats 1000000 in
set_option maxRecDepth 100000 in
noncomputable def Ref_keeps (v0 : Nat) (v1 : Int32) (h : am_H) : Option am_H := if isO h 12 v0 = true then (gI h 12 v0 39).bind fun x42 => if x42 = (16 : Int32) then Ref_keeps_14 v0 v1 (98 : Int32) (0 : Int32) h else Ref_keeps_52 v0 v1 (98 : Int32) h else none
set_option maxHeartbeats 1000000 in
set_option maxRecDepth 100000 in
theorem Ref_keeps_s {v0 : Nat} {v1 : Int32} {h : am_H} {r : am_H} (hb : Ref_keeps v0 v1 h = some r) : Sx 0 mX12_keeps 0 (am_en [.ref v0, .int v1] 4) [] h none r := by
  unfold Ref_keeps at hb
  have hb := (iz hb).2
  show Sx 0 mX12_keeps 0 [.ref v0, .int v1, .retAddr 0, .retAddr 0] [] h none r
  refine Sx.o (fun _ _ _ k => op_bipush (98 : Int32) dX12_keeps_0 (by decide) k) ?_
  refine Sx.o (L' := [.ref v0, .int v1, .int (98 : Int32), .retAddr 0]) (fun _ _ _ k => ex_istore_n dX12_keeps_2 (by decide) k) ?_
  refine Sx.o (fun _ _ _ k => ex_aload_n dX12_keeps_3 rfl rfl k) ?_
  obtain ⟨x42, e_x42, hb43⟩ := ob2 hb
  refine Sx.o (fun _ _ _ k => op_getI fX12_11 dX12_keeps_4 e_x42 k) ?_
  refine Sx.o (fun _ _ _ k => op_bipush (16 : Int32) dX12_keeps_7 (by decide) k) ?_
  refine Sx.bn (fun _ _ _ k1 k2 => ex_icmp_ne 52 dX12_keeps_9 (by decide) k1 k2) (fun q => ?_) (fun q => ?_)
  · have hb44 := iq q hb43
    exact Ref_keeps_52_s hb44
  · have hb45 := ip q hb43
    refine Sx.o (fun _ _ _ k => op_iconst (0 : Int32) dX12_keeps_12 (by decide) k) ?_
    refine Sx.o (L' := [.ref v0, .int v1, .int (98 : Int32), .int (0 : Int32)]) (fun _ _ _ k => ex_istore_n dX12_keeps_13 (by decide) k) ?_
    exact Ref_keeps_14_s hb45
set_option maxHeartbeats 1000000 in
set_option maxRecDepth 100000 in
theorem Ref_keeps_q {v0 : Nat} {v1 : Int32} {h : am_H} {r : am_H} (hb : Ref_keeps v0 v1 h = some r) : Eqs h r := by
  unfold Ref_keeps at hb
  have hb := (iz hb).2
  have w0 := Eqs.rf h
  obtain ⟨x42, e_x42, hb43⟩ := ob2 hb
  by_cases q : x42 = (16 : Int32)
  · have hb45 := ip q hb43
    exact w0.tr (Ref_keeps_14_q hb45)
  · have hb44 := iq q hb43
    exact w0.tr (Ref_keeps_52_q hb44)
theorem Ref_keeps_o {v0 : Nat} {v1 : Int32} {h : am_H} {r : am_H} (hb : Ref_keeps v0 v1 h = some r) : isO h 12 v0 = true := by
  unfold Ref_keeps at hb
  exact (iz hb).1
set_option maxHeartbeats 1000000 in
set_option maxRecDepth 100000 in
noncomputable def Ref_puts_2_b (g : (Nat × Int32 × Int32 × Nat × am_H) → Option am_H) (v0 : Nat) (v1 : Int32) (v2 : Int32) (h : am_H) : Option am_H := if (13 : Int32) ≤ v2 then (gR h 12 v0 2).bind fun x3 => (Ref_placeOf v1 h).bind fun x5 => (gI h 12 v0 32).bind fun x7 => (sI h x3 (x5 + (2 : Int32)) x7).bind fun h9 => some h9 else (gR h 12 v0 2).bind fun x12 => (Ref_placeOf v1 h).bind fun x14 => (gR h 12 v0 29).bind fun x16 => (aI h 0 x16 v2).bind fun x18 => (sI h x12 ((x14 + (3 : Int32)) + v2) x18).bind fun h20 => g (2, v1, (v2 + (1 : Int32)), v0, h20)
set_option maxHeartbeats 1000000 in
set_option maxRecDepth 100000 in
theorem Ref_puts_2_m {g g2 : (Nat × Int32 × Int32 × Nat × am_H) → Option am_H} (hg : ∀ s, Le (g s) (g2 s)) (v0 : Nat) (v1 : Int32) (v2 : Int32) (h : am_H) : Le (Ref_puts_2_b g v0 v1 v2 h) (Ref_puts_2_b g2 v0 v1 v2 h) := by unfold Ref_puts_2_b; exact le_i (le_r _) (le_b (le_r _) fun x12 => le_b (le_r _) fun x14 => le_b (le_r _) fun x16 => le_b (le_r _) fun x18 => le_b (le_r _) fun h20 => hg _)
noncomputable def Ref_puts_2_F (g : (Nat × Int32 × Int32 × Nat × am_H) → Option am_H) (s : (Nat × Int32 × Int32 × Nat × am_H)) : Option am_H := if s.1 = 2 then Ref_puts_2_b g s.2.2.2.1 s.2.1 s.2.2.1 s.2.2.2.2 else none
theorem Ref_puts_2_M : Mn Ref_puts_2_F := fun g g2 hg s => by unfold Ref_puts_2_F; exact le_i (Ref_puts_2_m hg s.2.2.2.1 s.2.1 s.2.2.1 s.2.2.2.2) (le_r _)
def Ref_puts_2_P (s : (Nat × Int32 × Int32 × Nat × am_H)) (r : am_H) : Prop := (s.1 = 2 → Sx 1 mX12_puts 2 [.ref s.2.2.2.1, .int s.2.1, .int s.2.2.1] [] s.2.2.2.2 none r) ∧ True
set_option maxHeartbeats 1000000 in
set_option maxRecDepth 100000 in
theorem Ref_puts_2_t {g : (Nat × Int32 × Int32 × Nat × am_H) → Option am_H} (hg : ∀ s r, g s = some r → Ref_puts_2_P s r) {v0 : Nat} {v1 : Int32} {v2 : Int32} {h : am_H} {r : am_H} (hb : Ref_puts_2_b g v0 v1 v2 h = some r) : Sx 1 mX12_puts 2 [.ref v0, .int v1, .int v2] [] h none r := by
  unfold Ref_puts_2_b at hb
  refine Sx.o (fun _ _ _ k => ex_iload_n dX12_puts_2 rfl k) ?_
  refine Sx.o (fun _ _ _ k => op_bipush (13 : Int32) dX12_puts_3 (by decide) k) ?_
  refine Sx.b (fun _ _ _ k1 k2 => ex_icmp_ge 33 dX12_puts_5 (by decide) k1 k2) (fun q => ?_) (fun q => ?_)
  · have hb1 := ip q hb
    refine Sx.o (fun _ _ _ k => ex_aload_n dX12_puts_33 rfl rfl k) ?_
    obtain ⟨x3, e_x3, hb4⟩ := ob2 hb1
    refine Sx.o (fun _ _ _ k => op_getR fX12_24 dX12_puts_34 e_x3 k) ?_
    refine Sx.o (fun _ _ _ k => ex_iload_n dX12_puts_37 rfl k) ?_
    obtain ⟨x5, e_x5, hb6⟩ := ob2 hb4
    refine sx_callS (dc := 0) (as := [.int v1]) (stq := [.int x5, .ref x3]) (by omega) dX12_puts_38 MX12_placeOf kX12_112 tX12_placeOf rfl rfl (Nat.le_of_ble_eq_true rfl) (Nat.le_of_ble_eq_true rfl) (Ref_placeOf_s e_x5) rfl ?_
    refine Sx.o (fun _ _ _ k => op_iconst (2 : Int32) dX12_puts_41 (by decide) k) ?_
    refine Sx.o (fun _ _ _ k => ex_iadd dX12_puts_42 k) ?_
    refine Sx.o (fun _ _ _ k => ex_aload_n dX12_puts_43 rfl rfl k) ?_
    obtain ⟨x7, e_x7, hb8⟩ := ob2 hb6
    refine Sx.o (fun _ _ _ k => op_getI fX12_133 dX12_puts_44 e_x7 k) ?_
    obtain ⟨h9, e_h9, hb10⟩ := ob2 hb8
    refine Sx.p (sI_q e_h9) (fun _ _ _ k => op_iast dX12_puts_47 e_h9 k) ?_
    obtain rfl := Option.some.inj hb10
    exact Sx.r (fun _ _ _ k => ex_vret rfl dX12_puts_48 k)
  · have hb2 := iq q hb
    refine Sx.o (fun _ _ _ k => ex_aload_n dX12_puts_8 rfl rfl k) ?_
    obtain ⟨x12, e_x12, hb13⟩ := ob2 hb2
    refine Sx.o (fun _ _ _ k => op_getR fX12_24 dX12_puts_9 e_x12 k) ?_
    refine Sx.o (fun _ _ _ k => ex_iload_n dX12_puts_12 rfl k) ?_
    obtain ⟨x14, e_x14, hb15⟩ := ob2 hb13
    refine sx_callS (dc := 0) (as := [.int v1]) (stq := [.int x14, .ref x12]) (by omega) dX12_puts_13 MX12_placeOf kX12_112 tX12_placeOf rfl rfl (Nat.le_of_ble_eq_true rfl) (Nat.le_of_ble_eq_true rfl) (Ref_placeOf_s e_x14) rfl ?_
    refine Sx.o (fun _ _ _ k => op_iconst (3 : Int32) dX12_puts_16 (by decide) k) ?_
    refine Sx.o (fun _ _ _ k => ex_iadd dX12_puts_17 k) ?_
    refine Sx.o (fun _ _ _ k => ex_iload_n dX12_puts_18 rfl k) ?_
    refine Sx.o (fun _ _ _ k => ex_iadd dX12_puts_19 k) ?_
    refine Sx.o (fun _ _ _ k => ex_aload_n dX12_puts_20 rfl rfl k) ?_
    obtain ⟨x16, e_x16, hb17⟩ := ob2 hb15
    refine Sx.o (fun _ _ _ k => op_getR fX12_65 dX12_puts_21 e_x16 k) ?_
    refine Sx.o (fun _ _ _ k => ex_iload_n dX12_puts_24 rfl k) ?_
    obtain ⟨x18, e_x18, hb19⟩ := ob2 hb17
    refine Sx.o (fun _ _ _ k => op_iald dX12_puts_25 e_x18 k) ?_
    obtain ⟨h20, e_h20, hb21⟩ := ob2 hb19
    refine Sx.p (sI_q e_h20) (fun _ _ _ k => op_iast dX12_puts_26 e_h20 k) ?_
    refine Sx.o (L' := [.ref v0, .int v1, .int (v2 + (1 : Int32))]) (fun _ _ _ k => op_iinc (1 : Int32) dX12_puts_27 (by decide) rfl (by decide) k) ?_
    refine Sx.o (fun _ _ _ k => ex_goto 2 dX12_puts_30 (by decide) k) ?_
    exact (hg _ _ hb21).1 rfl
theorem Ref_puts_2_T : ∀ s r, fx Ref_puts_2_F Ref_puts_2_M s = some r → Ref_puts_2_P s r := fx_ind Ref_puts_2_M Ref_puts_2_P (fun g hg s r hb => by
  unfold Ref_puts_2_F at hb
  exact ⟨fun q => Ref_puts_2_t hg (ip q hb), trivial⟩)
set_option maxHeartbeats 1000000 in
set_option maxRecDepth 100000 in
theorem Ref_puts_2_r {g : (Nat × Int32 × Int32 × Nat × am_H) → Option am_H} (hg : ∀ s r, g s = some r → Eqs s.2.2.2.2 r) {v0 : Nat} {v1 : Int32} {v2 : Int32} {h : am_H} {r : am_H} (hb : Ref_puts_2_b g v0 v1 v2 h = some r) : Eqs h r := by
  unfold Ref_puts_2_b at hb
  have w0 := Eqs.rf h
  by_cases q : (13 : Int32) ≤ v2
  · have hb1 := ip q hb
    obtain ⟨x3, e_x3, hb4⟩ := ob2 hb1
    obtain ⟨x5, e_x5, hb6⟩ := ob2 hb4
    obtain ⟨x7, e_x7, hb8⟩ := ob2 hb6
    obtain ⟨h9, e_h9, hb10⟩ := ob2 hb8
    have w11 := w0.tr (sI_q e_h9)
    obtain rfl := Option.some.inj hb10
    exact w11
  · have hb2 := iq q hb
    obtain ⟨x12, e_x12, hb13⟩ := ob2 hb2
    obtain ⟨x14, e_x14, hb15⟩ := ob2 hb13
    obtain ⟨x16, e_x16, hb17⟩ := ob2 hb15
    obtain ⟨x18, e_x18, hb19⟩ := ob2 hb17
    obtain ⟨h20, e_h20, hb21⟩ := ob2 hb19
    have w22 := w0.tr (sI_q e_h20)
    exact w22.tr (hg _ _ hb21)
theorem Ref_puts_2_Q : ∀ s r, fx Ref_puts_2_F Ref_puts_2_M s = some r → Eqs s.2.2.2.2 r := fx_ind Ref_puts_2_M (fun s r => Eqs s.2.2.2.2 r) (fun g hg s r hb => by
  unfold Ref_puts_2_F at hb
  by_cases q0 : s.1 = 2
  · exact Ref_puts_2_r hg (ip q0 hb)
  · have hb0 := iq q0 hb
    exact nomatch hb0)
noncomputable def Ref_puts_2 (v0 : Nat) (v1 : Int32) (v2 : Int32) (h : am_H) : Option am_H := fx Ref_puts_2_F Ref_puts_2_M (2, v1, v2, v0, h)
set_option maxHeartbeats 1000000 in
set_option maxRecDepth 100000 in
theorem Ref_puts_2_e (v0 : Nat) (v1 : Int32) (v2 : Int32) (h : am_H) : Ref_puts_2 v0 v1 v2 h = (if (13 : Int32) ≤ v2 then (gR h 12 v0 2).bind fun x3 => (Ref_placeOf v1 h).bind fun x5 => (gI h 12 v0 32).bind fun x7 => (sI h x3 (x5 + (2 : Int32)) x7).bind fun h9 => some h9 else (gR h 12 v0 2).bind fun x12 => (Ref_placeOf v1 h).bind fun x14 => (gR h 12 v0 29).bind fun x16 => (aI h 0 x16 v2).bind fun x18 => (sI h x12 ((x14 + (3 : Int32)) + v2) x18).bind fun h20 => Ref_puts_2 v0 v1 (v2 + (1 : Int32)) h20) := (fx_eq Ref_puts_2_M (2, v1, v2, v0, h)).trans (if_pos rfl)
theorem Ref_puts_2_q {v0 : Nat} {v1 : Int32} {v2 : Int32} {h : am_H} {r : am_H} (hb : Ref_puts_2 v0 v1 v2 h = some r) : Eqs h r := Ref_puts_2_Q _ _ hb
theorem Ref_puts_2_s {v0 : Nat} {v1 : Int32} {v2 : Int32} {h : am_H} {r : am_H} (hb : Ref_puts_2 v0 v1 v2 h = some r) : Sx 1 mX12_puts 2 [.ref v0, .int v1, .int v2] [] h none r := (Ref_puts_2_T _ _ hb).1 rfl
set_option maxHeartbeats 1000000 in
set_option maxRecDepth 100000 in
noncomputable def Ref_puts (v0 : Nat) (v1 : Int32) (h : am_H) : Option am_H := if isO h 12 v0 = true then Ref_puts_2 v0 v1 (0 : Int32) h else none
set_option maxHeartbeats 1000000 in
set_option maxRecDepth 100000 in
theorem Ref_puts_s {v0 : Nat} {v1 : Int32} {h : am_H} {r : am_H} (hb : Ref_puts v0 v1 h = some r) : Sx 1 mX12_puts 0 (am_en [.ref v0, .int v1] 3) [] h none r := by
  unfold Ref_puts at hb
  have hb := (iz hb).2
  show Sx 1 mX12_puts 0 [.ref v0, .int v1, .retAddr 0] [] h none r
  refine Sx.o (fun _ _ _ k => op_iconst (0 : Int32) dX12_puts_0 (by decide) k) ?_
  refine Sx.o (L' := [.ref v0, .int v1, .int (0 : Int32)]) (fun _ _ _ k => ex_istore_n dX12_puts_1 (by decide) k) ?_
  exact Ref_puts_2_s hb
set_option maxHeartbeats 1000000 in
set_option maxRecDepth 100000 in
theorem Ref_puts_q {v0 : Nat} {v1 : Int32} {h : am_H} {r : am_H} (hb : Ref_puts v0 v1 h = some r) : Eqs h r := by
  unfold Ref_puts at hb
  have hb := (iz hb).2
  have w0 := Eqs.rf h
  exact w0.tr (Ref_puts_2_q hb)
theorem Ref_puts_o {v0 : Nat} {v1 : Int32} {h : am_H} {r : am_H} (hb : Ref_puts v0 v1 h = some r) : isO h 12 v0 = true := by
  unfold Ref_puts at hb
  exact (iz hb).1
set_option maxHeartbeats 1000000 in
set_option maxRecDepth 100000 in
noncomputable def Ref_cutsKept (v0 : Nat) (v1 : Int32) (v2 : Int32) (h : am_H) : Option (Int32 × am_H) := if isO h 12 v0 = true then (Ref_isHeap v0 v1 h).bind fun x1 => if x1 = (0 : Int32) then some ((-2 : Int32), h) else (Ref_manyIn v0 v1 h).bind fun x5 => (Ref_lies v2 (1 : Int32) x5 h).bind fun x7 => if x7 = (0 : Int32) then some ((-1 : Int32), h) else (Ref_keeps v0 (2 : Int32) h).bind fun h11 => (Ref_takes v0 v1 h11).bind fun h14 => (Ref_sinks v0 v2 h14).bind fun h17 => (Ref_puts v0 v1 h17).bind fun h20 => (gR h20 12 v0 29).bind fun x23 => (aI h20 0 x23 (0 : Int32)).bind fun x25 => some (x25, h20) else none
set_option maxHeartbeats 1000000 in
set_option maxRecDepth 100000 in
theorem Ref_cutsKept_s {v0 : Nat} {v1 : Int32} {v2 : Int32} {h : am_H} {r : (Int32 × am_H)} (hb : Ref_cutsKept v0 v1 v2 h = some r) : Sx 3 mX12_cutsKept 0 (am_en [.ref v0, .int v1, .int v2] 3) [] h (some (.int r.1)) r.2 := by
  unfold Ref_cutsKept at hb
  have hb := (iz hb).2
  show Sx 3 mX12_cutsKept 0 [.ref v0, .int v1, .int v2] [] h (some (.int r.1)) r.2
  refine Sx.o (fun _ _ _ k => ex_aload_n dX12_cutsKept_0 rfl rfl k) ?_
  refine Sx.o (fun _ _ _ k => ex_iload_n dX12_cutsKept_1 rfl k) ?_
  obtain ⟨x1, e_x1, hb2⟩ := ob2 hb
  refine sx_callV (dc := 1) (as := [.int v1]) (stq := [.int x1]) (by omega) dX12_cutsKept_2 MX12_isHeap kX12_122 iX12_isHeap sX12_isHeap rfl rfl (Ref_isHeap_o e_x1) rfl rfl (Nat.le_of_ble_eq_true rfl) (Nat.le_of_ble_eq_true rfl) (Ref_isHeap_s e_x1) rfl ?_
  refine Sx.bn (fun _ _ _ k1 k2 => ex_if_ne 11 dX12_cutsKept_5 (by decide) k1 k2) (fun q => ?_) (fun q => ?_)
  · have hb3 := iq q hb2
    refine Sx.o (fun _ _ _ k => ex_iload_n dX12_cutsKept_11 rfl k) ?_
    refine Sx.o (fun _ _ _ k => op_iconst (1 : Int32) dX12_cutsKept_12 (by decide) k) ?_
    refine Sx.o (fun _ _ _ k => ex_aload_n dX12_cutsKept_13 rfl rfl k) ?_
    refine Sx.o (fun _ _ _ k => ex_iload_n dX12_cutsKept_14 rfl k) ?_
    obtain ⟨x5, e_x5, hb6⟩ := ob2 hb3
    refine sx_callV (dc := 1) (as := [.int v1]) (stq := [.int x5, .int (1 : Int32), .int v2]) (by omega) dX12_cutsKept_15 MX12_manyIn kX12_316 iX12_manyIn sX12_manyIn rfl rfl (Ref_manyIn_o e_x5) rfl rfl (Nat.le_of_ble_eq_true rfl) (Nat.le_of_ble_eq_true rfl) (Ref_manyIn_s e_x5) rfl ?_
    obtain ⟨x7, e_x7, hb8⟩ := ob2 hb6
    refine sx_callS (dc := 0) (as := [.int v2, .int (1 : Int32), .int x5]) (stq := [.int x7]) (by omega) dX12_cutsKept_18 MX12_lies kX12_102 tX12_lies rfl rfl (Nat.le_of_ble_eq_true rfl) (Nat.le_of_ble_eq_true rfl) (Ref_lies_s e_x7) rfl ?_
    refine Sx.bn (fun _ _ _ k1 k2 => ex_if_ne 26 dX12_cutsKept_21 (by decide) k1 k2) (fun q => ?_) (fun q => ?_)
    · have hb9 := iq q hb8
      refine Sx.o (fun _ _ _ k => ex_aload_n dX12_cutsKept_26 rfl rfl k) ?_
      refine Sx.o (fun _ _ _ k => op_iconst (2 : Int32) dX12_cutsKept_27 (by decide) k) ?_
      obtain ⟨h11, e_h11, hb12⟩ := ob2 hb9
      refine sx_callV (dc := 0) (as := [.int (2 : Int32)]) (stq := []) (by omega) dX12_cutsKept_28 MX12_keeps kX12_356 iX12_keeps sX12_keeps rfl rfl (Ref_keeps_o e_h11) rfl rfl (Nat.le_of_ble_eq_true rfl) (Nat.le_of_ble_eq_true rfl) (Ref_keeps_s e_h11) rfl ?_
      refine Sx.o (fun _ _ _ k => ex_aload_n dX12_cutsKept_31 rfl rfl k) ?_
      refine Sx.o (fun _ _ _ k => ex_iload_n dX12_cutsKept_32 rfl k) ?_
      obtain ⟨h14, e_h14, hb15⟩ := ob2 hb12
      refine sx_callV (dc := 2) (as := [.int v1]) (stq := []) (by omega) dX12_cutsKept_33 MX12_takes kX12_126 iX12_takes sX12_takes rfl rfl (Ref_takes_o e_h14) rfl rfl (Nat.le_of_ble_eq_true rfl) (Nat.le_of_ble_eq_true rfl) (Ref_takes_s e_h14) rfl ?_
      refine Sx.o (fun _ _ _ k => ex_aload_n dX12_cutsKept_36 rfl rfl k) ?_
      refine Sx.o (fun _ _ _ k => ex_iload_n dX12_cutsKept_37 rfl k) ?_
      obtain ⟨h17, e_h17, hb18⟩ := ob2 hb15
      refine sx_callV (dc := 0) (as := [.int v2]) (stq := []) (by omega) dX12_cutsKept_38 MX12_sinks kX12_330 iX12_sinks sX12_sinks rfl rfl (Ref_sinks_o e_h17) rfl rfl (Nat.le_of_ble_eq_true rfl) (Nat.le_of_ble_eq_true rfl) (Ref_sinks_s e_h17) rfl ?_
      refine Sx.o (fun _ _ _ k => ex_aload_n dX12_cutsKept_41 rfl rfl k) ?_
      refine Sx.o (fun _ _ _ k => ex_iload_n dX12_cutsKept_42 rfl k) ?_
      obtain ⟨h20, e_h20, hb21⟩ := ob2 hb18
      refine sx_callV (dc := 1) (as := [.int v1]) (stq := []) (by omega) dX12_cutsKept_43 MX12_puts kX12_359 iX12_puts sX12_puts rfl rfl (Ref_puts_o e_h20) rfl rfl (Nat.le_of_ble_eq_true rfl) (Nat.le_of_ble_eq_true rfl) (Ref_puts_s e_h20) rfl ?_
      refine Sx.o (fun _ _ _ k => ex_aload_n dX12_cutsKept_46 rfl rfl k) ?_
      obtain ⟨x23, e_x23, hb24⟩ := ob2 hb21
      refine Sx.o (fun _ _ _ k => op_getR fX12_65 dX12_cutsKept_47 e_x23 k) ?_
      refine Sx.o (fun _ _ _ k => op_iconst (0 : Int32) dX12_cutsKept_50 (by decide) k) ?_
      obtain ⟨x25, e_x25, hb26⟩ := ob2 hb24
      refine Sx.o (fun _ _ _ k => op_iald dX12_cutsKept_51 e_x25 k) ?_
      obtain rfl := Option.some.inj hb26
      exact Sx.r (fun _ _ _ k => ex_iret rfl dX12_cutsKept_52 k)
    · have hb10 := ip q hb8
      refine Sx.o (fun _ _ _ k => op_iconst (-1 : Int32) dX12_cutsKept_24 (by decide) k) ?_
      obtain rfl := Option.some.inj hb10
      exact Sx.r (fun _ _ _ k => ex_iret rfl dX12_cutsKept_25 k)
  · have hb4 := ip q hb2
    refine Sx.o (fun _ _ _ k => op_bipush (-2 : Int32) dX12_cutsKept_8 (by decide) k) ?_
    obtain rfl := Option.some.inj hb4
    exact Sx.r (fun _ _ _ k => ex_iret rfl dX12_cutsKept_10 k)
set_option maxHeartbeats 1000000 in
set_option maxRecDepth 100000 in
theorem Ref_cutsKept_q {v0 : Nat} {v1 : Int32} {v2 : Int32} {h : am_H} {r : (Int32 × am_H)} (hb : Ref_cutsKept v0 v1 v2 h = some r) : Eqs h r.2 := by
  unfold Ref_cutsKept at hb
  have hb := (iz hb).2
  have w0 := Eqs.rf h
  obtain ⟨x1, e_x1, hb2⟩ := ob2 hb
  by_cases q : x1 = (0 : Int32)
  · have hb4 := ip q hb2
    obtain rfl := Option.some.inj hb4
    exact w0
  · have hb3 := iq q hb2
    obtain ⟨x5, e_x5, hb6⟩ := ob2 hb3
    obtain ⟨x7, e_x7, hb8⟩ := ob2 hb6
    by_cases q : x7 = (0 : Int32)
    · have hb10 := ip q hb8
      obtain rfl := Option.some.inj hb10
      exact w0
    · have hb9 := iq q hb8
      obtain ⟨h11, e_h11, hb12⟩ := ob2 hb9
      have w13 := w0.tr (Ref_keeps_q e_h11)
      obtain ⟨h14, e_h14, hb15⟩ := ob2 hb12
      have w16 := w13.tr (Ref_takes_q e_h14)
      obtain ⟨h17, e_h17, hb18⟩ := ob2 hb15
      have w19 := w16.tr (Ref_sinks_q e_h17)
      obtain ⟨h20, e_h20, hb21⟩ := ob2 hb18
      have w22 := w19.tr (Ref_puts_q e_h20)
      obtain ⟨x23, e_x23, hb24⟩ := ob2 hb21
      obtain ⟨x25, e_x25, hb26⟩ := ob2 hb24
      obtain rfl := Option.some.inj hb26
      exact w22
theorem Ref_cutsKept_o {v0 : Nat} {v1 : Int32} {v2 : Int32} {h : am_H} {r : (Int32 × am_H)} (hb : Ref_cutsKept v0 v1 v2 h = some r) : isO h 12 v0 = true := by
  unfold Ref_cutsKept at hb
  exact (iz hb).1
set_option maxHeartbeats 1000000 in
set_option maxRecDepth 100000 in
noncomputable def Ref_goodOr (v0 : Nat) (v1 : Int32) (h : am_H) : Option (Int32 × am_H) := if isO h 12 v0 = true then if (0 : Int32) ≤ v1 then (Ref_good v0 v1 h).bind fun r3 => some (r3.1, r3.2) else (Ref_refuses v0 v1 h).bind fun r6 => some (r6.1, r6.2) else none
set_option maxHeartbeats 1000000 in
set_option maxRecDepth 100000 in
theorem Ref_goodOr_s {v0 : Nat} {v1 : Int32} {h : am_H} {r : (Int32 × am_H)} (hb : Ref_goodOr v0 v1 h = some r) : Sx 1 mX12_goodOr 0 (am_en [.ref v0, .int v1] 2) [] h (some (.int r.1)) r.2 := by
  unfold Ref_goodOr at hb
  have hb := (iz hb).2
  show Sx 1 mX12_goodOr 0 [.ref v0, .int v1] [] h (some (.int r.1)) r.2
  refine Sx.o (fun _ _ _ k => ex_iload_n dX12_goodOr_0 rfl k) ?_
  refine Sx.b (fun _ _ _ k1 k2 => ex_if_ge 12 dX12_goodOr_1 (by decide) k1 k2) (fun q => ?_) (fun q => ?_)
  · have hb1 := ip q hb
    refine Sx.o (fun _ _ _ k => ex_aload_n dX12_goodOr_12 rfl rfl k) ?_
    refine Sx.o (fun _ _ _ k => ex_iload_n dX12_goodOr_13 rfl k) ?_
    obtain ⟨r3, e_r3, hb4⟩ := ob2 hb1
    refine sx_callV (dc := 0) (as := [.int v1]) (stq := [.int r3.1]) (by omega) dX12_goodOr_14 MX12_good kX12_14 iX12_good sX12_good rfl rfl (Ref_good_o e_r3) rfl rfl (Nat.le_of_ble_eq_true rfl) (Nat.le_of_ble_eq_true rfl) (Ref_good_s e_r3) rfl ?_
    obtain rfl := Option.some.inj hb4
    exact Sx.r (fun _ _ _ k => ex_iret rfl dX12_goodOr_17 k)
  · have hb2 := iq q hb
    refine Sx.o (fun _ _ _ k => ex_aload_n dX12_goodOr_4 rfl rfl k) ?_
    refine Sx.o (fun _ _ _ k => ex_iload_n dX12_goodOr_5 rfl k) ?_
    obtain ⟨r6, e_r6, hb7⟩ := ob2 hb2
    refine sx_callV (dc := 0) (as := [.int v1]) (stq := [.int r6.1]) (by omega) dX12_goodOr_6 MX12_refuses kX12_106 iX12_refuses sX12_refuses rfl rfl (Ref_refuses_o e_r6) rfl rfl (Nat.le_of_ble_eq_true rfl) (Nat.le_of_ble_eq_true rfl) (Ref_refuses_s e_r6) rfl ?_
    refine Sx.o (fun _ _ _ k => ex_goto 17 dX12_goodOr_9 (by decide) k) ?_
    obtain rfl := Option.some.inj hb7
    exact Sx.r (fun _ _ _ k => ex_iret rfl dX12_goodOr_17 k)
set_option maxHeartbeats 1000000 in
set_option maxRecDepth 100000 in
theorem Ref_goodOr_q {v0 : Nat} {v1 : Int32} {h : am_H} {r : (Int32 × am_H)} (hb : Ref_goodOr v0 v1 h = some r) : Eqs h r.2 := by
  unfold Ref_goodOr at hb
  have hb := (iz hb).2
  have w0 := Eqs.rf h
  by_cases q : (0 : Int32) ≤ v1
  · have hb1 := ip q hb
    obtain ⟨r3, e_r3, hb4⟩ := ob2 hb1
    have w5 := w0.tr (Ref_good_q e_r3)
    obtain rfl := Option.some.inj hb4
    exact w5
  · have hb2 := iq q hb
    obtain ⟨r6, e_r6, hb7⟩ := ob2 hb2
    have w8 := w0.tr (Ref_refuses_q e_r6)
    obtain rfl := Option.some.inj hb7
    exact w8
theorem Ref_goodOr_o {v0 : Nat} {v1 : Int32} {h : am_H} {r : (Int32 × am_H)} (hb : Ref_goodOr v0 v1 h = some r) : isO h 12 v0 = true := by
  unfold Ref_goodOr at hb
  exact (iz hb).1
set_option maxHeartbeats 1000000 in
set_option maxRecDepth 100000 in
noncomputable def Ref_cut (v0 : Nat) (v1 : Int32) (v2 : Int32) (h : am_H) : Option (Int32 × am_H) := if isO h 12 v0 = true then (Ref_cutsKept v0 v1 v2 h).bind fun r1 => (Ref_goodOr v0 r1.1 r1.2).bind fun r4 => some (r4.1, r4.2) else none
set_option maxHeartbeats 1000000 in
set_option maxRecDepth 100000 in
theorem Ref_cut_s {v0 : Nat} {v1 : Int32} {v2 : Int32} {h : am_H} {r : (Int32 × am_H)} (hb : Ref_cut v0 v1 v2 h = some r) : Sx 4 mX12_cut 0 (am_en [.ref v0, .int v1, .int v2] 3) [] h (some (.int r.1)) r.2 := by
  unfold Ref_cut at hb
  have hb := (iz hb).2
  show Sx 4 mX12_cut 0 [.ref v0, .int v1, .int v2] [] h (some (.int r.1)) r.2
  refine Sx.o (fun _ _ _ k => ex_aload_n dX12_cut_0 rfl rfl k) ?_
  refine Sx.o (fun _ _ _ k => ex_aload_n dX12_cut_1 rfl rfl k) ?_
  refine Sx.o (fun _ _ _ k => ex_iload_n dX12_cut_2 rfl k) ?_
  refine Sx.o (fun _ _ _ k => ex_iload_n dX12_cut_3 rfl k) ?_
  obtain ⟨r1, e_r1, hb2⟩ := ob2 hb
  refine sx_callV (dc := 3) (as := [.int v1, .int v2]) (stq := [.int r1.1, .ref v0]) (by omega) dX12_cut_4 MX12_cutsKept kX12_375 iX12_cutsKept sX12_cutsKept rfl rfl (Ref_cutsKept_o e_r1) rfl rfl (Nat.le_of_ble_eq_true rfl) (Nat.le_of_ble_eq_true rfl) (Ref_cutsKept_s e_r1) rfl ?_
  obtain ⟨r4, e_r4, hb5⟩ := ob2 hb2
  refine sx_callV (dc := 1) (as := [.int r1.1]) (stq := [.int r4.1]) (by omega) dX12_cut_7 MX12_goodOr kX12_368 iX12_goodOr sX12_goodOr rfl rfl (Ref_goodOr_o e_r4) rfl rfl (Nat.le_of_ble_eq_true rfl) (Nat.le_of_ble_eq_true rfl) (Ref_goodOr_s e_r4) rfl ?_
  obtain rfl := Option.some.inj hb5
  exact Sx.r (fun _ _ _ k => ex_iret rfl dX12_cut_10 k)
set_option maxHeartbeats 1000000 in
set_option maxRecDepth 100000 in
theorem Ref_cut_q {v0 : Nat} {v1 : Int32} {v2 : Int32} {h : am_H} {r : (Int32 × am_H)} (hb : Ref_cut v0 v1 v2 h = some r) : Eqs h r.2 := by
  unfold Ref_cut at hb
  have hb := (iz hb).2
  have w0 := Eqs.rf h
  obtain ⟨r1, e_r1, hb2⟩ := ob2 hb
  have w3 := w0.tr (Ref_cutsKept_q e_r1)
  obtain ⟨r4, e_r4, hb5⟩ := ob2 hb2
  have w6 := w3.tr (Ref_goodOr_q e_r4)
  obtain rfl := Option.some.inj hb5
  exact w6
theorem Ref_cut_o {v0 : Nat} {v1 : Int32} {v2 : Int32} {h : am_H} {r : (Int32 × am_H)} (hb : Ref_cut v0 v1 v2 h = some r) : isO h 12 v0 = true := by
  unfold Ref_cut at hb
  exact (iz hb).1
set_option maxHeartbeats 1000000 in
set_option maxRecDepth 100000 in
noncomputable def Ref_drawn (v0 : Nat) (v1 : Int32) (h : am_H) : Option Int32 := if isO h 12 v0 = true then (gI h 12 v0 54).bind fun x1 => if x1 = (-1 : Int32) then some (-1 : Int32) else (gI h 12 v0 54).bind fun x5 => (Ref_lies v1 (0 : Int32) ((1 : Int32) + x5) h).bind fun x7 => if x7 = (0 : Int32) then some (-1 : Int32) else if v1 = (0 : Int32) then (gI h 12 v0 55).bind fun x21 => some x21 else if v1 = (1 : Int32) then (gI h 12 v0 56).bind fun x19 => some x19 else (gR h 12 v0 53).bind fun x15 => (aI h 0 x15 (v1 - (2 : Int32))).bind fun x17 => some x17 else none
set_option maxHeartbeats 1000000 in
set_option maxRecDepth 100000 in
theorem Ref_drawn_s {v0 : Nat} {v1 : Int32} {h : am_H} {r : Int32} (hb : Ref_drawn v0 v1 h = some r) : Sx 1 mX12_drawn 0 (am_en [.ref v0, .int v1] 2) [] h (some (.int r)) h := by
  unfold Ref_drawn at hb
  have hb := (iz hb).2
  show Sx 1 mX12_drawn 0 [.ref v0, .int v1] [] h (some (.int r)) h
  refine Sx.o (fun _ _ _ k => ex_aload_n dX12_drawn_0 rfl rfl k) ?_
  obtain ⟨x1, e_x1, hb2⟩ := ob2 hb
  refine Sx.o (fun _ _ _ k => op_getI fX12_99 dX12_drawn_1 e_x1 k) ?_
  refine Sx.o (fun _ _ _ k => op_iconst (-1 : Int32) dX12_drawn_4 (by decide) k) ?_
  refine Sx.b (fun _ _ _ k1 k2 => ex_icmp_eq 22 dX12_drawn_5 (by decide) k1 k2) (fun q => ?_) (fun q => ?_)
  · have hb3 := ip q hb2
    refine Sx.o (fun _ _ _ k => op_iconst (-1 : Int32) dX12_drawn_22 (by decide) k) ?_
    refine Sx.o (fun _ _ _ k => ex_goto 57 dX12_drawn_23 (by decide) k) ?_
    obtain rfl := Option.some.inj hb3
    exact Sx.r (fun _ _ _ k => ex_iret rfl dX12_drawn_57 k)
  · have hb4 := iq q hb2
    refine Sx.o (fun _ _ _ k => ex_iload_n dX12_drawn_8 rfl k) ?_
    refine Sx.o (fun _ _ _ k => op_iconst (0 : Int32) dX12_drawn_9 (by decide) k) ?_
    refine Sx.o (fun _ _ _ k => op_iconst (1 : Int32) dX12_drawn_10 (by decide) k) ?_
    refine Sx.o (fun _ _ _ k => ex_aload_n dX12_drawn_11 rfl rfl k) ?_
    obtain ⟨x5, e_x5, hb6⟩ := ob2 hb4
    refine Sx.o (fun _ _ _ k => op_getI fX12_99 dX12_drawn_12 e_x5 k) ?_
    refine Sx.o (fun _ _ _ k => ex_iadd dX12_drawn_15 k) ?_
    obtain ⟨x7, e_x7, hb8⟩ := ob2 hb6
    refine sx_callS (dc := 0) (as := [.int v1, .int (0 : Int32), .int ((1 : Int32) + x5)]) (stq := [.int x7]) (by omega) dX12_drawn_16 MX12_lies kX12_102 tX12_lies rfl rfl (Nat.le_of_ble_eq_true rfl) (Nat.le_of_ble_eq_true rfl) (Ref_lies_s e_x7) rfl ?_
    refine Sx.bn (fun _ _ _ k1 k2 => ex_if_ne 26 dX12_drawn_19 (by decide) k1 k2) (fun q => ?_) (fun q => ?_)
    · have hb9 := iq q hb8
      refine Sx.o (fun _ _ _ k => ex_iload_n dX12_drawn_26 rfl k) ?_
      refine Sx.bn (fun _ _ _ k1 k2 => ex_if_ne 37 dX12_drawn_27 (by decide) k1 k2) (fun q => ?_) (fun q => ?_)
      · have hb11 := iq q hb9
        refine Sx.o (fun _ _ _ k => ex_iload_n dX12_drawn_37 rfl k) ?_
        refine Sx.o (fun _ _ _ k => op_iconst (1 : Int32) dX12_drawn_38 (by decide) k) ?_
        refine Sx.bn (fun _ _ _ k1 k2 => ex_icmp_ne 49 dX12_drawn_39 (by decide) k1 k2) (fun q => ?_) (fun q => ?_)
        · have hb13 := iq q hb11
          refine Sx.o (fun _ _ _ k => ex_aload_n dX12_drawn_49 rfl rfl k) ?_
          obtain ⟨x15, e_x15, hb16⟩ := ob2 hb13
          refine Sx.o (fun _ _ _ k => op_getR fX12_96 dX12_drawn_50 e_x15 k) ?_
          refine Sx.o (fun _ _ _ k => ex_iload_n dX12_drawn_53 rfl k) ?_
          refine Sx.o (fun _ _ _ k => op_iconst (2 : Int32) dX12_drawn_54 (by decide) k) ?_
          refine Sx.o (fun _ _ _ k => ex_isub dX12_drawn_55 k) ?_
          obtain ⟨x17, e_x17, hb18⟩ := ob2 hb16
          refine Sx.o (fun _ _ _ k => op_iald dX12_drawn_56 e_x17 k) ?_
          obtain rfl := Option.some.inj hb18
          exact Sx.r (fun _ _ _ k => ex_iret rfl dX12_drawn_57 k)
        · have hb14 := ip q hb11
          refine Sx.o (fun _ _ _ k => ex_aload_n dX12_drawn_42 rfl rfl k) ?_
          obtain ⟨x19, e_x19, hb20⟩ := ob2 hb14
          refine Sx.o (fun _ _ _ k => op_getI fX12_476 dX12_drawn_43 e_x19 k) ?_
          refine Sx.o (fun _ _ _ k => ex_goto 57 dX12_drawn_46 (by decide) k) ?_
          obtain rfl := Option.some.inj hb20
          exact Sx.r (fun _ _ _ k => ex_iret rfl dX12_drawn_57 k)
      · have hb12 := ip q hb9
        refine Sx.o (fun _ _ _ k => ex_aload_n dX12_drawn_30 rfl rfl k) ?_
        obtain ⟨x21, e_x21, hb22⟩ := ob2 hb12
        refine Sx.o (fun _ _ _ k => op_getI fX12_473 dX12_drawn_31 e_x21 k) ?_
        refine Sx.o (fun _ _ _ k => ex_goto 57 dX12_drawn_34 (by decide) k) ?_
        obtain rfl := Option.some.inj hb22
        exact Sx.r (fun _ _ _ k => ex_iret rfl dX12_drawn_57 k)
    · have hb10 := ip q hb8
      refine Sx.o (fun _ _ _ k => op_iconst (-1 : Int32) dX12_drawn_22 (by decide) k) ?_
      refine Sx.o (fun _ _ _ k => ex_goto 57 dX12_drawn_23 (by decide) k) ?_
      obtain rfl := Option.some.inj hb10
      exact Sx.r (fun _ _ _ k => ex_iret rfl dX12_drawn_57 k)
theorem Ref_drawn_o {v0 : Nat} {v1 : Int32} {h : am_H} {r : Int32} (hb : Ref_drawn v0 v1 h = some r) : isO h 12 v0 = true := by
  unfold Ref_drawn at hb
  exact (iz hb).1
set_option maxHeartbeats 1000000 in
set_option maxRecDepth 100000 in
noncomputable def Ref_draws (v0 : Nat) (v1 : Int32) (h : am_H) : Option (Int32 × am_H) := if isO h 12 v0 = true then (gI h 12 v0 57).bind fun x1 => (rmJ (((1103 : Int64) * (Int32.toInt64 x1)) + (12345 : Int64)) (1000003 : Int64)).bind fun x3 => (pV h 12 v0 57 (.int (Int64.toInt32 x3))).bind fun h5 => (gI h5 12 v0 57).bind fun x8 => (rmI x8 v1).bind fun x10 => some (x10, h5) else none
set_option maxHeartbeats 1000000 in
set_option maxRecDepth 100000 in
theorem Ref_draws_s {v0 : Nat} {v1 : Int32} {h : am_H} {r : (Int32 × am_H)} (hb : Ref_draws v0 v1 h = some r) : Sx 0 mX12_draws 0 (am_en [.ref v0, .int v1] 2) [] h (some (.int r.1)) r.2 := by
  unfold Ref_draws at hb
  have hb := (iz hb).2
  show Sx 0 mX12_draws 0 [.ref v0, .int v1] [] h (some (.int r.1)) r.2
  refine Sx.o (fun _ _ _ k => ex_aload_n dX12_draws_0 rfl rfl k) ?_
  refine Sx.o (fun _ _ _ k => ex_ldc2 dX12_draws_1 qX12_461 k) ?_
  refine Sx.o (fun _ _ _ k => ex_aload_n dX12_draws_4 rfl rfl k) ?_
  obtain ⟨x1, e_x1, hb2⟩ := ob2 hb
  refine Sx.o (fun _ _ _ k => op_getI fX12_463 dX12_draws_5 e_x1 k) ?_
  refine Sx.o (fun _ _ _ k => ex_i2l dX12_draws_8 k) ?_
  refine Sx.o (fun _ _ _ k => ex_lmul dX12_draws_9 k) ?_
  refine Sx.o (fun _ _ _ k => ex_ldc2 dX12_draws_10 qX12_466 k) ?_
  refine Sx.o (fun _ _ _ k => ex_ladd dX12_draws_13 k) ?_
  refine Sx.o (fun _ _ _ k => ex_ldc2 dX12_draws_14 qX12_468 k) ?_
  obtain ⟨x3, e_x3, hb4⟩ := ob2 hb2
  refine Sx.o (fun _ _ _ k => op_lrem dX12_draws_17 e_x3 k) ?_
  refine Sx.o (fun _ _ _ k => ex_l2i dX12_draws_18 k) ?_
  obtain ⟨h5, e_h5, hb6⟩ := ob2 hb4
  refine Sx.p (pV_q e_h5) (fun _ _ _ k => op_put pX12_463 dX12_draws_19 e_h5 (fun _ => rfl) (fun _ => rfl) k) ?_
  refine Sx.o (fun _ _ _ k => ex_aload_n dX12_draws_22 rfl rfl k) ?_
  obtain ⟨x8, e_x8, hb9⟩ := ob2 hb6
  refine Sx.o (fun _ _ _ k => op_getI fX12_463 dX12_draws_23 e_x8 k) ?_
  refine Sx.o (fun _ _ _ k => ex_iload_n dX12_draws_26 rfl k) ?_
  obtain ⟨x10, e_x10, hb11⟩ := ob2 hb9
  refine Sx.o (fun _ _ _ k => op_irem dX12_draws_27 e_x10 k) ?_
  obtain rfl := Option.some.inj hb11
  exact Sx.r (fun _ _ _ k => ex_iret rfl dX12_draws_28 k)
set_option maxHeartbeats 1000000 in
set_option maxRecDepth 100000 in
theorem Ref_draws_q {v0 : Nat} {v1 : Int32} {h : am_H} {r : (Int32 × am_H)} (hb : Ref_draws v0 v1 h = some r) : Eqs h r.2 := by
  unfold Ref_draws at hb
  have hb := (iz hb).2
  have w0 := Eqs.rf h
  obtain ⟨x1, e_x1, hb2⟩ := ob2 hb
  obtain ⟨x3, e_x3, hb4⟩ := ob2 hb2
  obtain ⟨h5, e_h5, hb6⟩ := ob2 hb4
  have w7 := w0.tr (pV_q e_h5)
  obtain ⟨x8, e_x8, hb9⟩ := ob2 hb6
  obtain ⟨x10, e_x10, hb11⟩ := ob2 hb9
  obtain rfl := Option.some.inj hb11
  exact w7
theorem Ref_draws_o {v0 : Nat} {v1 : Int32} {h : am_H} {r : (Int32 × am_H)} (hb : Ref_draws v0 v1 h = some r) : isO h 12 v0 = true := by
  unfold Ref_draws at hb
  exact (iz hb).1
set_option maxHeartbeats 1000000 in
set_option maxRecDepth 100000 in
noncomputable def Ref_end (v0 : Nat) (v1 : Int32) (h : am_H) : Option (Int32 × am_H) := if isO h 12 v0 = true then (gI h 12 v0 12).bind fun x1 => (Ref_lies v1 (0 : Int32) x1 h).bind fun x3 => if x3 = (0 : Int32) then some ((-1 : Int32), h) else (pV h 12 v0 12 (.int v1)).bind fun h7 => some (v1, h7) else none
set_option maxHeartbeats 1000000 in
set_option maxRecDepth 100000 in
theorem Ref_end_s {v0 : Nat} {v1 : Int32} {h : am_H} {r : (Int32 × am_H)} (hb : Ref_end v0 v1 h = some r) : Sx 1 mX12_end 0 (am_en [.ref v0, .int v1] 2) [] h (some (.int r.1)) r.2 := by
  unfold Ref_end at hb
  have hb := (iz hb).2
  show Sx 1 mX12_end 0 [.ref v0, .int v1] [] h (some (.int r.1)) r.2
  refine Sx.o (fun _ _ _ k => ex_iload_n dX12_end_0 rfl k) ?_
  refine Sx.o (fun _ _ _ k => op_iconst (0 : Int32) dX12_end_1 (by decide) k) ?_
  refine Sx.o (fun _ _ _ k => ex_aload_n dX12_end_2 rfl rfl k) ?_
  obtain ⟨x1, e_x1, hb2⟩ := ob2 hb
  refine Sx.o (fun _ _ _ k => op_getI fX12_115 dX12_end_3 e_x1 k) ?_
  obtain ⟨x3, e_x3, hb4⟩ := ob2 hb2
  refine sx_callS (dc := 0) (as := [.int v1, .int (0 : Int32), .int x1]) (stq := [.int x3]) (by omega) dX12_end_6 MX12_lies kX12_102 tX12_lies rfl rfl (Nat.le_of_ble_eq_true rfl) (Nat.le_of_ble_eq_true rfl) (Ref_lies_s e_x3) rfl ?_
  refine Sx.bn (fun _ _ _ k1 k2 => ex_if_ne 14 dX12_end_9 (by decide) k1 k2) (fun q => ?_) (fun q => ?_)
  · have hb5 := iq q hb4
    refine Sx.o (fun _ _ _ k => ex_aload_n dX12_end_14 rfl rfl k) ?_
    refine Sx.o (fun _ _ _ k => ex_iload_n dX12_end_15 rfl k) ?_
    obtain ⟨h7, e_h7, hb8⟩ := ob2 hb5
    refine Sx.p (pV_q e_h7) (fun _ _ _ k => op_put pX12_115 dX12_end_16 e_h7 (fun _ => rfl) (fun _ => rfl) k) ?_
    refine Sx.o (fun _ _ _ k => ex_iload_n dX12_end_19 rfl k) ?_
    obtain rfl := Option.some.inj hb8
    exact Sx.r (fun _ _ _ k => ex_iret rfl dX12_end_20 k)
  · have hb6 := ip q hb4
    refine Sx.o (fun _ _ _ k => op_iconst (-1 : Int32) dX12_end_12 (by decide) k) ?_
    obtain rfl := Option.some.inj hb6
    exact Sx.r (fun _ _ _ k => ex_iret rfl dX12_end_13 k)
set_option maxHeartbeats 1000000 in
set_option maxRecDepth 100000 in
theorem Ref_end_q {v0 : Nat} {v1 : Int32} {h : am_H} {r : (Int32 × am_H)} (hb : Ref_end v0 v1 h = some r) : Eqs h r.2 := by
  unfold Ref_end at hb
  have hb := (iz hb).2
  have w0 := Eqs.rf h
  obtain ⟨x1, e_x1, hb2⟩ := ob2 hb
  obtain ⟨x3, e_x3, hb4⟩ := ob2 hb2
  by_cases q : x3 = (0 : Int32)
  · have hb6 := ip q hb4
    obtain rfl := Option.some.inj hb6
    exact w0
  · have hb5 := iq q hb4
    obtain ⟨h7, e_h7, hb8⟩ := ob2 hb5
    have w9 := w0.tr (pV_q e_h7)
    obtain rfl := Option.some.inj hb8
    exact w9
theorem Ref_end_o {v0 : Nat} {v1 : Int32} {h : am_H} {r : (Int32 × am_H)} (hb : Ref_end v0 v1 h = some r) : isO h 12 v0 = true := by
  unfold Ref_end at hb
  exact (iz hb).1
set_option maxHeartbeats 1000000 in
set_option maxRecDepth 100000 in
noncomputable def Ref_wasSo_36_b (g : (Nat × Int32 × Int32 × Int32 × Int32 × Nat × am_H) → Option Int32) (v0 : Nat) (v1 : Int32) (v2 : Int32) (v3 : Int32) (v4 : Int32) (h : am_H) : Option Int32 := (gI h 12 v0 31).bind fun x1 => if x1 ≤ v4 then (nrZ v3).bind fun u5 => some v3 else if v3 = (0 : Int32) then (nrZ v3).bind fun u9 => some v3 else (gR h 12 v0 34).bind fun x11 => (aI h 0 x11 (((14 : Int32) * v1) + v4)).bind fun x13 => (gR h 12 v0 34).bind fun x15 => (aI h 0 x15 (((14 : Int32) * v2) + v4)).bind fun x17 => if x13 = x17 then g (81, v1, v2, v4, (1 : Int32), v0, h) else g (81, v1, v2, v4, (0 : Int32), v0, h)
set_option maxHeartbeats 1000000 in
set_option maxRecDepth 100000 in
theorem Ref_wasSo_36_m {g g2 : (Nat × Int32 × Int32 × Int32 × Int32 × Nat × am_H) → Option Int32} (hg : ∀ s, Le (g s) (g2 s)) (v0 : Nat) (v1 : Int32) (v2 : Int32) (v3 : Int32) (v4 : Int32) (h : am_H) : Le (Ref_wasSo_36_b g v0 v1 v2 v3 v4 h) (Ref_wasSo_36_b g2 v0 v1 v2 v3 v4 h) := by unfold Ref_wasSo_36_b; exact le_b (le_r _) fun x1 => le_i (le_r _) (le_i (le_r _) (le_b (le_r _) fun x11 => le_b (le_r _) fun x13 => le_b (le_r _) fun x15 => le_b (le_r _) fun x17 => le_i (hg _) (hg _)))
set_option maxHeartbeats 1000000 in
set_option maxRecDepth 100000 in
noncomputable def Ref_wasSo_81_b (g : (Nat × Int32 × Int32 × Int32 × Int32 × Nat × am_H) → Option Int32) (v0 : Nat) (v1 : Int32) (v2 : Int32) (v4 : Int32) (s0 : Int32) (h : am_H) : Option Int32 := g (36, v1, v2, s0, (v4 + (1 : Int32)), v0, h)
set_option maxHeartbeats 1000000 in
set_option maxRecDepth 100000 in
theorem Ref_wasSo_81_m {g g2 : (Nat × Int32 × Int32 × Int32 × Int32 × Nat × am_H) → Option Int32} (hg : ∀ s, Le (g s) (g2 s)) (v0 : Nat) (v1 : Int32) (v2 : Int32) (v4 : Int32) (s0 : Int32) (h : am_H) : Le (Ref_wasSo_81_b g v0 v1 v2 v4 s0 h) (Ref_wasSo_81_b g2 v0 v1 v2 v4 s0 h) := by unfold Ref_wasSo_81_b; exact hg _
noncomputable def Ref_wasSo_36_F (g : (Nat × Int32 × Int32 × Int32 × Int32 × Nat × am_H) → Option Int32) (s : (Nat × Int32 × Int32 × Int32 × Int32 × Nat × am_H)) : Option Int32 := if s.1 = 36 then Ref_wasSo_36_b g s.2.2.2.2.2.1 s.2.1 s.2.2.1 s.2.2.2.1 s.2.2.2.2.1 s.2.2.2.2.2.2 else if s.1 = 81 then Ref_wasSo_81_b g s.2.2.2.2.2.1 s.2.1 s.2.2.1 s.2.2.2.1 s.2.2.2.2.1 s.2.2.2.2.2.2 else none
theorem Ref_wasSo_36_M : Mn Ref_wasSo_36_F := fun g g2 hg s => by unfold Ref_wasSo_36_F; exact le_i (Ref_wasSo_36_m hg s.2.2.2.2.2.1 s.2.1 s.2.2.1 s.2.2.2.1 s.2.2.2.2.1 s.2.2.2.2.2.2) (le_i (Ref_wasSo_81_m hg s.2.2.2.2.2.1 s.2.1 s.2.2.1 s.2.2.2.1 s.2.2.2.2.1 s.2.2.2.2.2.2) (le_r _))
def Ref_wasSo_36_P (s : (Nat × Int32 × Int32 × Int32 × Int32 × Nat × am_H)) (r : Int32) : Prop := (s.1 = 36 → Sx 0 mX12_wasSo 36 [.ref s.2.2.2.2.2.1, .int s.2.1, .int s.2.2.1, .int s.2.2.2.1, .int s.2.2.2.2.1] [] s.2.2.2.2.2.2 (some (.int r)) s.2.2.2.2.2.2) ∧ (s.1 = 81 → Sx 0 mX12_wasSo 81 [.ref s.2.2.2.2.2.1, .int s.2.1, .int s.2.2.1, .retAddr 0, .int s.2.2.2.1] [.int s.2.2.2.2.1] s.2.2.2.2.2.2 (some (.int r)) s.2.2.2.2.2.2) ∧ True
set_option maxHeartbeats 1000000 in
set_option maxRecDepth 100000 in
theorem Ref_wasSo_36_t {g : (Nat × Int32 × Int32 × Int32 × Int32 × Nat × am_H) → Option Int32} (hg : ∀ s r, g s = some r → Ref_wasSo_36_P s r) {v0 : Nat} {v1 : Int32} {v2 : Int32} {v3 : Int32} {v4 : Int32} {h : am_H} {r : Int32} (hb : Ref_wasSo_36_b g v0 v1 v2 v3 v4 h = some r) : Sx 0 mX12_wasSo 36 [.ref v0, .int v1, .int v2, .int v3, .int v4] [] h (some (.int r)) h := by
  unfold Ref_wasSo_36_b at hb
  refine Sx.o (fun _ _ _ k => ex_iload dX12_wasSo_36 rfl k) ?_
  refine Sx.o (fun _ _ _ k => ex_aload_n dX12_wasSo_38 rfl rfl k) ?_
  obtain ⟨x1, e_x1, hb2⟩ := ob2 hb
  refine Sx.o (fun _ _ _ k => op_getI fX12_130 dX12_wasSo_39 e_x1 k) ?_
  refine Sx.b (fun _ _ _ k1 k2 => ex_icmp_ge 88 dX12_wasSo_42 (by decide) k1 k2) (fun q => ?_) (fun q => ?_)
  · have hb3 := ip q hb2
    refine Sx.o (fun _ _ _ k => ex_iload_n dX12_wasSo_88 rfl k) ?_
    obtain ⟨u5, e_u5, hb6⟩ := ob2 hb3
    obtain rfl := Option.some.inj hb6
    exact Sx.r (fun _ _ _ k => ex_zret rfl (nrZ_n e_u5) dX12_wasSo_89 k)
  · have hb4 := iq q hb2
    refine Sx.o (fun _ _ _ k => ex_iload_n dX12_wasSo_45 rfl k) ?_
    refine Sx.b (fun _ _ _ k1 k2 => ex_if_eq 88 dX12_wasSo_46 (by decide) k1 k2) (fun q => ?_) (fun q => ?_)
    · have hb7 := ip q hb4
      refine Sx.o (fun _ _ _ k => ex_iload_n dX12_wasSo_88 rfl k) ?_
      obtain ⟨u9, e_u9, hb10⟩ := ob2 hb7
      obtain rfl := Option.some.inj hb10
      exact Sx.r (fun _ _ _ k => ex_zret rfl (nrZ_n e_u9) dX12_wasSo_89 k)
    · have hb8 := iq q hb4
      refine Sx.o (fun _ _ _ k => ex_aload_n dX12_wasSo_49 rfl rfl k) ?_
      obtain ⟨x11, e_x11, hb12⟩ := ob2 hb8
      refine Sx.o (fun _ _ _ k => op_getR fX12_71 dX12_wasSo_50 e_x11 k) ?_
      refine Sx.o (fun _ _ _ k => op_bipush (14 : Int32) dX12_wasSo_53 (by decide) k) ?_
      refine Sx.o (fun _ _ _ k => ex_iload_n dX12_wasSo_55 rfl k) ?_
      refine Sx.o (fun _ _ _ k => ex_imul dX12_wasSo_56 k) ?_
      refine Sx.o (fun _ _ _ k => ex_iload dX12_wasSo_57 rfl k) ?_
      refine Sx.o (fun _ _ _ k => ex_iadd dX12_wasSo_59 k) ?_
      obtain ⟨x13, e_x13, hb14⟩ := ob2 hb12
      refine Sx.o (fun _ _ _ k => op_iald dX12_wasSo_60 e_x13 k) ?_
      refine Sx.o (fun _ _ _ k => ex_aload_n dX12_wasSo_61 rfl rfl k) ?_
      obtain ⟨x15, e_x15, hb16⟩ := ob2 hb14
      refine Sx.o (fun _ _ _ k => op_getR fX12_71 dX12_wasSo_62 e_x15 k) ?_
      refine Sx.o (fun _ _ _ k => op_bipush (14 : Int32) dX12_wasSo_65 (by decide) k) ?_
      refine Sx.o (fun _ _ _ k => ex_iload_n dX12_wasSo_67 rfl k) ?_
      refine Sx.o (fun _ _ _ k => ex_imul dX12_wasSo_68 k) ?_
      refine Sx.o (fun _ _ _ k => ex_iload dX12_wasSo_69 rfl k) ?_
      refine Sx.o (fun _ _ _ k => ex_iadd dX12_wasSo_71 k) ?_
      obtain ⟨x17, e_x17, hb18⟩ := ob2 hb16
      refine Sx.o (fun _ _ _ k => op_iald dX12_wasSo_72 e_x17 k) ?_
      refine Sx.bn (fun _ _ _ k1 k2 => ex_icmp_ne 80 dX12_wasSo_73 (by decide) k1 k2) (fun q => ?_) (fun q => ?_)
      · have hb19 := iq q hb18
        refine Sx.o (fun _ _ _ k => op_iconst (0 : Int32) dX12_wasSo_80 (by decide) k) ?_
        refine Sx.fg [true, true, true, false, true] ?_
        exact (hg _ _ hb19).2.1 rfl
      · have hb20 := ip q hb18
        refine Sx.o (fun _ _ _ k => op_iconst (1 : Int32) dX12_wasSo_76 (by decide) k) ?_
        refine Sx.o (fun _ _ _ k => ex_goto 81 dX12_wasSo_77 (by decide) k) ?_
        refine Sx.fg [true, true, true, false, true] ?_
        exact (hg _ _ hb20).2.1 rfl
set_option maxHeartbeats 1000000 in
set_option maxRecDepth 100000 in
theorem Ref_wasSo_81_t {g : (Nat × Int32 × Int32 × Int32 × Int32 × Nat × am_H) → Option Int32} (hg : ∀ s r, g s = some r → Ref_wasSo_36_P s r) {v0 : Nat} {v1 : Int32} {v2 : Int32} {v4 : Int32} {s0 : Int32} {h : am_H} {r : Int32} (hb : Ref_wasSo_81_b g v0 v1 v2 v4 s0 h = some r) : Sx 0 mX12_wasSo 81 [.ref v0, .int v1, .int v2, .retAddr 0, .int v4] [.int s0] h (some (.int r)) h := by
  unfold Ref_wasSo_81_b at hb
  refine Sx.o (L' := [.ref v0, .int v1, .int v2, .int s0, .int v4]) (fun _ _ _ k => ex_istore_n dX12_wasSo_81 (by decide) k) ?_
  refine Sx.o (L' := [.ref v0, .int v1, .int v2, .int s0, .int (v4 + (1 : Int32))]) (fun _ _ _ k => op_iinc (1 : Int32) dX12_wasSo_82 (by decide) rfl (by decide) k) ?_
  refine Sx.o (fun _ _ _ k => ex_goto 36 dX12_wasSo_85 (by decide) k) ?_
  exact (hg _ _ hb).1 rfl
theorem Ref_wasSo_36_T : ∀ s r, fx Ref_wasSo_36_F Ref_wasSo_36_M s = some r → Ref_wasSo_36_P s r := fx_ind Ref_wasSo_36_M Ref_wasSo_36_P (fun g hg s r hb => by
  unfold Ref_wasSo_36_F at hb
  exact ⟨fun q => Ref_wasSo_36_t hg (ip q hb), fun q => Ref_wasSo_81_t hg (ip q (iq (by rw [q]; decide) hb)), trivial⟩)
noncomputable def Ref_wasSo_36 (v0 : Nat) (v1 : Int32) (v2 : Int32) (v3 : Int32) (v4 : Int32) (h : am_H) : Option Int32 := fx Ref_wasSo_36_F Ref_wasSo_36_M (36, v1, v2, v3, v4, v0, h)
noncomputable def Ref_wasSo_81 (v0 : Nat) (v1 : Int32) (v2 : Int32) (v4 : Int32) (s0 : Int32) (h : am_H) : Option Int32 := fx Ref_wasSo_36_F Ref_wasSo_36_M (81, v1, v2, v4, s0, v0, h)
set_option maxHeartbeats 1000000 in
set_option maxRecDepth 100000 in
theorem Ref_wasSo_36_e (v0 : Nat) (v1 : Int32) (v2 : Int32) (v3 : Int32) (v4 : Int32) (h : am_H) : Ref_wasSo_36 v0 v1 v2 v3 v4 h = ((gI h 12 v0 31).bind fun x1 => if x1 ≤ v4 then (nrZ v3).bind fun u5 => some v3 else if v3 = (0 : Int32) then (nrZ v3).bind fun u9 => some v3 else (gR h 12 v0 34).bind fun x11 => (aI h 0 x11 (((14 : Int32) * v1) + v4)).bind fun x13 => (gR h 12 v0 34).bind fun x15 => (aI h 0 x15 (((14 : Int32) * v2) + v4)).bind fun x17 => if x13 = x17 then Ref_wasSo_81 v0 v1 v2 v4 (1 : Int32) h else Ref_wasSo_81 v0 v1 v2 v4 (0 : Int32) h) := (fx_eq Ref_wasSo_36_M (36, v1, v2, v3, v4, v0, h)).trans (if_pos rfl)
theorem Ref_wasSo_36_s {v0 : Nat} {v1 : Int32} {v2 : Int32} {v3 : Int32} {v4 : Int32} {h : am_H} {r : Int32} (hb : Ref_wasSo_36 v0 v1 v2 v3 v4 h = some r) : Sx 0 mX12_wasSo 36 [.ref v0, .int v1, .int v2, .int v3, .int v4] [] h (some (.int r)) h := (Ref_wasSo_36_T _ _ hb).1 rfl
set_option maxHeartbeats 1000000 in
set_option maxRecDepth 100000 in
theorem Ref_wasSo_81_e (v0 : Nat) (v1 : Int32) (v2 : Int32) (v4 : Int32) (s0 : Int32) (h : am_H) : Ref_wasSo_81 v0 v1 v2 v4 s0 h = (Ref_wasSo_36 v0 v1 v2 s0 (v4 + (1 : Int32)) h) := (fx_eq Ref_wasSo_36_M (81, v1, v2, v4, s0, v0, h)).trans ((if_neg (show ¬ (81 : Nat) = 36 by decide)).trans (if_pos rfl))
theorem Ref_wasSo_81_s {v0 : Nat} {v1 : Int32} {v2 : Int32} {v4 : Int32} {s0 : Int32} {h : am_H} {r : Int32} (hb : Ref_wasSo_81 v0 v1 v2 v4 s0 h = some r) : Sx 0 mX12_wasSo 81 [.ref v0, .int v1, .int v2, .retAddr 0, .int v4] [.int s0] h (some (.int r)) h := (Ref_wasSo_36_T _ _ hb).2.1 rfl
set_option maxHeartbeats 1000000 in
set_option maxRecDepth 100000 in
noncomputable def Ref_wasSo_32 (v0 : Nat) (v1 : Int32) (v2 : Int32) (s0 : Int32) (h : am_H) : Option Int32 := Ref_wasSo_36 v0 v1 v2 s0 (0 : Int32) h
set_option maxHeartbeats 1000000 in
set_option maxRecDepth 100000 in
theorem Ref_wasSo_32_s {v0 : Nat} {v1 : Int32} {v2 : Int32} {s0 : Int32} {h : am_H} {r : Int32} (hb : Ref_wasSo_32 v0 v1 v2 s0 h = some r) : Sx 0 mX12_wasSo 32 [.ref v0, .int v1, .int v2, .retAddr 0, .retAddr 0] [.int s0] h (some (.int r)) h := by
  unfold Ref_wasSo_32 at hb
  refine Sx.o (L' := [.ref v0, .int v1, .int v2, .int s0, .retAddr 0]) (fun _ _ _ k => ex_istore_n dX12_wasSo_32 (by decide) k) ?_
  refine Sx.o (fun _ _ _ k => op_iconst (0 : Int32) dX12_wasSo_33 (by decide) k) ?_
  refine Sx.o (L' := [.ref v0, .int v1, .int v2, .int s0, .int (0 : Int32)]) (fun _ _ _ k => ex_istore dX12_wasSo_34 (by decide) k) ?_
  exact Ref_wasSo_36_s hb
set_option maxHeartbeats 1000000 in
set_option maxRecDepth 100000 in
noncomputable def Ref_wasSo (v0 : Nat) (v1 : Int32) (v2 : Int32) (h : am_H) : Option Int32 := if isO h 12 v0 = true then (gR h 12 v0 34).bind fun x21 => (aI h 0 x21 (((14 : Int32) * v1) + (13 : Int32))).bind fun x23 => (gR h 12 v0 34).bind fun x25 => (aI h 0 x25 (((14 : Int32) * v2) + (13 : Int32))).bind fun x27 => if x23 = x27 then Ref_wasSo_32 v0 v1 v2 (1 : Int32) h else Ref_wasSo_32 v0 v1 v2 (0 : Int32) h else none
set_option maxHeartbeats 1000000 in
set_option maxRecDepth 100000 in
theorem Ref_wasSo_s {v0 : Nat} {v1 : Int32} {v2 : Int32} {h : am_H} {r : Int32} (hb : Ref_wasSo v0 v1 v2 h = some r) : Sx 0 mX12_wasSo 0 (am_en [.ref v0, .int v1, .int v2] 5) [] h (some (.int r)) h := by
  unfold Ref_wasSo at hb
  have hb := (iz hb).2
  show Sx 0 mX12_wasSo 0 [.ref v0, .int v1, .int v2, .retAddr 0, .retAddr 0] [] h (some (.int r)) h
  refine Sx.o (fun _ _ _ k => ex_aload_n dX12_wasSo_0 rfl rfl k) ?_
  obtain ⟨x21, e_x21, hb22⟩ := ob2 hb
  refine Sx.o (fun _ _ _ k => op_getR fX12_71 dX12_wasSo_1 e_x21 k) ?_
  refine Sx.o (fun _ _ _ k => op_bipush (14 : Int32) dX12_wasSo_4 (by decide) k) ?_
  refine Sx.o (fun _ _ _ k => ex_iload_n dX12_wasSo_6 rfl k) ?_
  refine Sx.o (fun _ _ _ k => ex_imul dX12_wasSo_7 k) ?_
  refine Sx.o (fun _ _ _ k => op_bipush (13 : Int32) dX12_wasSo_8 (by decide) k) ?_
  refine Sx.o (fun _ _ _ k => ex_iadd dX12_wasSo_10 k) ?_
  obtain ⟨x23, e_x23, hb24⟩ := ob2 hb22
  refine Sx.o (fun _ _ _ k => op_iald dX12_wasSo_11 e_x23 k) ?_
  refine Sx.o (fun _ _ _ k => ex_aload_n dX12_wasSo_12 rfl rfl k) ?_
  obtain ⟨x25, e_x25, hb26⟩ := ob2 hb24
  refine Sx.o (fun _ _ _ k => op_getR fX12_71 dX12_wasSo_13 e_x25 k) ?_
  refine Sx.o (fun _ _ _ k => op_bipush (14 : Int32) dX12_wasSo_16 (by decide) k) ?_
  refine Sx.o (fun _ _ _ k => ex_iload_n dX12_wasSo_18 rfl k) ?_
  refine Sx.o (fun _ _ _ k => ex_imul dX12_wasSo_19 k) ?_
  refine Sx.o (fun _ _ _ k => op_bipush (13 : Int32) dX12_wasSo_20 (by decide) k) ?_
  refine Sx.o (fun _ _ _ k => ex_iadd dX12_wasSo_22 k) ?_
  obtain ⟨x27, e_x27, hb28⟩ := ob2 hb26
  refine Sx.o (fun _ _ _ k => op_iald dX12_wasSo_23 e_x27 k) ?_
  refine Sx.bn (fun _ _ _ k1 k2 => ex_icmp_ne 31 dX12_wasSo_24 (by decide) k1 k2) (fun q => ?_) (fun q => ?_)
  · have hb29 := iq q hb28
    refine Sx.o (fun _ _ _ k => op_iconst (0 : Int32) dX12_wasSo_31 (by decide) k) ?_
    exact Ref_wasSo_32_s hb29
  · have hb30 := ip q hb28
    refine Sx.o (fun _ _ _ k => op_iconst (1 : Int32) dX12_wasSo_27 (by decide) k) ?_
    refine Sx.o (fun _ _ _ k => ex_goto 32 dX12_wasSo_28 (by decide) k) ?_
    exact Ref_wasSo_32_s hb30
theorem Ref_wasSo_o {v0 : Nat} {v1 : Int32} {v2 : Int32} {h : am_H} {r : Int32} (hb : Ref_wasSo v0 v1 v2 h = some r) : isO h 12 v0 = true := by
  unfold Ref_wasSo at hb
  exact (iz hb).1
set_option maxHeartbeats 1000000 in
set_option maxRecDepth 100000 in
noncomputable def Ref_goesOn_7_b (g : (Nat × Int32 × Int32 × Nat × am_H) → Option (Int32 × am_H)) (v0 : Nat) (v1 : Int32) (h : am_H) : Option (Int32 × am_H) := (pV h 12 v0 35 (.int v1)).bind fun h1 => (Ref_hasEnded v0 h1).bind fun r4 => if r4.1 = (0 : Int32) then (Ref_isStuck v0 r4.2).bind fun r9 => if r9.1 = (0 : Int32) then g (32, v1, (0 : Int32), v0, r9.2) else some ((1 : Int32), r9.2) else some ((0 : Int32), r4.2)
set_option maxHeartbeats 1000000 in
set_option maxRecDepth 100000 in
theorem Ref_goesOn_7_m {g g2 : (Nat × Int32 × Int32 × Nat × am_H) → Option (Int32 × am_H)} (hg : ∀ s, Le (g s) (g2 s)) (v0 : Nat) (v1 : Int32) (h : am_H) : Le (Ref_goesOn_7_b g v0 v1 h) (Ref_goesOn_7_b g2 v0 v1 h) := by unfold Ref_goesOn_7_b; exact le_b (le_r _) fun h1 => le_b (le_r _) fun r4 => le_i (le_b (le_r _) fun r9 => le_i (hg _) (le_r _)) (le_r _)
set_option maxHeartbeats 1000000 in
set_option maxRecDepth 100000 in
noncomputable def Ref_goesOn_32_b (g : (Nat × Int32 × Int32 × Nat × am_H) → Option (Int32 × am_H)) (v0 : Nat) (v1 : Int32) (v2 : Int32) (h : am_H) : Option (Int32 × am_H) := (gI h 12 v0 31).bind fun x14 => if x14 ≤ v2 then (gR h 12 v0 34).bind fun x18 => (gI h 12 v0 32).bind fun x20 => (sI h x18 (((14 : Int32) * v1) + (13 : Int32)) x20).bind fun h22 => g (81, v1, (0 : Int32), v0, h22) else (gR h 12 v0 34).bind fun x25 => (gR h 12 v0 29).bind fun x27 => (aI h 0 x27 v2).bind fun x29 => (sI h x25 (((14 : Int32) * v1) + v2) x29).bind fun h31 => g (32, v1, (v2 + (1 : Int32)), v0, h31)
set_option maxHeartbeats 1000000 in
set_option maxRecDepth 100000 in
theorem Ref_goesOn_32_m {g g2 : (Nat × Int32 × Int32 × Nat × am_H) → Option (Int32 × am_H)} (hg : ∀ s, Le (g s) (g2 s)) (v0 : Nat) (v1 : Int32) (v2 : Int32) (h : am_H) : Le (Ref_goesOn_32_b g v0 v1 v2 h) (Ref_goesOn_32_b g2 v0 v1 v2 h) := by unfold Ref_goesOn_32_b; exact le_b (le_r _) fun x14 => le_i (le_b (le_r _) fun x18 => le_b (le_r _) fun x20 => le_b (le_r _) fun h22 => hg _) (le_b (le_r _) fun x25 => le_b (le_r _) fun x27 => le_b (le_r _) fun x29 => le_b (le_r _) fun h31 => hg _)
set_option maxHeartbeats 1000000 in
set_option maxRecDepth 100000 in
noncomputable def Ref_goesOn_81_b (g : (Nat × Int32 × Int32 × Nat × am_H) → Option (Int32 × am_H)) (v0 : Nat) (v1 : Int32) (v2 : Int32) (h : am_H) : Option (Int32 × am_H) := if v1 ≤ v2 then (gR h 12 v0 2).bind fun x36 => (aI h 0 x36 (114 : Int32)).bind fun x38 => if v1 = x38 then some ((3 : Int32), h) else (Ref_steps v0 h).bind fun h42 => g (7, (v1 + (1 : Int32)), 0, v0, h42) else (Ref_wasSo v0 v1 v2 h).bind fun x45 => if x45 = (0 : Int32) then g (81, v1, (v2 + (1 : Int32)), v0, h) else (pV h 12 v0 36 (.int v2)).bind fun h49 => some ((2 : Int32), h49)
set_option maxHeartbeats 1000000 in
set_option maxRecDepth 100000 in
theorem Ref_goesOn_81_m {g g2 : (Nat × Int32 × Int32 × Nat × am_H) → Option (Int32 × am_H)} (hg : ∀ s, Le (g s) (g2 s)) (v0 : Nat) (v1 : Int32) (v2 : Int32) (h : am_H) : Le (Ref_goesOn_81_b g v0 v1 v2 h) (Ref_goesOn_81_b g2 v0 v1 v2 h) := by unfold Ref_goesOn_81_b; exact le_i (le_b (le_r _) fun x36 => le_b (le_r _) fun x38 => le_i (le_r _) (le_b (le_r _) fun h42 => hg _)) (le_b (le_r _) fun x45 => le_i (hg _) (le_r _))
noncomputable def Ref_goesOn_7_F (g : (Nat × Int32 × Int32 × Nat × am_H) → Option (Int32 × am_H)) (s : (Nat × Int32 × Int32 × Nat × am_H)) : Option (Int32 × am_H) := if s.1 = 7 then Ref_goesOn_7_b g s.2.2.2.1 s.2.1 s.2.2.2.2 else if s.1 = 32 then Ref_goesOn_32_b g s.2.2.2.1 s.2.1 s.2.2.1 s.2.2.2.2 else if s.1 = 81 then Ref_goesOn_81_b g s.2.2.2.1 s.2.1 s.2.2.1 s.2.2.2.2 else none
theorem Ref_goesOn_7_M : Mn Ref_goesOn_7_F := fun g g2 hg s => by unfold Ref_goesOn_7_F; exact le_i (Ref_goesOn_7_m hg s.2.2.2.1 s.2.1 s.2.2.2.2) (le_i (Ref_goesOn_32_m hg s.2.2.2.1 s.2.1 s.2.2.1 s.2.2.2.2) (le_i (Ref_goesOn_81_m hg s.2.2.2.1 s.2.1 s.2.2.1 s.2.2.2.2) (le_r _)))
def Ref_goesOn_7_P (s : (Nat × Int32 × Int32 × Nat × am_H)) (r : (Int32 × am_H)) : Prop := (s.1 = 7 → Sx 88 mX12_goesOn 7 [.ref s.2.2.2.1, .int s.2.1, .retAddr 0] [] s.2.2.2.2 (some (.int r.1)) r.2) ∧ (s.1 = 32 → Sx 88 mX12_goesOn 32 [.ref s.2.2.2.1, .int s.2.1, .int s.2.2.1] [] s.2.2.2.2 (some (.int r.1)) r.2) ∧ (s.1 = 81 → Sx 88 mX12_goesOn 81 [.ref s.2.2.2.1, .int s.2.1, .int s.2.2.1] [] s.2.2.2.2 (some (.int r.1)) r.2) ∧ True
set_option maxHeartbeats 1000000 in
set_option maxRecDepth 100000 in
theorem Ref_goesOn_7_t {g : (Nat × Int32 × Int32 × Nat × am_H) → Option (Int32 × am_H)} (hg : ∀ s r, g s = some r → Ref_goesOn_7_P s r) {v0 : Nat} {v1 : Int32} {h : am_H} {r : (Int32 × am_H)} (hb : Ref_goesOn_7_b g v0 v1 h = some r) : Sx 88 mX12_goesOn 7 [.ref v0, .int v1, .retAddr 0] [] h (some (.int r.1)) r.2 := by
  unfold Ref_goesOn_7_b at hb
  refine Sx.o (fun _ _ _ k => ex_aload_n dX12_goesOn_7 rfl rfl k) ?_
  refine Sx.o (fun _ _ _ k => ex_iload_n dX12_goesOn_8 rfl k) ?_
  obtain ⟨h1, e_h1, hb2⟩ := ob2 hb
  refine Sx.p (pV_q e_h1) (fun _ _ _ k => op_put pX12_336 dX12_goesOn_9 e_h1 (fun _ => rfl) (fun _ => rfl) k) ?_
  refine Sx.o (fun _ _ _ k => ex_aload_n dX12_goesOn_12 rfl rfl k) ?_
  obtain ⟨r4, e_r4, hb5⟩ := ob2 hb2
  refine sx_callV (dc := 86) (as := []) (stq := [.int r4.1]) (by omega) dX12_goesOn_13 MX12_hasEnded kX12_136 iX12_hasEnded sX12_hasEnded rfl rfl (Ref_hasEnded_o e_r4) rfl rfl (Nat.le_of_ble_eq_true rfl) (Nat.le_of_ble_eq_true rfl) (Ref_hasEnded_s e_r4) rfl ?_
  refine Sx.b (fun _ _ _ k1 k2 => ex_if_eq 21 dX12_goesOn_16 (by decide) k1 k2) (fun q => ?_) (fun q => ?_)
  · have hb7 := ip q hb5
    refine Sx.o (fun _ _ _ k => ex_aload_n dX12_goesOn_21 rfl rfl k) ?_
    obtain ⟨r9, e_r9, hb10⟩ := ob2 hb7
    refine sx_callV (dc := 87) (as := []) (stq := [.int r9.1]) (by omega) dX12_goesOn_22 MX12_isStuck kX12_140 iX12_isStuck sX12_isStuck rfl rfl (Ref_isStuck_o e_r9) rfl rfl (Nat.le_of_ble_eq_true rfl) (Nat.le_of_ble_eq_true rfl) (Ref_isStuck_s e_r9) rfl ?_
    refine Sx.b (fun _ _ _ k1 k2 => ex_if_eq 30 dX12_goesOn_25 (by decide) k1 k2) (fun q => ?_) (fun q => ?_)
    · have hb12 := ip q hb10
      refine Sx.o (fun _ _ _ k => op_iconst (0 : Int32) dX12_goesOn_30 (by decide) k) ?_
      refine Sx.o (L' := [.ref v0, .int v1, .int (0 : Int32)]) (fun _ _ _ k => ex_istore_n dX12_goesOn_31 (by decide) k) ?_
      exact (hg _ _ hb12).2.1 rfl
    · have hb13 := iq q hb10
      refine Sx.o (fun _ _ _ k => op_iconst (1 : Int32) dX12_goesOn_28 (by decide) k) ?_
      obtain rfl := Option.some.inj hb13
      exact Sx.r (fun _ _ _ k => ex_iret rfl dX12_goesOn_29 k)
  · have hb8 := iq q hb5
    refine Sx.o (fun _ _ _ k => op_iconst (0 : Int32) dX12_goesOn_19 (by decide) k) ?_
    obtain rfl := Option.some.inj hb8
    exact Sx.r (fun _ _ _ k => ex_iret rfl dX12_goesOn_20 k)
set_option maxHeartbeats 1000000 in
set_option maxRecDepth 100000 in
theorem Ref_goesOn_32_t {g : (Nat × Int32 × Int32 × Nat × am_H) → Option (Int32 × am_H)} (hg : ∀ s r, g s = some r → Ref_goesOn_7_P s r) {v0 : Nat} {v1 : Int32} {v2 : Int32} {h : am_H} {r : (Int32 × am_H)} (hb : Ref_goesOn_32_b g v0 v1 v2 h = some r) : Sx 88 mX12_goesOn 32 [.ref v0, .int v1, .int v2] [] h (some (.int r.1)) r.2 := by
  unfold Ref_goesOn_32_b at hb
  refine Sx.o (fun _ _ _ k => ex_iload_n dX12_goesOn_32 rfl k) ?_
  refine Sx.o (fun _ _ _ k => ex_aload_n dX12_goesOn_33 rfl rfl k) ?_
  obtain ⟨x14, e_x14, hb15⟩ := ob2 hb
  refine Sx.o (fun _ _ _ k => op_getI fX12_130 dX12_goesOn_34 e_x14 k) ?_
  refine Sx.b (fun _ _ _ k1 k2 => ex_icmp_ge 63 dX12_goesOn_37 (by decide) k1 k2) (fun q => ?_) (fun q => ?_)
  · have hb16 := ip q hb15
    refine Sx.o (fun _ _ _ k => ex_aload_n dX12_goesOn_63 rfl rfl k) ?_
    obtain ⟨x18, e_x18, hb19⟩ := ob2 hb16
    refine Sx.o (fun _ _ _ k => op_getR fX12_71 dX12_goesOn_64 e_x18 k) ?_
    refine Sx.o (fun _ _ _ k => op_bipush (14 : Int32) dX12_goesOn_67 (by decide) k) ?_
    refine Sx.o (fun _ _ _ k => ex_iload_n dX12_goesOn_69 rfl k) ?_
    refine Sx.o (fun _ _ _ k => ex_imul dX12_goesOn_70 k) ?_
    refine Sx.o (fun _ _ _ k => op_bipush (13 : Int32) dX12_goesOn_71 (by decide) k) ?_
    refine Sx.o (fun _ _ _ k => ex_iadd dX12_goesOn_73 k) ?_
    refine Sx.o (fun _ _ _ k => ex_aload_n dX12_goesOn_74 rfl rfl k) ?_
    obtain ⟨x20, e_x20, hb21⟩ := ob2 hb19
    refine Sx.o (fun _ _ _ k => op_getI fX12_133 dX12_goesOn_75 e_x20 k) ?_
    obtain ⟨h22, e_h22, hb23⟩ := ob2 hb21
    refine Sx.p (sI_q e_h22) (fun _ _ _ k => op_iast dX12_goesOn_78 e_h22 k) ?_
    refine Sx.o (fun _ _ _ k => op_iconst (0 : Int32) dX12_goesOn_79 (by decide) k) ?_
    refine Sx.o (L' := [.ref v0, .int v1, .int (0 : Int32)]) (fun _ _ _ k => ex_istore_n dX12_goesOn_80 (by decide) k) ?_
    exact (hg _ _ hb23).2.2.1 rfl
  · have hb17 := iq q hb15
    refine Sx.o (fun _ _ _ k => ex_aload_n dX12_goesOn_40 rfl rfl k) ?_
    obtain ⟨x25, e_x25, hb26⟩ := ob2 hb17
    refine Sx.o (fun _ _ _ k => op_getR fX12_71 dX12_goesOn_41 e_x25 k) ?_
    refine Sx.o (fun _ _ _ k => op_bipush (14 : Int32) dX12_goesOn_44 (by decide) k) ?_
    refine Sx.o (fun _ _ _ k => ex_iload_n dX12_goesOn_46 rfl k) ?_
    refine Sx.o (fun _ _ _ k => ex_imul dX12_goesOn_47 k) ?_
    refine Sx.o (fun _ _ _ k => ex_iload_n dX12_goesOn_48 rfl k) ?_
    refine Sx.o (fun _ _ _ k => ex_iadd dX12_goesOn_49 k) ?_
    refine Sx.o (fun _ _ _ k => ex_aload_n dX12_goesOn_50 rfl rfl k) ?_
    obtain ⟨x27, e_x27, hb28⟩ := ob2 hb26
    refine Sx.o (fun _ _ _ k => op_getR fX12_65 dX12_goesOn_51 e_x27 k) ?_
    refine Sx.o (fun _ _ _ k => ex_iload_n dX12_goesOn_54 rfl k) ?_
    obtain ⟨x29, e_x29, hb30⟩ := ob2 hb28
    refine Sx.o (fun _ _ _ k => op_iald dX12_goesOn_55 e_x29 k) ?_
    obtain ⟨h31, e_h31, hb32⟩ := ob2 hb30
    refine Sx.p (sI_q e_h31) (fun _ _ _ k => op_iast dX12_goesOn_56 e_h31 k) ?_
    refine Sx.o (L' := [.ref v0, .int v1, .int (v2 + (1 : Int32))]) (fun _ _ _ k => op_iinc (1 : Int32) dX12_goesOn_57 (by decide) rfl (by decide) k) ?_
    refine Sx.o (fun _ _ _ k => ex_goto 32 dX12_goesOn_60 (by decide) k) ?_
    exact (hg _ _ hb32).2.1 rfl
set_option maxHeartbeats 1000000 in
set_option maxRecDepth 100000 in
theorem Ref_goesOn_81_t {g : (Nat × Int32 × Int32 × Nat × am_H) → Option (Int32 × am_H)} (hg : ∀ s r, g s = some r → Ref_goesOn_7_P s r) {v0 : Nat} {v1 : Int32} {v2 : Int32} {h : am_H} {r : (Int32 × am_H)} (hb : Ref_goesOn_81_b g v0 v1 v2 h = some r) : Sx 88 mX12_goesOn 81 [.ref v0, .int v1, .int v2] [] h (some (.int r.1)) r.2 := by
  unfold Ref_goesOn_81_b at hb
  refine Sx.o (fun _ _ _ k => ex_iload_n dX12_goesOn_81 rfl k) ?_
  refine Sx.o (fun _ _ _ k => ex_iload_n dX12_goesOn_82 rfl k) ?_
  refine Sx.b (fun _ _ _ k1 k2 => ex_icmp_ge 111 dX12_goesOn_83 (by decide) k1 k2) (fun q => ?_) (fun q => ?_)
  · have hb34 := ip q hb
    refine Sx.o (fun _ _ _ k => ex_iload_n dX12_goesOn_111 rfl k) ?_
    refine Sx.o (fun _ _ _ k => ex_aload_n dX12_goesOn_112 rfl rfl k) ?_
    obtain ⟨x36, e_x36, hb37⟩ := ob2 hb34
    refine Sx.o (fun _ _ _ k => op_getR fX12_24 dX12_goesOn_113 e_x36 k) ?_
    refine Sx.o (fun _ _ _ k => op_bipush (114 : Int32) dX12_goesOn_116 (by decide) k) ?_
    obtain ⟨x38, e_x38, hb39⟩ := ob2 hb37
    refine Sx.o (fun _ _ _ k => op_iald dX12_goesOn_118 e_x38 k) ?_
    refine Sx.bn (fun _ _ _ k1 k2 => ex_icmp_ne 124 dX12_goesOn_119 (by decide) k1 k2) (fun q => ?_) (fun q => ?_)
    · have hb40 := iq q hb39
      refine Sx.o (fun _ _ _ k => ex_aload_n dX12_goesOn_124 rfl rfl k) ?_
      obtain ⟨h42, e_h42, hb43⟩ := ob2 hb40
      refine sx_callV (dc := 87) (as := []) (stq := []) (by omega) dX12_goesOn_125 MX12_steps kX12_343 iX12_steps sX12_steps rfl rfl (Ref_steps_o e_h42) rfl rfl (Nat.le_of_ble_eq_true rfl) (Nat.le_of_ble_eq_true rfl) (Ref_steps_s e_h42) rfl ?_
      refine Sx.o (L' := [.ref v0, .int (v1 + (1 : Int32)), .int v2]) (fun _ _ _ k => op_iinc (1 : Int32) dX12_goesOn_128 (by decide) rfl (by decide) k) ?_
      refine Sx.o (fun _ _ _ k => ex_goto 7 dX12_goesOn_131 (by decide) k) ?_
      refine Sx.fg [true, true, false] ?_
      exact (hg _ _ hb43).1 rfl
    · have hb41 := ip q hb39
      refine Sx.o (fun _ _ _ k => op_iconst (3 : Int32) dX12_goesOn_122 (by decide) k) ?_
      obtain rfl := Option.some.inj hb41
      exact Sx.r (fun _ _ _ k => ex_iret rfl dX12_goesOn_123 k)
  · have hb35 := iq q hb
    refine Sx.o (fun _ _ _ k => ex_aload_n dX12_goesOn_86 rfl rfl k) ?_
    refine Sx.o (fun _ _ _ k => ex_iload_n dX12_goesOn_87 rfl k) ?_
    refine Sx.o (fun _ _ _ k => ex_iload_n dX12_goesOn_88 rfl k) ?_
    obtain ⟨x45, e_x45, hb46⟩ := ob2 hb35
    refine sx_callV (dc := 0) (as := [.int v1, .int v2]) (stq := [.int x45]) (by omega) dX12_goesOn_89 MX12_wasSo kX12_339 iX12_wasSo sX12_wasSo rfl rfl (Ref_wasSo_o e_x45) rfl rfl (Nat.le_of_ble_eq_true rfl) (Nat.le_of_ble_eq_true rfl) (Ref_wasSo_s e_x45) rfl ?_
    refine Sx.bn (fun _ _ _ k1 k2 => ex_if_ne 98 dX12_goesOn_92 (by decide) k1 k2) (fun q => ?_) (fun q => ?_)
    · have hb47 := iq q hb46
      refine Sx.o (fun _ _ _ k => ex_aload_n dX12_goesOn_98 rfl rfl k) ?_
      refine Sx.o (fun _ _ _ k => ex_iload_n dX12_goesOn_99 rfl k) ?_
      obtain ⟨h49, e_h49, hb50⟩ := ob2 hb47
      refine Sx.p (pV_q e_h49) (fun _ _ _ k => op_put pX12_333 dX12_goesOn_100 e_h49 (fun _ => rfl) (fun _ => rfl) k) ?_
      refine Sx.o (fun _ _ _ k => op_iconst (2 : Int32) dX12_goesOn_103 (by decide) k) ?_
      obtain rfl := Option.some.inj hb50
      exact Sx.r (fun _ _ _ k => ex_iret rfl dX12_goesOn_104 k)
    · have hb48 := ip q hb46
      refine Sx.o (fun _ _ _ k => ex_goto 105 dX12_goesOn_95 (by decide) k) ?_
      refine Sx.o (L' := [.ref v0, .int v1, .int (v2 + (1 : Int32))]) (fun _ _ _ k => op_iinc (1 : Int32) dX12_goesOn_105 (by decide) rfl (by decide) k) ?_
      refine Sx.o (fun _ _ _ k => ex_goto 81 dX12_goesOn_108 (by decide) k) ?_
      exact (hg _ _ hb48).2.2.1 rfl
theorem Ref_goesOn_7_T : ∀ s r, fx Ref_goesOn_7_F Ref_goesOn_7_M s = some r → Ref_goesOn_7_P s r := fx_ind Ref_goesOn_7_M Ref_goesOn_7_P (fun g hg s r hb => by
  unfold Ref_goesOn_7_F at hb
  exact ⟨fun q => Ref_goesOn_7_t hg (ip q hb), fun q => Ref_goesOn_32_t hg (ip q (iq (by rw [q]; decide) hb)), fun q => Ref_goesOn_81_t hg (ip q (iq (by rw [q]; decide) (iq (by rw [q]; decide) hb))), trivial⟩)
set_option maxHeartbeats 1000000 in
set_option maxRecDepth 100000 in
theorem Ref_goesOn_7_r {g : (Nat × Int32 × Int32 × Nat × am_H) → Option (Int32 × am_H)} (hg : ∀ s r, g s = some r → Eqs s.2.2.2.2 r.2) {v0 : Nat} {v1 : Int32} {h : am_H} {r : (Int32 × am_H)} (hb : Ref_goesOn_7_b g v0 v1 h = some r) : Eqs h r.2 := by
  unfold Ref_goesOn_7_b at hb
  have w0 := Eqs.rf h
  obtain ⟨h1, e_h1, hb2⟩ := ob2 hb
  have w3 := w0.tr (pV_q e_h1)
  obtain ⟨r4, e_r4, hb5⟩ := ob2 hb2
  have w6 := w3.tr (Ref_hasEnded_q e_r4)
  by_cases q : r4.1 = (0 : Int32)
  · have hb7 := ip q hb5
    obtain ⟨r9, e_r9, hb10⟩ := ob2 hb7
    have w11 := w6.tr (Ref_isStuck_q e_r9)
    by_cases q : r9.1 = (0 : Int32)
    · have hb12 := ip q hb10
      exact w11.tr (hg _ _ hb12)
    · have hb13 := iq q hb10
      obtain rfl := Option.some.inj hb13
      exact w11
  · have hb8 := iq q hb5
    obtain rfl := Option.some.inj hb8
    exact w6
set_option maxHeartbeats 1000000 in
set_option maxRecDepth 100000 in
theorem Ref_goesOn_32_r {g : (Nat × Int32 × Int32 × Nat × am_H) → Option (Int32 × am_H)} (hg : ∀ s r, g s = some r → Eqs s.2.2.2.2 r.2) {v0 : Nat} {v1 : Int32} {v2 : Int32} {h : am_H} {r : (Int32 × am_H)} (hb : Ref_goesOn_32_b g v0 v1 v2 h = some r) : Eqs h r.2 := by
  unfold Ref_goesOn_32_b at hb
  have w0 := Eqs.rf h
  obtain ⟨x14, e_x14, hb15⟩ := ob2 hb
  by_cases q : x14 ≤ v2
  · have hb16 := ip q hb15
    obtain ⟨x18, e_x18, hb19⟩ := ob2 hb16
    obtain ⟨x20, e_x20, hb21⟩ := ob2 hb19
    obtain ⟨h22, e_h22, hb23⟩ := ob2 hb21
    have w24 := w0.tr (sI_q e_h22)
    exact w24.tr (hg _ _ hb23)
  · have hb17 := iq q hb15
    obtain ⟨x25, e_x25, hb26⟩ := ob2 hb17
    obtain ⟨x27, e_x27, hb28⟩ := ob2 hb26
    obtain ⟨x29, e_x29, hb30⟩ := ob2 hb28
    obtain ⟨h31, e_h31, hb32⟩ := ob2 hb30
    have w33 := w0.tr (sI_q e_h31)
    exact w33.tr (hg _ _ hb32)
set_option maxHeartbeats 1000000 in
set_option maxRecDepth 100000 in
theorem Ref_goesOn_81_r {g : (Nat × Int32 × Int32 × Nat × am_H) → Option (Int32 × am_H)} (hg : ∀ s r, g s = some r → Eqs s.2.2.2.2 r.2) {v0 : Nat} {v1 : Int32} {v2 : Int32} {h : am_H} {r : (Int32 × am_H)} (hb : Ref_goesOn_81_b g v0 v1 v2 h = some r) : Eqs h r.2 := by
  unfold Ref_goesOn_81_b at hb
  have w0 := Eqs.rf h
  by_cases q : v1 ≤ v2
  · have hb34 := ip q hb
    obtain ⟨x36, e_x36, hb37⟩ := ob2 hb34
    obtain ⟨x38, e_x38, hb39⟩ := ob2 hb37
    by_cases q : v1 = x38
    · have hb41 := ip q hb39
      obtain rfl := Option.some.inj hb41
      exact w0
    · have hb40 := iq q hb39
      obtain ⟨h42, e_h42, hb43⟩ := ob2 hb40
      have w44 := w0.tr (Ref_steps_q e_h42)
      exact w44.tr (hg _ _ hb43)
  · have hb35 := iq q hb
    obtain ⟨x45, e_x45, hb46⟩ := ob2 hb35
    by_cases q : x45 = (0 : Int32)
    · have hb48 := ip q hb46
      exact w0.tr (hg _ _ hb48)
    · have hb47 := iq q hb46
      obtain ⟨h49, e_h49, hb50⟩ := ob2 hb47
      have w51 := w0.tr (pV_q e_h49)
      obtain rfl := Option.some.inj hb50
      exact w51
theorem Ref_goesOn_7_Q : ∀ s r, fx Ref_goesOn_7_F Ref_goesOn_7_M s = some r → Eqs s.2.2.2.2 r.2 := fx_ind Ref_goesOn_7_M (fun s r => Eqs s.2.2.2.2 r.2) (fun g hg s r hb => by
  unfold Ref_goesOn_7_F at hb
  by_cases q0 : s.1 = 7
  · exact Ref_goesOn_7_r hg (ip q0 hb)
  · have hb0 := iq q0 hb
    by_cases q1 : s.1 = 32
    · exact Ref_goesOn_32_r hg (ip q1 hb0)
    · have hb1 := iq q1 hb0
      by_cases q2 : s.1 = 81
      · exact Ref_goesOn_81_r hg (ip q2 hb1)
      · have hb2 := iq q2 hb1
        exact nomatch hb2)
noncomputable def Ref_goesOn_7 (v0 : Nat) (v1 : Int32) (h : am_H) : Option (Int32 × am_H) := fx Ref_goesOn_7_F Ref_goesOn_7_M (7, v1, 0, v0, h)
noncomputable def Ref_goesOn_32 (v0 : Nat) (v1 : Int32) (v2 : Int32) (h : am_H) : Option (Int32 × am_H) := fx Ref_goesOn_7_F Ref_goesOn_7_M (32, v1, v2, v0, h)
noncomputable def Ref_goesOn_81 (v0 : Nat) (v1 : Int32) (v2 : Int32) (h : am_H) : Option (Int32 × am_H) := fx Ref_goesOn_7_F Ref_goesOn_7_M (81, v1, v2, v0, h)
set_option maxHeartbeats 1000000 in
set_option maxRecDepth 100000 in
theorem Ref_goesOn_7_e (v0 : Nat) (v1 : Int32) (h : am_H) : Ref_goesOn_7 v0 v1 h = ((pV h 12 v0 35 (.int v1)).bind fun h1 => (Ref_hasEnded v0 h1).bind fun r4 => if r4.1 = (0 : Int32) then (Ref_isStuck v0 r4.2).bind fun r9 => if r9.1 = (0 : Int32) then Ref_goesOn_32 v0 v1 (0 : Int32) r9.2 else some ((1 : Int32), r9.2) else some ((0 : Int32), r4.2)) := (fx_eq Ref_goesOn_7_M (7, v1, 0, v0, h)).trans (if_pos rfl)
theorem Ref_goesOn_7_q {v0 : Nat} {v1 : Int32} {h : am_H} {r : (Int32 × am_H)} (hb : Ref_goesOn_7 v0 v1 h = some r) : Eqs h r.2 := Ref_goesOn_7_Q _ _ hb
theorem Ref_goesOn_7_s {v0 : Nat} {v1 : Int32} {h : am_H} {r : (Int32 × am_H)} (hb : Ref_goesOn_7 v0 v1 h = some r) : Sx 88 mX12_goesOn 7 [.ref v0, .int v1, .retAddr 0] [] h (some (.int r.1)) r.2 := (Ref_goesOn_7_T _ _ hb).1 rfl
set_option maxHeartbeats 1000000 in
set_option maxRecDepth 100000 in
theorem Ref_goesOn_32_e (v0 : Nat) (v1 : Int32) (v2 : Int32) (h : am_H) : Ref_goesOn_32 v0 v1 v2 h = ((gI h 12 v0 31).bind fun x14 => if x14 ≤ v2 then (gR h 12 v0 34).bind fun x18 => (gI h 12 v0 32).bind fun x20 => (sI h x18 (((14 : Int32) * v1) + (13 : Int32)) x20).bind fun h22 => Ref_goesOn_81 v0 v1 (0 : Int32) h22 else (gR h 12 v0 34).bind fun x25 => (gR h 12 v0 29).bind fun x27 => (aI h 0 x27 v2).bind fun x29 => (sI h x25 (((14 : Int32) * v1) + v2) x29).bind fun h31 => Ref_goesOn_32 v0 v1 (v2 + (1 : Int32)) h31) := (fx_eq Ref_goesOn_7_M (32, v1, v2, v0, h)).trans ((if_neg (show ¬ (32 : Nat) = 7 by decide)).trans (if_pos rfl))
theorem Ref_goesOn_32_q {v0 : Nat} {v1 : Int32} {v2 : Int32} {h : am_H} {r : (Int32 × am_H)} (hb : Ref_goesOn_32 v0 v1 v2 h = some r) : Eqs h r.2 := Ref_goesOn_7_Q _ _ hb
theorem Ref_goesOn_32_s {v0 : Nat} {v1 : Int32} {v2 : Int32} {h : am_H} {r : (Int32 × am_H)} (hb : Ref_goesOn_32 v0 v1 v2 h = some r) : Sx 88 mX12_goesOn 32 [.ref v0, .int v1, .int v2] [] h (some (.int r.1)) r.2 := (Ref_goesOn_7_T _ _ hb).2.1 rfl
set_option maxHeartbeats 1000000 in
set_option maxRecDepth 100000 in
theorem Ref_goesOn_81_e (v0 : Nat) (v1 : Int32) (v2 : Int32) (h : am_H) : Ref_goesOn_81 v0 v1 v2 h = (if v1 ≤ v2 then (gR h 12 v0 2).bind fun x36 => (aI h 0 x36 (114 : Int32)).bind fun x38 => if v1 = x38 then some ((3 : Int32), h) else (Ref_steps v0 h).bind fun h42 => Ref_goesOn_7 v0 (v1 + (1 : Int32)) h42 else (Ref_wasSo v0 v1 v2 h).bind fun x45 => if x45 = (0 : Int32) then Ref_goesOn_81 v0 v1 (v2 + (1 : Int32)) h else (pV h 12 v0 36 (.int v2)).bind fun h49 => some ((2 : Int32), h49)) := (fx_eq Ref_goesOn_7_M (81, v1, v2, v0, h)).trans ((if_neg (show ¬ (81 : Nat) = 7 by decide)).trans ((if_neg (show ¬ (81 : Nat) = 32 by decide)).trans (if_pos rfl)))
theorem Ref_goesOn_81_q {v0 : Nat} {v1 : Int32} {v2 : Int32} {h : am_H} {r : (Int32 × am_H)} (hb : Ref_goesOn_81 v0 v1 v2 h = some r) : Eqs h r.2 := Ref_goesOn_7_Q _ _ hb
theorem Ref_goesOn_81_s {v0 : Nat} {v1 : Int32} {v2 : Int32} {h : am_H} {r : (Int32 × am_H)} (hb : Ref_goesOn_81 v0 v1 v2 h = some r) : Sx 88 mX12_goesOn 81 [.ref v0, .int v1, .int v2] [] h (some (.int r.1)) r.2 := (Ref_goesOn_7_T _ _ hb).2.2.1 rfl
set_option maxHeartbeats 1000000 in
set_option maxRecDepth 100000 in
noncomputable def Ref_goesOn (v0 : Nat) (h : am_H) : Option (Int32 × am_H) := if isO h 12 v0 = true then (pV h 12 v0 36 (.int (-1 : Int32))).bind fun h52 => Ref_goesOn_7 v0 (0 : Int32) h52 else none
set_option maxHeartbeats 1000000 in
set_option maxRecDepth 100000 in
theorem Ref_goesOn_s {v0 : Nat} {h : am_H} {r : (Int32 × am_H)} (hb : Ref_goesOn v0 h = some r) : Sx 88 mX12_goesOn 0 (am_en [.ref v0] 3) [] h (some (.int r.1)) r.2 := by
  unfold Ref_goesOn at hb
  have hb := (iz hb).2
  show Sx 88 mX12_goesOn 0 [.ref v0, .retAddr 0, .retAddr 0] [] h (some (.int r.1)) r.2
  refine Sx.o (fun _ _ _ k => ex_aload_n dX12_goesOn_0 rfl rfl k) ?_
  refine Sx.o (fun _ _ _ k => op_iconst (-1 : Int32) dX12_goesOn_1 (by decide) k) ?_
  obtain ⟨h52, e_h52, hb53⟩ := ob2 hb
  refine Sx.p (pV_q e_h52) (fun _ _ _ k => op_put pX12_333 dX12_goesOn_2 e_h52 (fun _ => rfl) (fun _ => rfl) k) ?_
  refine Sx.o (fun _ _ _ k => op_iconst (0 : Int32) dX12_goesOn_5 (by decide) k) ?_
  refine Sx.o (L' := [.ref v0, .int (0 : Int32), .retAddr 0]) (fun _ _ _ k => ex_istore_n dX12_goesOn_6 (by decide) k) ?_
  exact Ref_goesOn_7_s hb53
set_option maxHeartbeats 1000000 in
set_option maxRecDepth 100000 in
theorem Ref_goesOn_q {v0 : Nat} {h : am_H} {r : (Int32 × am_H)} (hb : Ref_goesOn v0 h = some r) : Eqs h r.2 := by
  unfold Ref_goesOn at hb
  have hb := (iz hb).2
  have w0 := Eqs.rf h
  obtain ⟨h52, e_h52, hb53⟩ := ob2 hb
  have w54 := w0.tr (pV_q e_h52)
  exact w54.tr (Ref_goesOn_7_q hb53)
theorem Ref_goesOn_o {v0 : Nat} {h : am_H} {r : (Int32 × am_H)} (hb : Ref_goesOn v0 h = some r) : isO h 12 v0 = true := by
  unfold Ref_goesOn at hb
  exact (iz hb).1
set_option maxHeartbeats 1000000 in
set_option maxRecDepth 100000 in
noncomputable def Ref_shuffles_7_b (g : (Nat × Int32 × Nat × am_H) → Option am_H) (v0 : Nat) (v1 : Int32) (h : am_H) : Option am_H := if v1 ≤ (0 : Int32) then some h else (Ref_draws v0 (v1 + (1 : Int32)) h).bind fun r3 => (gR r3.2 12 v0 29).bind fun x6 => (aI r3.2 0 x6 v1).bind fun x8 => (gR r3.2 12 v0 29).bind fun x10 => (gR r3.2 12 v0 29).bind fun x12 => (aI r3.2 0 x12 r3.1).bind fun x14 => (sI r3.2 x10 v1 x14).bind fun h16 => (gR h16 12 v0 29).bind fun x19 => (sI h16 x19 r3.1 x8).bind fun h21 => g (7, (v1 + (-1 : Int32)), v0, h21)
set_option maxHeartbeats 1000000 in
set_option maxRecDepth 100000 in
theorem Ref_shuffles_7_m {g g2 : (Nat × Int32 × Nat × am_H) → Option am_H} (hg : ∀ s, Le (g s) (g2 s)) (v0 : Nat) (v1 : Int32) (h : am_H) : Le (Ref_shuffles_7_b g v0 v1 h) (Ref_shuffles_7_b g2 v0 v1 h) := by unfold Ref_shuffles_7_b; exact le_i (le_r _) (le_b (le_r _) fun r3 => le_b (le_r _) fun x6 => le_b (le_r _) fun x8 => le_b (le_r _) fun x10 => le_b (le_r _) fun x12 => le_b (le_r _) fun x14 => le_b (le_r _) fun h16 => le_b (le_r _) fun x19 => le_b (le_r _) fun h21 => hg _)
noncomputable def Ref_shuffles_7_F (g : (Nat × Int32 × Nat × am_H) → Option am_H) (s : (Nat × Int32 × Nat × am_H)) : Option am_H := if s.1 = 7 then Ref_shuffles_7_b g s.2.2.1 s.2.1 s.2.2.2 else none
theorem Ref_shuffles_7_M : Mn Ref_shuffles_7_F := fun g g2 hg s => by unfold Ref_shuffles_7_F; exact le_i (Ref_shuffles_7_m hg s.2.2.1 s.2.1 s.2.2.2) (le_r _)
def Ref_shuffles_7_P (s : (Nat × Int32 × Nat × am_H)) (r : am_H) : Prop := (s.1 = 7 → Sx 1 mX12_shuffles 7 [.ref s.2.2.1, .int s.2.1, .retAddr 0, .retAddr 0] [] s.2.2.2 none r) ∧ True
set_option maxHeartbeats 1000000 in
set_option maxRecDepth 100000 in
theorem Ref_shuffles_7_t {g : (Nat × Int32 × Nat × am_H) → Option am_H} (hg : ∀ s r, g s = some r → Ref_shuffles_7_P s r) {v0 : Nat} {v1 : Int32} {h : am_H} {r : am_H} (hb : Ref_shuffles_7_b g v0 v1 h = some r) : Sx 1 mX12_shuffles 7 [.ref v0, .int v1, .retAddr 0, .retAddr 0] [] h none r := by
  unfold Ref_shuffles_7_b at hb
  refine Sx.o (fun _ _ _ k => ex_iload_n dX12_shuffles_7 rfl k) ?_
  refine Sx.b (fun _ _ _ k1 k2 => ex_if_le 51 dX12_shuffles_8 (by decide) k1 k2) (fun q => ?_) (fun q => ?_)
  · have hb1 := ip q hb
    obtain rfl := Option.some.inj hb1
    exact Sx.r (fun _ _ _ k => ex_vret rfl dX12_shuffles_51 k)
  · have hb2 := iq q hb
    refine Sx.o (fun _ _ _ k => ex_aload_n dX12_shuffles_11 rfl rfl k) ?_
    refine Sx.o (fun _ _ _ k => ex_iload_n dX12_shuffles_12 rfl k) ?_
    refine Sx.o (fun _ _ _ k => op_iconst (1 : Int32) dX12_shuffles_13 (by decide) k) ?_
    refine Sx.o (fun _ _ _ k => ex_iadd dX12_shuffles_14 k) ?_
    obtain ⟨r3, e_r3, hb4⟩ := ob2 hb2
    refine sx_callV (dc := 0) (as := [.int (v1 + (1 : Int32))]) (stq := [.int r3.1]) (by omega) dX12_shuffles_15 MX12_draws kX12_470 iX12_draws sX12_draws rfl rfl (Ref_draws_o e_r3) rfl rfl (Nat.le_of_ble_eq_true rfl) (Nat.le_of_ble_eq_true rfl) (Ref_draws_s e_r3) rfl ?_
    refine Sx.o (L' := [.ref v0, .int v1, .int r3.1, .retAddr 0]) (fun _ _ _ k => ex_istore_n dX12_shuffles_18 (by decide) k) ?_
    refine Sx.o (fun _ _ _ k => ex_aload_n dX12_shuffles_19 rfl rfl k) ?_
    obtain ⟨x6, e_x6, hb7⟩ := ob2 hb4
    refine Sx.o (fun _ _ _ k => op_getR fX12_65 dX12_shuffles_20 e_x6 k) ?_
    refine Sx.o (fun _ _ _ k => ex_iload_n dX12_shuffles_23 rfl k) ?_
    obtain ⟨x8, e_x8, hb9⟩ := ob2 hb7
    refine Sx.o (fun _ _ _ k => op_iald dX12_shuffles_24 e_x8 k) ?_
    refine Sx.o (L' := [.ref v0, .int v1, .int r3.1, .int x8]) (fun _ _ _ k => ex_istore_n dX12_shuffles_25 (by decide) k) ?_
    refine Sx.o (fun _ _ _ k => ex_aload_n dX12_shuffles_26 rfl rfl k) ?_
    obtain ⟨x10, e_x10, hb11⟩ := ob2 hb9
    refine Sx.o (fun _ _ _ k => op_getR fX12_65 dX12_shuffles_27 e_x10 k) ?_
    refine Sx.o (fun _ _ _ k => ex_iload_n dX12_shuffles_30 rfl k) ?_
    refine Sx.o (fun _ _ _ k => ex_aload_n dX12_shuffles_31 rfl rfl k) ?_
    obtain ⟨x12, e_x12, hb13⟩ := ob2 hb11
    refine Sx.o (fun _ _ _ k => op_getR fX12_65 dX12_shuffles_32 e_x12 k) ?_
    refine Sx.o (fun _ _ _ k => ex_iload_n dX12_shuffles_35 rfl k) ?_
    obtain ⟨x14, e_x14, hb15⟩ := ob2 hb13
    refine Sx.o (fun _ _ _ k => op_iald dX12_shuffles_36 e_x14 k) ?_
    obtain ⟨h16, e_h16, hb17⟩ := ob2 hb15
    refine Sx.p (sI_q e_h16) (fun _ _ _ k => op_iast dX12_shuffles_37 e_h16 k) ?_
    refine Sx.o (fun _ _ _ k => ex_aload_n dX12_shuffles_38 rfl rfl k) ?_
    obtain ⟨x19, e_x19, hb20⟩ := ob2 hb17
    refine Sx.o (fun _ _ _ k => op_getR fX12_65 dX12_shuffles_39 e_x19 k) ?_
    refine Sx.o (fun _ _ _ k => ex_iload_n dX12_shuffles_42 rfl k) ?_
    refine Sx.o (fun _ _ _ k => ex_iload_n dX12_shuffles_43 rfl k) ?_
    obtain ⟨h21, e_h21, hb22⟩ := ob2 hb20
    refine Sx.p (sI_q e_h21) (fun _ _ _ k => op_iast dX12_shuffles_44 e_h21 k) ?_
    refine Sx.o (L' := [.ref v0, .int (v1 + (-1 : Int32)), .int r3.1, .int x8]) (fun _ _ _ k => op_iinc (-1 : Int32) dX12_shuffles_45 (by decide) rfl (by decide) k) ?_
    refine Sx.o (fun _ _ _ k => ex_goto 7 dX12_shuffles_48 (by decide) k) ?_
    refine Sx.fg [true, true, false, false] ?_
    exact (hg _ _ hb22).1 rfl
theorem Ref_shuffles_7_T : ∀ s r, fx Ref_shuffles_7_F Ref_shuffles_7_M s = some r → Ref_shuffles_7_P s r := fx_ind Ref_shuffles_7_M Ref_shuffles_7_P (fun g hg s r hb => by
  unfold Ref_shuffles_7_F at hb
  exact ⟨fun q => Ref_shuffles_7_t hg (ip q hb), trivial⟩)
set_option maxHeartbeats 1000000 in
set_option maxRecDepth 100000 in
theorem Ref_shuffles_7_r {g : (Nat × Int32 × Nat × am_H) → Option am_H} (hg : ∀ s r, g s = some r → Eqs s.2.2.2 r) {v0 : Nat} {v1 : Int32} {h : am_H} {r : am_H} (hb : Ref_shuffles_7_b g v0 v1 h = some r) : Eqs h r := by
  unfold Ref_shuffles_7_b at hb
  have w0 := Eqs.rf h
  by_cases q : v1 ≤ (0 : Int32)
  · have hb1 := ip q hb
    obtain rfl := Option.some.inj hb1
    exact w0
  · have hb2 := iq q hb
    obtain ⟨r3, e_r3, hb4⟩ := ob2 hb2
    have w5 := w0.tr (Ref_draws_q e_r3)
    obtain ⟨x6, e_x6, hb7⟩ := ob2 hb4
    obtain ⟨x8, e_x8, hb9⟩ := ob2 hb7
    obtain ⟨x10, e_x10, hb11⟩ := ob2 hb9
    obtain ⟨x12, e_x12, hb13⟩ := ob2 hb11
    obtain ⟨x14, e_x14, hb15⟩ := ob2 hb13
    obtain ⟨h16, e_h16, hb17⟩ := ob2 hb15
    have w18 := w5.tr (sI_q e_h16)
    obtain ⟨x19, e_x19, hb20⟩ := ob2 hb17
    obtain ⟨h21, e_h21, hb22⟩ := ob2 hb20
    have w23 := w18.tr (sI_q e_h21)
    exact w23.tr (hg _ _ hb22)
theorem Ref_shuffles_7_Q : ∀ s r, fx Ref_shuffles_7_F Ref_shuffles_7_M s = some r → Eqs s.2.2.2 r := fx_ind Ref_shuffles_7_M (fun s r => Eqs s.2.2.2 r) (fun g hg s r hb => by
  unfold Ref_shuffles_7_F at hb
  by_cases q0 : s.1 = 7
  · exact Ref_shuffles_7_r hg (ip q0 hb)
  · have hb0 := iq q0 hb
    exact nomatch hb0)
noncomputable def Ref_shuffles_7 (v0 : Nat) (v1 : Int32) (h : am_H) : Option am_H := fx Ref_shuffles_7_F Ref_shuffles_7_M (7, v1, v0, h)
set_option maxHeartbeats 1000000 in
set_option maxRecDepth 100000 in
theorem Ref_shuffles_7_e (v0 : Nat) (v1 : Int32) (h : am_H) : Ref_shuffles_7 v0 v1 h = (if v1 ≤ (0 : Int32) then some h else (Ref_draws v0 (v1 + (1 : Int32)) h).bind fun r3 => (gR r3.2 12 v0 29).bind fun x6 => (aI r3.2 0 x6 v1).bind fun x8 => (gR r3.2 12 v0 29).bind fun x10 => (gR r3.2 12 v0 29).bind fun x12 => (aI r3.2 0 x12 r3.1).bind fun x14 => (sI r3.2 x10 v1 x14).bind fun h16 => (gR h16 12 v0 29).bind fun x19 => (sI h16 x19 r3.1 x8).bind fun h21 => Ref_shuffles_7 v0 (v1 + (-1 : Int32)) h21) := (fx_eq Ref_shuffles_7_M (7, v1, v0, h)).trans (if_pos rfl)
theorem Ref_shuffles_7_q {v0 : Nat} {v1 : Int32} {h : am_H} {r : am_H} (hb : Ref_shuffles_7 v0 v1 h = some r) : Eqs h r := Ref_shuffles_7_Q _ _ hb
theorem Ref_shuffles_7_s {v0 : Nat} {v1 : Int32} {h : am_H} {r : am_H} (hb : Ref_shuffles_7 v0 v1 h = some r) : Sx 1 mX12_shuffles 7 [.ref v0, .int v1, .retAddr 0, .retAddr 0] [] h none r := (Ref_shuffles_7_T _ _ hb).1 rfl
set_option maxHeartbeats 1000000 in
set_option maxRecDepth 100000 in
noncomputable def Ref_shuffles (v0 : Nat) (h : am_H) : Option am_H := if isO h 12 v0 = true then (gI h 12 v0 31).bind fun x24 => Ref_shuffles_7 v0 (x24 - (1 : Int32)) h else none
set_option maxHeartbeats 1000000 in
set_option maxRecDepth 100000 in
theorem Ref_shuffles_s {v0 : Nat} {h : am_H} {r : am_H} (hb : Ref_shuffles v0 h = some r) : Sx 1 mX12_shuffles 0 (am_en [.ref v0] 4) [] h none r := by
  unfold Ref_shuffles at hb
  have hb := (iz hb).2
  show Sx 1 mX12_shuffles 0 [.ref v0, .retAddr 0, .retAddr 0, .retAddr 0] [] h none r
  refine Sx.o (fun _ _ _ k => ex_aload_n dX12_shuffles_0 rfl rfl k) ?_
  obtain ⟨x24, e_x24, hb25⟩ := ob2 hb
  refine Sx.o (fun _ _ _ k => op_getI fX12_130 dX12_shuffles_1 e_x24 k) ?_
  refine Sx.o (fun _ _ _ k => op_iconst (1 : Int32) dX12_shuffles_4 (by decide) k) ?_
  refine Sx.o (fun _ _ _ k => ex_isub dX12_shuffles_5 k) ?_
  refine Sx.o (L' := [.ref v0, .int (x24 - (1 : Int32)), .retAddr 0, .retAddr 0]) (fun _ _ _ k => ex_istore_n dX12_shuffles_6 (by decide) k) ?_
  exact Ref_shuffles_7_s hb25
set_option maxHeartbeats 1000000 in
set_option maxRecDepth 100000 in
theorem Ref_shuffles_q {v0 : Nat} {h : am_H} {r : am_H} (hb : Ref_shuffles v0 h = some r) : Eqs h r := by
  unfold Ref_shuffles at hb
  have hb := (iz hb).2
  have w0 := Eqs.rf h
  obtain ⟨x24, e_x24, hb25⟩ := ob2 hb
  exact w0.tr (Ref_shuffles_7_q hb25)
theorem Ref_shuffles_o {v0 : Nat} {h : am_H} {r : am_H} (hb : Ref_shuffles v0 h = some r) : isO h 12 v0 = true := by
  unfold Ref_shuffles at hb
  exact (iz hb).1
set_option maxHeartbeats 1000000 in
set_option maxRecDepth 100000 in
noncomputable def Ref_evenings_35 (v0 : Nat) (h : am_H) : Option (Int32 × am_H) := (Ref_refuses v0 (-1 : Int32) h).bind fun r1 => some (r1.1, r1.2)
set_option maxHeartbeats 1000000 in
set_option maxRecDepth 100000 in
theorem Ref_evenings_35_s {v0 : Nat} {h : am_H} {r : (Int32 × am_H)} (hb : Ref_evenings_35 v0 h = some r) : Sx 89 mX12_evenings 35 [.ref v0, .retAddr 0, .retAddr 0, .retAddr 0, .retAddr 0, .retAddr 0, .retAddr 0] [] h (some (.int r.1)) r.2 := by
  unfold Ref_evenings_35 at hb
  refine Sx.o (fun _ _ _ k => ex_aload_n dX12_evenings_35 rfl rfl k) ?_
  refine Sx.o (fun _ _ _ k => op_iconst (-1 : Int32) dX12_evenings_36 (by decide) k) ?_
  obtain ⟨r1, e_r1, hb2⟩ := ob2 hb
  refine sx_callV (dc := 0) (as := [.int (-1 : Int32)]) (stq := [.int r1.1]) (by omega) dX12_evenings_37 MX12_refuses kX12_106 iX12_refuses sX12_refuses rfl rfl (Ref_refuses_o e_r1) rfl rfl (Nat.le_of_ble_eq_true rfl) (Nat.le_of_ble_eq_true rfl) (Ref_refuses_s e_r1) rfl ?_
  obtain rfl := Option.some.inj hb2
  exact Sx.r (fun _ _ _ k => ex_iret rfl dX12_evenings_40 k)
set_option maxHeartbeats 1000000 in
set_option maxRecDepth 100000 in
theorem Ref_evenings_35_q {v0 : Nat} {h : am_H} {r : (Int32 × am_H)} (hb : Ref_evenings_35 v0 h = some r) : Eqs h r.2 := by
  unfold Ref_evenings_35 at hb
  have w0 := Eqs.rf h
  obtain ⟨r1, e_r1, hb2⟩ := ob2 hb
  have w3 := w0.tr (Ref_refuses_q e_r1)
  obtain rfl := Option.some.inj hb2
  exact w3
set_option maxHeartbeats 1000000 in
set_option maxRecDepth 100000 in
noncomputable def Ref_evenings_75_b (g : (Nat × Int32 × Int32 × Int32 × Int32 × Nat × Nat × am_H) → Option (Int32 × am_H)) (v0 : Nat) (v3 : Int32) (v4 : Int32) (v5 : Int32) (h : am_H) : Option (Int32 × am_H) := if v3 ≤ v5 then (Ref_good v0 v4 h).bind fun r6 => some (r6.1, r6.2) else (Ref_shuffles v0 h).bind fun h9 => (pV h9 12 v0 32 (.int (0 : Int32))).bind fun h12 => g (93, v3, v4, v5, (0 : Int32), v0, 0, h12)
set_option maxHeartbeats 1000000 in
set_option maxRecDepth 100000 in
theorem Ref_evenings_75_m {g g2 : (Nat × Int32 × Int32 × Int32 × Int32 × Nat × Nat × am_H) → Option (Int32 × am_H)} (hg : ∀ s, Le (g s) (g2 s)) (v0 : Nat) (v3 : Int32) (v4 : Int32) (v5 : Int32) (h : am_H) : Le (Ref_evenings_75_b g v0 v3 v4 v5 h) (Ref_evenings_75_b g2 v0 v3 v4 v5 h) := by unfold Ref_evenings_75_b; exact le_i (le_r _) (le_b (le_r _) fun h9 => le_b (le_r _) fun h12 => hg _)
set_option maxHeartbeats 1000000 in
set_option maxRecDepth 100000 in
noncomputable def Ref_evenings_93_b (g : (Nat × Int32 × Int32 × Int32 × Int32 × Nat × Nat × am_H) → Option (Int32 × am_H)) (v0 : Nat) (v3 : Int32) (v4 : Int32) (v5 : Int32) (v6 : Int32) (h : am_H) : Option (Int32 × am_H) := (gI h 12 v0 31).bind fun x15 => if x15 ≤ v6 then (Ref_goesOn v0 h).bind fun r19 => if r19.1 = (0 : Int32) then (gI r19.2 12 v0 55).bind fun x24 => (gI r19.2 12 v0 35).bind fun x26 => (pV r19.2 12 v0 55 (.int (x24 + x26))).bind fun h28 => (gI h28 12 v0 56).bind fun x31 => (gI h28 12 v0 35).bind fun x33 => if x33 ≤ x31 then (gI h28 12 v0 56).bind fun x37 => g (171, v3, (v4 + (1 : Int32)), v5, x37, v0, v0, h28) else (gI h28 12 v0 35).bind fun x39 => g (171, v3, (v4 + (1 : Int32)), v5, x39, v0, v0, h28) else g (174, v3, v4, v5, 0, v0, 0, r19.2) else (gR h 12 v0 53).bind fun x41 => (gR h 12 v0 29).bind fun x43 => (aI h 0 x43 v6).bind fun x45 => (sI h x41 v6 x45).bind fun h47 => g (93, v3, v4, v5, (v6 + (1 : Int32)), v0, 0, h47)
set_option maxHeartbeats 1000000 in
set_option maxRecDepth 100000 in
theorem Ref_evenings_93_m {g g2 : (Nat × Int32 × Int32 × Int32 × Int32 × Nat × Nat × am_H) → Option (Int32 × am_H)} (hg : ∀ s, Le (g s) (g2 s)) (v0 : Nat) (v3 : Int32) (v4 : Int32) (v5 : Int32) (v6 : Int32) (h : am_H) : Le (Ref_evenings_93_b g v0 v3 v4 v5 v6 h) (Ref_evenings_93_b g2 v0 v3 v4 v5 v6 h) := by unfold Ref_evenings_93_b; exact le_b (le_r _) fun x15 => le_i (le_b (le_r _) fun r19 => le_i (le_b (le_r _) fun x24 => le_b (le_r _) fun x26 => le_b (le_r _) fun h28 => le_b (le_r _) fun x31 => le_b (le_r _) fun x33 => le_i (le_b (le_r _) fun x37 => hg _) (le_b (le_r _) fun x39 => hg _)) (hg _)) (le_b (le_r _) fun x41 => le_b (le_r _) fun x43 => le_b (le_r _) fun x45 => le_b (le_r _) fun h47 => hg _)
set_option maxHeartbeats 1000000 in
set_option maxRecDepth 100000 in
noncomputable def Ref_evenings_171_b (g : (Nat × Int32 × Int32 × Int32 × Int32 × Nat × Nat × am_H) → Option (Int32 × am_H)) (v0 : Nat) (v3 : Int32) (v4 : Int32) (v5 : Int32) (s0 : Int32) (s1 : Nat) (h : am_H) : Option (Int32 × am_H) := (pV h 12 s1 56 (.int s0)).bind fun h50 => g (174, v3, v4, v5, 0, v0, 0, h50)
set_option maxHeartbeats 1000000 in
set_option maxRecDepth 100000 in
theorem Ref_evenings_171_m {g g2 : (Nat × Int32 × Int32 × Int32 × Int32 × Nat × Nat × am_H) → Option (Int32 × am_H)} (hg : ∀ s, Le (g s) (g2 s)) (v0 : Nat) (v3 : Int32) (v4 : Int32) (v5 : Int32) (s0 : Int32) (s1 : Nat) (h : am_H) : Le (Ref_evenings_171_b g v0 v3 v4 v5 s0 s1 h) (Ref_evenings_171_b g2 v0 v3 v4 v5 s0 s1 h) := by unfold Ref_evenings_171_b; exact le_b (le_r _) fun h50 => hg _
set_option maxHeartbeats 1000000 in
set_option maxRecDepth 100000 in
noncomputable def Ref_evenings_174_b (g : (Nat × Int32 × Int32 × Int32 × Int32 × Nat × Nat × am_H) → Option (Int32 × am_H)) (v0 : Nat) (v3 : Int32) (v4 : Int32) (v5 : Int32) (h : am_H) : Option (Int32 × am_H) := g (75, v3, v4, (v5 + (1 : Int32)), 0, v0, 0, h)
set_option maxHeartbeats 1000000 in
set_option maxRecDepth 100000 in
theorem Ref_evenings_174_m {g g2 : (Nat × Int32 × Int32 × Int32 × Int32 × Nat × Nat × am_H) → Option (Int32 × am_H)} (hg : ∀ s, Le (g s) (g2 s)) (v0 : Nat) (v3 : Int32) (v4 : Int32) (v5 : Int32) (h : am_H) : Le (Ref_evenings_174_b g v0 v3 v4 v5 h) (Ref_evenings_174_b g2 v0 v3 v4 v5 h) := by unfold Ref_evenings_174_b; exact hg _
noncomputable def Ref_evenings_75_F (g : (Nat × Int32 × Int32 × Int32 × Int32 × Nat × Nat × am_H) → Option (Int32 × am_H)) (s : (Nat × Int32 × Int32 × Int32 × Int32 × Nat × Nat × am_H)) : Option (Int32 × am_H) := if s.1 = 75 then Ref_evenings_75_b g s.2.2.2.2.2.1 s.2.1 s.2.2.1 s.2.2.2.1 s.2.2.2.2.2.2.2 else if s.1 = 93 then Ref_evenings_93_b g s.2.2.2.2.2.1 s.2.1 s.2.2.1 s.2.2.2.1 s.2.2.2.2.1 s.2.2.2.2.2.2.2 else if s.1 = 171 then Ref_evenings_171_b g s.2.2.2.2.2.1 s.2.1 s.2.2.1 s.2.2.2.1 s.2.2.2.2.1 s.2.2.2.2.2.2.1 s.2.2.2.2.2.2.2 else if s.1 = 174 then Ref_evenings_174_b g s.2.2.2.2.2.1 s.2.1 s.2.2.1 s.2.2.2.1 s.2.2.2.2.2.2.2 else none
theorem Ref_evenings_75_M : Mn Ref_evenings_75_F := fun g g2 hg s => by unfold Ref_evenings_75_F; exact le_i (Ref_evenings_75_m hg s.2.2.2.2.2.1 s.2.1 s.2.2.1 s.2.2.2.1 s.2.2.2.2.2.2.2) (le_i (Ref_evenings_93_m hg s.2.2.2.2.2.1 s.2.1 s.2.2.1 s.2.2.2.1 s.2.2.2.2.1 s.2.2.2.2.2.2.2) (le_i (Ref_evenings_171_m hg s.2.2.2.2.2.1 s.2.1 s.2.2.1 s.2.2.2.1 s.2.2.2.2.1 s.2.2.2.2.2.2.1 s.2.2.2.2.2.2.2) (le_i (Ref_evenings_174_m hg s.2.2.2.2.2.1 s.2.1 s.2.2.1 s.2.2.2.1 s.2.2.2.2.2.2.2) (le_r _))))
def Ref_evenings_75_P (s : (Nat × Int32 × Int32 × Int32 × Int32 × Nat × Nat × am_H)) (r : (Int32 × am_H)) : Prop := (s.1 = 75 → Sx 89 mX12_evenings 75 [.ref s.2.2.2.2.2.1, .retAddr 0, .retAddr 0, .int s.2.1, .int s.2.2.1, .int s.2.2.2.1, .retAddr 0] [] s.2.2.2.2.2.2.2 (some (.int r.1)) r.2) ∧ (s.1 = 93 → Sx 89 mX12_evenings 93 [.ref s.2.2.2.2.2.1, .retAddr 0, .retAddr 0, .int s.2.1, .int s.2.2.1, .int s.2.2.2.1, .int s.2.2.2.2.1] [] s.2.2.2.2.2.2.2 (some (.int r.1)) r.2) ∧ (s.1 = 171 → Sx 89 mX12_evenings 171 [.ref s.2.2.2.2.2.1, .retAddr 0, .retAddr 0, .int s.2.1, .int s.2.2.1, .int s.2.2.2.1, .retAddr 0] [.int s.2.2.2.2.1, .ref s.2.2.2.2.2.2.1] s.2.2.2.2.2.2.2 (some (.int r.1)) r.2) ∧ (s.1 = 174 → Sx 89 mX12_evenings 174 [.ref s.2.2.2.2.2.1, .retAddr 0, .retAddr 0, .int s.2.1, .int s.2.2.1, .int s.2.2.2.1, .retAddr 0] [] s.2.2.2.2.2.2.2 (some (.int r.1)) r.2) ∧ True
set_option maxHeartbeats 1000000 in
set_option maxRecDepth 100000 in
theorem Ref_evenings_75_t {g : (Nat × Int32 × Int32 × Int32 × Int32 × Nat × Nat × am_H) → Option (Int32 × am_H)} (hg : ∀ s r, g s = some r → Ref_evenings_75_P s r) {v0 : Nat} {v3 : Int32} {v4 : Int32} {v5 : Int32} {h : am_H} {r : (Int32 × am_H)} (hb : Ref_evenings_75_b g v0 v3 v4 v5 h = some r) : Sx 89 mX12_evenings 75 [.ref v0, .retAddr 0, .retAddr 0, .int v3, .int v4, .int v5, .retAddr 0] [] h (some (.int r.1)) r.2 := by
  unfold Ref_evenings_75_b at hb
  refine Sx.o (fun _ _ _ k => ex_iload dX12_evenings_75 rfl k) ?_
  refine Sx.o (fun _ _ _ k => ex_iload_n dX12_evenings_77 rfl k) ?_
  refine Sx.b (fun _ _ _ k1 k2 => ex_icmp_ge 180 dX12_evenings_78 (by decide) k1 k2) (fun q => ?_) (fun q => ?_)
  · have hb4 := ip q hb
    refine Sx.o (fun _ _ _ k => ex_aload_n dX12_evenings_180 rfl rfl k) ?_
    refine Sx.o (fun _ _ _ k => ex_iload dX12_evenings_181 rfl k) ?_
    obtain ⟨r6, e_r6, hb7⟩ := ob2 hb4
    refine sx_callV (dc := 0) (as := [.int v4]) (stq := [.int r6.1]) (by omega) dX12_evenings_183 MX12_good kX12_14 iX12_good sX12_good rfl rfl (Ref_good_o e_r6) rfl rfl (Nat.le_of_ble_eq_true rfl) (Nat.le_of_ble_eq_true rfl) (Ref_good_s e_r6) rfl ?_
    obtain rfl := Option.some.inj hb7
    exact Sx.r (fun _ _ _ k => ex_iret rfl dX12_evenings_186 k)
  · have hb5 := iq q hb
    refine Sx.o (fun _ _ _ k => ex_aload_n dX12_evenings_81 rfl rfl k) ?_
    obtain ⟨h9, e_h9, hb10⟩ := ob2 hb5
    refine sx_callV (dc := 1) (as := []) (stq := []) (by omega) dX12_evenings_82 MX12_shuffles kX12_479 iX12_shuffles sX12_shuffles rfl rfl (Ref_shuffles_o e_h9) rfl rfl (Nat.le_of_ble_eq_true rfl) (Nat.le_of_ble_eq_true rfl) (Ref_shuffles_s e_h9) rfl ?_
    refine Sx.o (fun _ _ _ k => ex_aload_n dX12_evenings_85 rfl rfl k) ?_
    refine Sx.o (fun _ _ _ k => op_iconst (0 : Int32) dX12_evenings_86 (by decide) k) ?_
    obtain ⟨h12, e_h12, hb13⟩ := ob2 hb10
    refine Sx.p (pV_q e_h12) (fun _ _ _ k => op_put pX12_133 dX12_evenings_87 e_h12 (fun _ => rfl) (fun _ => rfl) k) ?_
    refine Sx.o (fun _ _ _ k => op_iconst (0 : Int32) dX12_evenings_90 (by decide) k) ?_
    refine Sx.o (L' := [.ref v0, .retAddr 0, .retAddr 0, .int v3, .int v4, .int v5, .int (0 : Int32)]) (fun _ _ _ k => ex_istore dX12_evenings_91 (by decide) k) ?_
    exact (hg _ _ hb13).2.1 rfl
set_option maxHeartbeats 1000000 in
set_option maxRecDepth 100000 in
theorem Ref_evenings_93_t {g : (Nat × Int32 × Int32 × Int32 × Int32 × Nat × Nat × am_H) → Option (Int32 × am_H)} (hg : ∀ s r, g s = some r → Ref_evenings_75_P s r) {v0 : Nat} {v3 : Int32} {v4 : Int32} {v5 : Int32} {v6 : Int32} {h : am_H} {r : (Int32 × am_H)} (hb : Ref_evenings_93_b g v0 v3 v4 v5 v6 h = some r) : Sx 89 mX12_evenings 93 [.ref v0, .retAddr 0, .retAddr 0, .int v3, .int v4, .int v5, .int v6] [] h (some (.int r.1)) r.2 := by
  unfold Ref_evenings_93_b at hb
  refine Sx.o (fun _ _ _ k => ex_iload dX12_evenings_93 rfl k) ?_
  refine Sx.o (fun _ _ _ k => ex_aload_n dX12_evenings_95 rfl rfl k) ?_
  obtain ⟨x15, e_x15, hb16⟩ := ob2 hb
  refine Sx.o (fun _ _ _ k => op_getI fX12_130 dX12_evenings_96 e_x15 k) ?_
  refine Sx.b (fun _ _ _ k1 k2 => ex_icmp_ge 122 dX12_evenings_99 (by decide) k1 k2) (fun q => ?_) (fun q => ?_)
  · have hb17 := ip q hb16
    refine Sx.o (fun _ _ _ k => ex_aload_n dX12_evenings_122 rfl rfl k) ?_
    obtain ⟨r19, e_r19, hb20⟩ := ob2 hb17
    refine sx_callV (dc := 88) (as := []) (stq := [.int r19.1]) (by omega) dX12_evenings_123 MX12_goesOn kX12_346 iX12_goesOn sX12_goesOn rfl rfl (Ref_goesOn_o e_r19) rfl rfl (Nat.le_of_ble_eq_true rfl) (Nat.le_of_ble_eq_true rfl) (Ref_goesOn_s e_r19) rfl ?_
    refine Sx.b (fun _ _ _ k1 k2 => ex_if_eq 132 dX12_evenings_126 (by decide) k1 k2) (fun q => ?_) (fun q => ?_)
    · have hb22 := ip q hb20
      refine Sx.o (L' := [.ref v0, .retAddr 0, .retAddr 0, .int v3, .int (v4 + (1 : Int32)), .int v5, .int v6]) (fun _ _ _ k => op_iinc (1 : Int32) dX12_evenings_132 (by decide) rfl (by decide) k) ?_
      refine Sx.o (fun _ _ _ k => ex_aload_n dX12_evenings_135 rfl rfl k) ?_
      refine Sx.o (fun _ _ _ k => ex_dup dX12_evenings_136 rfl k) ?_
      obtain ⟨x24, e_x24, hb25⟩ := ob2 hb22
      refine Sx.o (fun _ _ _ k => op_getI fX12_473 dX12_evenings_137 e_x24 k) ?_
      refine Sx.o (fun _ _ _ k => ex_aload_n dX12_evenings_140 rfl rfl k) ?_
      obtain ⟨x26, e_x26, hb27⟩ := ob2 hb25
      refine Sx.o (fun _ _ _ k => op_getI fX12_336 dX12_evenings_141 e_x26 k) ?_
      refine Sx.o (fun _ _ _ k => ex_iadd dX12_evenings_144 k) ?_
      obtain ⟨h28, e_h28, hb29⟩ := ob2 hb27
      refine Sx.p (pV_q e_h28) (fun _ _ _ k => op_put pX12_473 dX12_evenings_145 e_h28 (fun _ => rfl) (fun _ => rfl) k) ?_
      refine Sx.o (fun _ _ _ k => ex_aload_n dX12_evenings_148 rfl rfl k) ?_
      refine Sx.o (fun _ _ _ k => ex_aload_n dX12_evenings_149 rfl rfl k) ?_
      obtain ⟨x31, e_x31, hb32⟩ := ob2 hb29
      refine Sx.o (fun _ _ _ k => op_getI fX12_476 dX12_evenings_150 e_x31 k) ?_
      refine Sx.o (fun _ _ _ k => ex_aload_n dX12_evenings_153 rfl rfl k) ?_
      obtain ⟨x33, e_x33, hb34⟩ := ob2 hb32
      refine Sx.o (fun _ _ _ k => op_getI fX12_336 dX12_evenings_154 e_x33 k) ?_
      refine Sx.b (fun _ _ _ k1 k2 => ex_icmp_ge 167 dX12_evenings_157 (by decide) k1 k2) (fun q => ?_) (fun q => ?_)
      · have hb35 := ip q hb34
        refine Sx.o (fun _ _ _ k => ex_aload_n dX12_evenings_167 rfl rfl k) ?_
        obtain ⟨x37, e_x37, hb38⟩ := ob2 hb35
        refine Sx.o (fun _ _ _ k => op_getI fX12_476 dX12_evenings_168 e_x37 k) ?_
        refine Sx.fg [true, true, true, true, true, true, false] ?_
        exact (hg _ _ hb38).2.2.1 rfl
      · have hb36 := iq q hb34
        refine Sx.o (fun _ _ _ k => ex_aload_n dX12_evenings_160 rfl rfl k) ?_
        obtain ⟨x39, e_x39, hb40⟩ := ob2 hb36
        refine Sx.o (fun _ _ _ k => op_getI fX12_336 dX12_evenings_161 e_x39 k) ?_
        refine Sx.o (fun _ _ _ k => ex_goto 171 dX12_evenings_164 (by decide) k) ?_
        refine Sx.fg [true, true, true, true, true, true, false] ?_
        exact (hg _ _ hb40).2.2.1 rfl
    · have hb23 := iq q hb20
      refine Sx.o (fun _ _ _ k => ex_goto 174 dX12_evenings_129 (by decide) k) ?_
      refine Sx.fg [true, true, true, true, true, true, false] ?_
      exact (hg _ _ hb23).2.2.2.1 rfl
  · have hb18 := iq q hb16
    refine Sx.o (fun _ _ _ k => ex_aload_n dX12_evenings_102 rfl rfl k) ?_
    obtain ⟨x41, e_x41, hb42⟩ := ob2 hb18
    refine Sx.o (fun _ _ _ k => op_getR fX12_96 dX12_evenings_103 e_x41 k) ?_
    refine Sx.o (fun _ _ _ k => ex_iload dX12_evenings_106 rfl k) ?_
    refine Sx.o (fun _ _ _ k => ex_aload_n dX12_evenings_108 rfl rfl k) ?_
    obtain ⟨x43, e_x43, hb44⟩ := ob2 hb42
    refine Sx.o (fun _ _ _ k => op_getR fX12_65 dX12_evenings_109 e_x43 k) ?_
    refine Sx.o (fun _ _ _ k => ex_iload dX12_evenings_112 rfl k) ?_
    obtain ⟨x45, e_x45, hb46⟩ := ob2 hb44
    refine Sx.o (fun _ _ _ k => op_iald dX12_evenings_114 e_x45 k) ?_
    obtain ⟨h47, e_h47, hb48⟩ := ob2 hb46
    refine Sx.p (sI_q e_h47) (fun _ _ _ k => op_iast dX12_evenings_115 e_h47 k) ?_
    refine Sx.o (L' := [.ref v0, .retAddr 0, .retAddr 0, .int v3, .int v4, .int v5, .int (v6 + (1 : Int32))]) (fun _ _ _ k => op_iinc (1 : Int32) dX12_evenings_116 (by decide) rfl (by decide) k) ?_
    refine Sx.o (fun _ _ _ k => ex_goto 93 dX12_evenings_119 (by decide) k) ?_
    exact (hg _ _ hb48).2.1 rfl
set_option maxHeartbeats 1000000 in
set_option maxRecDepth 100000 in
theorem Ref_evenings_171_t {g : (Nat × Int32 × Int32 × Int32 × Int32 × Nat × Nat × am_H) → Option (Int32 × am_H)} (hg : ∀ s r, g s = some r → Ref_evenings_75_P s r) {v0 : Nat} {v3 : Int32} {v4 : Int32} {v5 : Int32} {s0 : Int32} {s1 : Nat} {h : am_H} {r : (Int32 × am_H)} (hb : Ref_evenings_171_b g v0 v3 v4 v5 s0 s1 h = some r) : Sx 89 mX12_evenings 171 [.ref v0, .retAddr 0, .retAddr 0, .int v3, .int v4, .int v5, .retAddr 0] [.int s0, .ref s1] h (some (.int r.1)) r.2 := by
  unfold Ref_evenings_171_b at hb
  obtain ⟨h50, e_h50, hb51⟩ := ob2 hb
  refine Sx.p (pV_q e_h50) (fun _ _ _ k => op_put pX12_476 dX12_evenings_171 e_h50 (fun _ => rfl) (fun _ => rfl) k) ?_
  exact (hg _ _ hb51).2.2.2.1 rfl
set_option maxHeartbeats 1000000 in
set_option maxRecDepth 100000 in
theorem Ref_evenings_174_t {g : (Nat × Int32 × Int32 × Int32 × Int32 × Nat × Nat × am_H) → Option (Int32 × am_H)} (hg : ∀ s r, g s = some r → Ref_evenings_75_P s r) {v0 : Nat} {v3 : Int32} {v4 : Int32} {v5 : Int32} {h : am_H} {r : (Int32 × am_H)} (hb : Ref_evenings_174_b g v0 v3 v4 v5 h = some r) : Sx 89 mX12_evenings 174 [.ref v0, .retAddr 0, .retAddr 0, .int v3, .int v4, .int v5, .retAddr 0] [] h (some (.int r.1)) r.2 := by
  unfold Ref_evenings_174_b at hb
  refine Sx.o (L' := [.ref v0, .retAddr 0, .retAddr 0, .int v3, .int v4, .int (v5 + (1 : Int32)), .retAddr 0]) (fun _ _ _ k => op_iinc (1 : Int32) dX12_evenings_174 (by decide) rfl (by decide) k) ?_
  refine Sx.o (fun _ _ _ k => ex_goto 75 dX12_evenings_177 (by decide) k) ?_
  exact (hg _ _ hb).1 rfl
theorem Ref_evenings_75_T : ∀ s r, fx Ref_evenings_75_F Ref_evenings_75_M s = some r → Ref_evenings_75_P s r := fx_ind Ref_evenings_75_M Ref_evenings_75_P (fun g hg s r hb => by
  unfold Ref_evenings_75_F at hb
  exact ⟨fun q => Ref_evenings_75_t hg (ip q hb), fun q => Ref_evenings_93_t hg (ip q (iq (by rw [q]; decide) hb)), fun q => Ref_evenings_171_t hg (ip q (iq (by rw [q]; decide) (iq (by rw [q]; decide) hb))), fun q => Ref_evenings_174_t hg (ip q (iq (by rw [q]; decide) (iq (by rw [q]; decide) (iq (by rw [q]; decide) hb)))), trivial⟩)
set_option maxHeartbeats 1000000 in
set_option maxRecDepth 100000 in
theorem Ref_evenings_75_r {g : (Nat × Int32 × Int32 × Int32 × Int32 × Nat × Nat × am_H) → Option (Int32 × am_H)} (hg : ∀ s r, g s = some r → Eqs s.2.2.2.2.2.2.2 r.2) {v0 : Nat} {v3 : Int32} {v4 : Int32} {v5 : Int32} {h : am_H} {r : (Int32 × am_H)} (hb : Ref_evenings_75_b g v0 v3 v4 v5 h = some r) : Eqs h r.2 := by
  unfold Ref_evenings_75_b at hb
  have w0 := Eqs.rf h
  by_cases q : v3 ≤ v5
  · have hb4 := ip q hb
    obtain ⟨r6, e_r6, hb7⟩ := ob2 hb4
    have w8 := w0.tr (Ref_good_q e_r6)
    obtain rfl := Option.some.inj hb7
    exact w8
  · have hb5 := iq q hb
    obtain ⟨h9, e_h9, hb10⟩ := ob2 hb5
    have w11 := w0.tr (Ref_shuffles_q e_h9)
    obtain ⟨h12, e_h12, hb13⟩ := ob2 hb10
    have w14 := w11.tr (pV_q e_h12)
    exact w14.tr (hg _ _ hb13)
set_option maxHeartbeats 1000000 in
set_option maxRecDepth 100000 in
theorem Ref_evenings_93_r {g : (Nat × Int32 × Int32 × Int32 × Int32 × Nat × Nat × am_H) → Option (Int32 × am_H)} (hg : ∀ s r, g s = some r → Eqs s.2.2.2.2.2.2.2 r.2) {v0 : Nat} {v3 : Int32} {v4 : Int32} {v5 : Int32} {v6 : Int32} {h : am_H} {r : (Int32 × am_H)} (hb : Ref_evenings_93_b g v0 v3 v4 v5 v6 h = some r) : Eqs h r.2 := by
  unfold Ref_evenings_93_b at hb
  have w0 := Eqs.rf h
  obtain ⟨x15, e_x15, hb16⟩ := ob2 hb
  by_cases q : x15 ≤ v6
  · have hb17 := ip q hb16
    obtain ⟨r19, e_r19, hb20⟩ := ob2 hb17
    have w21 := w0.tr (Ref_goesOn_q e_r19)
    by_cases q : r19.1 = (0 : Int32)
    · have hb22 := ip q hb20
      obtain ⟨x24, e_x24, hb25⟩ := ob2 hb22
      obtain ⟨x26, e_x26, hb27⟩ := ob2 hb25
      obtain ⟨h28, e_h28, hb29⟩ := ob2 hb27
      have w30 := w21.tr (pV_q e_h28)
      obtain ⟨x31, e_x31, hb32⟩ := ob2 hb29
      obtain ⟨x33, e_x33, hb34⟩ := ob2 hb32
      by_cases q : x33 ≤ x31
      · have hb35 := ip q hb34
        obtain ⟨x37, e_x37, hb38⟩ := ob2 hb35
        exact w30.tr (hg _ _ hb38)
      · have hb36 := iq q hb34
        obtain ⟨x39, e_x39, hb40⟩ := ob2 hb36
        exact w30.tr (hg _ _ hb40)
    · have hb23 := iq q hb20
      exact w21.tr (hg _ _ hb23)
  · have hb18 := iq q hb16
    obtain ⟨x41, e_x41, hb42⟩ := ob2 hb18
    obtain ⟨x43, e_x43, hb44⟩ := ob2 hb42
    obtain ⟨x45, e_x45, hb46⟩ := ob2 hb44
    obtain ⟨h47, e_h47, hb48⟩ := ob2 hb46
    have w49 := w0.tr (sI_q e_h47)
    exact w49.tr (hg _ _ hb48)
set_option maxHeartbeats 1000000 in
set_option maxRecDepth 100000 in
theorem Ref_evenings_171_r {g : (Nat × Int32 × Int32 × Int32 × Int32 × Nat × Nat × am_H) → Option (Int32 × am_H)} (hg : ∀ s r, g s = some r → Eqs s.2.2.2.2.2.2.2 r.2) {v0 : Nat} {v3 : Int32} {v4 : Int32} {v5 : Int32} {s0 : Int32} {s1 : Nat} {h : am_H} {r : (Int32 × am_H)} (hb : Ref_evenings_171_b g v0 v3 v4 v5 s0 s1 h = some r) : Eqs h r.2 := by
  unfold Ref_evenings_171_b at hb
  have w0 := Eqs.rf h
  obtain ⟨h50, e_h50, hb51⟩ := ob2 hb
  have w52 := w0.tr (pV_q e_h50)
  exact w52.tr (hg _ _ hb51)
set_option maxHeartbeats 1000000 in
set_option maxRecDepth 100000 in
theorem Ref_evenings_174_r {g : (Nat × Int32 × Int32 × Int32 × Int32 × Nat × Nat × am_H) → Option (Int32 × am_H)} (hg : ∀ s r, g s = some r → Eqs s.2.2.2.2.2.2.2 r.2) {v0 : Nat} {v3 : Int32} {v4 : Int32} {v5 : Int32} {h : am_H} {r : (Int32 × am_H)} (hb : Ref_evenings_174_b g v0 v3 v4 v5 h = some r) : Eqs h r.2 := by
  unfold Ref_evenings_174_b at hb
  have w0 := Eqs.rf h
  exact w0.tr (hg _ _ hb)
theorem Ref_evenings_75_Q : ∀ s r, fx Ref_evenings_75_F Ref_evenings_75_M s = some r → Eqs s.2.2.2.2.2.2.2 r.2 := fx_ind Ref_evenings_75_M (fun s r => Eqs s.2.2.2.2.2.2.2 r.2) (fun g hg s r hb => by
  unfold Ref_evenings_75_F at hb
  by_cases q0 : s.1 = 75
  · exact Ref_evenings_75_r hg (ip q0 hb)
  · have hb0 := iq q0 hb
    by_cases q1 : s.1 = 93
    · exact Ref_evenings_93_r hg (ip q1 hb0)
    · have hb1 := iq q1 hb0
      by_cases q2 : s.1 = 171
      · exact Ref_evenings_171_r hg (ip q2 hb1)
      · have hb2 := iq q2 hb1
        by_cases q3 : s.1 = 174
        · exact Ref_evenings_174_r hg (ip q3 hb2)
        · have hb3 := iq q3 hb2
          exact nomatch hb3)
noncomputable def Ref_evenings_75 (v0 : Nat) (v3 : Int32) (v4 : Int32) (v5 : Int32) (h : am_H) : Option (Int32 × am_H) := fx Ref_evenings_75_F Ref_evenings_75_M (75, v3, v4, v5, 0, v0, 0, h)
noncomputable def Ref_evenings_93 (v0 : Nat) (v3 : Int32) (v4 : Int32) (v5 : Int32) (v6 : Int32) (h : am_H) : Option (Int32 × am_H) := fx Ref_evenings_75_F Ref_evenings_75_M (93, v3, v4, v5, v6, v0, 0, h)
noncomputable def Ref_evenings_171 (v0 : Nat) (v3 : Int32) (v4 : Int32) (v5 : Int32) (s0 : Int32) (s1 : Nat) (h : am_H) : Option (Int32 × am_H) := fx Ref_evenings_75_F Ref_evenings_75_M (171, v3, v4, v5, s0, v0, s1, h)
noncomputable def Ref_evenings_174 (v0 : Nat) (v3 : Int32) (v4 : Int32) (v5 : Int32) (h : am_H) : Option (Int32 × am_H) := fx Ref_evenings_75_F Ref_evenings_75_M (174, v3, v4, v5, 0, v0, 0, h)
set_option maxHeartbeats 1000000 in
set_option maxRecDepth 100000 in
theorem Ref_evenings_75_e (v0 : Nat) (v3 : Int32) (v4 : Int32) (v5 : Int32) (h : am_H) : Ref_evenings_75 v0 v3 v4 v5 h = (if v3 ≤ v5 then (Ref_good v0 v4 h).bind fun r6 => some (r6.1, r6.2) else (Ref_shuffles v0 h).bind fun h9 => (pV h9 12 v0 32 (.int (0 : Int32))).bind fun h12 => Ref_evenings_93 v0 v3 v4 v5 (0 : Int32) h12) := (fx_eq Ref_evenings_75_M (75, v3, v4, v5, 0, v0, 0, h)).trans (if_pos rfl)
theorem Ref_evenings_75_q {v0 : Nat} {v3 : Int32} {v4 : Int32} {v5 : Int32} {h : am_H} {r : (Int32 × am_H)} (hb : Ref_evenings_75 v0 v3 v4 v5 h = some r) : Eqs h r.2 := Ref_evenings_75_Q _ _ hb
theorem Ref_evenings_75_s {v0 : Nat} {v3 : Int32} {v4 : Int32} {v5 : Int32} {h : am_H} {r : (Int32 × am_H)} (hb : Ref_evenings_75 v0 v3 v4 v5 h = some r) : Sx 89 mX12_evenings 75 [.ref v0, .retAddr 0, .retAddr 0, .int v3, .int v4, .int v5, .retAddr 0] [] h (some (.int r.1)) r.2 := (Ref_evenings_75_T _ _ hb).1 rfl
set_option maxHeartbeats 1000000 in
set_option maxRecDepth 100000 in
theorem Ref_evenings_93_e (v0 : Nat) (v3 : Int32) (v4 : Int32) (v5 : Int32) (v6 : Int32) (h : am_H) : Ref_evenings_93 v0 v3 v4 v5 v6 h = ((gI h 12 v0 31).bind fun x15 => if x15 ≤ v6 then (Ref_goesOn v0 h).bind fun r19 => if r19.1 = (0 : Int32) then (gI r19.2 12 v0 55).bind fun x24 => (gI r19.2 12 v0 35).bind fun x26 => (pV r19.2 12 v0 55 (.int (x24 + x26))).bind fun h28 => (gI h28 12 v0 56).bind fun x31 => (gI h28 12 v0 35).bind fun x33 => if x33 ≤ x31 then (gI h28 12 v0 56).bind fun x37 => Ref_evenings_171 v0 v3 (v4 + (1 : Int32)) v5 x37 v0 h28 else (gI h28 12 v0 35).bind fun x39 => Ref_evenings_171 v0 v3 (v4 + (1 : Int32)) v5 x39 v0 h28 else Ref_evenings_174 v0 v3 v4 v5 r19.2 else (gR h 12 v0 53).bind fun x41 => (gR h 12 v0 29).bind fun x43 => (aI h 0 x43 v6).bind fun x45 => (sI h x41 v6 x45).bind fun h47 => Ref_evenings_93 v0 v3 v4 v5 (v6 + (1 : Int32)) h47) := (fx_eq Ref_evenings_75_M (93, v3, v4, v5, v6, v0, 0, h)).trans ((if_neg (show ¬ (93 : Nat) = 75 by decide)).trans (if_pos rfl))
theorem Ref_evenings_93_q {v0 : Nat} {v3 : Int32} {v4 : Int32} {v5 : Int32} {v6 : Int32} {h : am_H} {r : (Int32 × am_H)} (hb : Ref_evenings_93 v0 v3 v4 v5 v6 h = some r) : Eqs h r.2 := Ref_evenings_75_Q _ _ hb
theorem Ref_evenings_93_s {v0 : Nat} {v3 : Int32} {v4 : Int32} {v5 : Int32} {v6 : Int32} {h : am_H} {r : (Int32 × am_H)} (hb : Ref_evenings_93 v0 v3 v4 v5 v6 h = some r) : Sx 89 mX12_evenings 93 [.ref v0, .retAddr 0, .retAddr 0, .int v3, .int v4, .int v5, .int v6] [] h (some (.int r.1)) r.2 := (Ref_evenings_75_T _ _ hb).2.1 rfl
set_option maxHeartbeats 1000000 in
set_option maxRecDepth 100000 in
theorem Ref_evenings_171_e (v0 : Nat) (v3 : Int32) (v4 : Int32) (v5 : Int32) (s0 : Int32) (s1 : Nat) (h : am_H) : Ref_evenings_171 v0 v3 v4 v5 s0 s1 h = ((pV h 12 s1 56 (.int s0)).bind fun h50 => Ref_evenings_174 v0 v3 v4 v5 h50) := (fx_eq Ref_evenings_75_M (171, v3, v4, v5, s0, v0, s1, h)).trans ((if_neg (show ¬ (171 : Nat) = 75 by decide)).trans ((if_neg (show ¬ (171 : Nat) = 93 by decide)).trans (if_pos rfl)))
theorem Ref_evenings_171_q {v0 : Nat} {v3 : Int32} {v4 : Int32} {v5 : Int32} {s0 : Int32} {s1 : Nat} {h : am_H} {r : (Int32 × am_H)} (hb : Ref_evenings_171 v0 v3 v4 v5 s0 s1 h = some r) : Eqs h r.2 := Ref_evenings_75_Q _ _ hb
theorem Ref_evenings_171_s {v0 : Nat} {v3 : Int32} {v4 : Int32} {v5 : Int32} {s0 : Int32} {s1 : Nat} {h : am_H} {r : (Int32 × am_H)} (hb : Ref_evenings_171 v0 v3 v4 v5 s0 s1 h = some r) : Sx 89 mX12_evenings 171 [.ref v0, .retAddr 0, .retAddr 0, .int v3, .int v4, .int v5, .retAddr 0] [.int s0, .ref s1] h (some (.int r.1)) r.2 := (Ref_evenings_75_T _ _ hb).2.2.1 rfl
set_option maxHeartbeats 1000000 in
set_option maxRecDepth 100000 in
theorem Ref_evenings_174_e (v0 : Nat) (v3 : Int32) (v4 : Int32) (v5 : Int32) (h : am_H) : Ref_evenings_174 v0 v3 v4 v5 h = (Ref_evenings_75 v0 v3 v4 (v5 + (1 : Int32)) h) := (fx_eq Ref_evenings_75_M (174, v3, v4, v5, 0, v0, 0, h)).trans ((if_neg (show ¬ (174 : Nat) = 75 by decide)).trans ((if_neg (show ¬ (174 : Nat) = 93 by decide)).trans ((if_neg (show ¬ (174 : Nat) = 171 by decide)).trans (if_pos rfl))))
theorem Ref_evenings_174_q {v0 : Nat} {v3 : Int32} {v4 : Int32} {v5 : Int32} {h : am_H} {r : (Int32 × am_H)} (hb : Ref_evenings_174 v0 v3 v4 v5 h = some r) : Eqs h r.2 := Ref_evenings_75_Q _ _ hb
theorem Ref_evenings_174_s {v0 : Nat} {v3 : Int32} {v4 : Int32} {v5 : Int32} {h : am_H} {r : (Int32 × am_H)} (hb : Ref_evenings_174 v0 v3 v4 v5 h = some r) : Sx 89 mX12_evenings 174 [.ref v0, .retAddr 0, .retAddr 0, .int v3, .int v4, .int v5, .retAddr 0] [] h (some (.int r.1)) r.2 := (Ref_evenings_75_T _ _ hb).2.2.2.1 rfl
set_option maxHeartbeats 1000000 in
set_option maxRecDepth 100000 in
noncomputable def Ref_evenings (v0 : Nat) (v1 : Int32) (v2 : Int32) (v3 : Int32) (h : am_H) : Option (Int32 × am_H) := if isO h 12 v0 = true then (Ref_isHeap v0 v1 h).bind fun x53 => if x53 = (0 : Int32) then (Ref_refuses v0 (-2 : Int32) h).bind fun r82 => some (r82.1, r82.2) else (Ref_lies v2 (0 : Int32) (1000000 : Int32) h).bind fun x57 => if x57 = (0 : Int32) then Ref_evenings_35 v0 h else (Ref_lies v3 (1 : Int32) (60 : Int32) h).bind fun x61 => if x61 = (0 : Int32) then Ref_evenings_35 v0 h else (pV h 12 v0 57 (.int v2)).bind fun h65 => (Ref_takes v0 v1 h65).bind fun h68 => (gI h68 12 v0 31).bind fun x71 => (pV h68 12 v0 54 (.int x71)).bind fun h73 => (pV h73 12 v0 55 (.int (0 : Int32))).bind fun h76 => (pV h76 12 v0 56 (.int (-1 : Int32))).bind fun h79 => Ref_evenings_75 v0 v3 (0 : Int32) (0 : Int32) h79 else none
set_option maxHeartbeats 1000000 in
set_option maxRecDepth 100000 in
theorem Ref_evenings_s {v0 : Nat} {v1 : Int32} {v2 : Int32} {v3 : Int32} {h : am_H} {r : (Int32 × am_H)} (hb : Ref_evenings v0 v1 v2 v3 h = some r) : Sx 89 mX12_evenings 0 (am_en [.ref v0, .int v1, .int v2, .int v3] 7) [] h (some (.int r.1)) r.2 := by
  unfold Ref_evenings at hb
  have hb := (iz hb).2
  show Sx 89 mX12_evenings 0 [.ref v0, .int v1, .int v2, .int v3, .retAddr 0, .retAddr 0, .retAddr 0] [] h (some (.int r.1)) r.2
  refine Sx.o (fun _ _ _ k => ex_aload_n dX12_evenings_0 rfl rfl k) ?_
  refine Sx.o (fun _ _ _ k => ex_iload_n dX12_evenings_1 rfl k) ?_
  obtain ⟨x53, e_x53, hb54⟩ := ob2 hb
  refine sx_callV (dc := 1) (as := [.int v1]) (stq := [.int x53]) (by omega) dX12_evenings_2 MX12_isHeap kX12_122 iX12_isHeap sX12_isHeap rfl rfl (Ref_isHeap_o e_x53) rfl rfl (Nat.le_of_ble_eq_true rfl) (Nat.le_of_ble_eq_true rfl) (Ref_isHeap_s e_x53) rfl ?_
  refine Sx.bn (fun _ _ _ k1 k2 => ex_if_ne 15 dX12_evenings_5 (by decide) k1 k2) (fun q => ?_) (fun q => ?_)
  · have hb55 := iq q hb54
    refine Sx.o (fun _ _ _ k => ex_iload_n dX12_evenings_15 rfl k) ?_
    refine Sx.o (fun _ _ _ k => op_iconst (0 : Int32) dX12_evenings_16 (by decide) k) ?_
    refine Sx.o (fun _ _ _ k => ex_ldc dX12_evenings_17 qX12_167 k) ?_
    obtain ⟨x57, e_x57, hb58⟩ := ob2 hb55
    refine sx_callS (dc := 0) (as := [.int v2, .int (0 : Int32), .int (1000000 : Int32)]) (stq := [.int x57]) (by omega) dX12_evenings_19 MX12_lies kX12_102 tX12_lies rfl rfl (Nat.le_of_ble_eq_true rfl) (Nat.le_of_ble_eq_true rfl) (Ref_lies_s e_x57) rfl ?_
    refine Sx.b (fun _ _ _ k1 k2 => ex_if_eq 35 dX12_evenings_22 (by decide) k1 k2) (fun q => ?_) (fun q => ?_)
    · have hb59 := ip q hb58
      refine Sx.fg [true, false, false, false, true, true, true] ?_
      exact Ref_evenings_35_s hb59
    · have hb60 := iq q hb58
      refine Sx.o (fun _ _ _ k => ex_iload_n dX12_evenings_25 rfl k) ?_
      refine Sx.o (fun _ _ _ k => op_iconst (1 : Int32) dX12_evenings_26 (by decide) k) ?_
      refine Sx.o (fun _ _ _ k => op_bipush (60 : Int32) dX12_evenings_27 (by decide) k) ?_
      obtain ⟨x61, e_x61, hb62⟩ := ob2 hb60
      refine sx_callS (dc := 0) (as := [.int v3, .int (1 : Int32), .int (60 : Int32)]) (stq := [.int x61]) (by omega) dX12_evenings_29 MX12_lies kX12_102 tX12_lies rfl rfl (Nat.le_of_ble_eq_true rfl) (Nat.le_of_ble_eq_true rfl) (Ref_lies_s e_x61) rfl ?_
      refine Sx.bn (fun _ _ _ k1 k2 => ex_if_ne 41 dX12_evenings_32 (by decide) k1 k2) (fun q => ?_) (fun q => ?_)
      · have hb63 := iq q hb62
        refine Sx.o (fun _ _ _ k => ex_aload_n dX12_evenings_41 rfl rfl k) ?_
        refine Sx.o (fun _ _ _ k => ex_iload_n dX12_evenings_42 rfl k) ?_
        obtain ⟨h65, e_h65, hb66⟩ := ob2 hb63
        refine Sx.p (pV_q e_h65) (fun _ _ _ k => op_put pX12_463 dX12_evenings_43 e_h65 (fun _ => rfl) (fun _ => rfl) k) ?_
        refine Sx.o (fun _ _ _ k => ex_aload_n dX12_evenings_46 rfl rfl k) ?_
        refine Sx.o (fun _ _ _ k => ex_iload_n dX12_evenings_47 rfl k) ?_
        obtain ⟨h68, e_h68, hb69⟩ := ob2 hb66
        refine sx_callV (dc := 2) (as := [.int v1]) (stq := []) (by omega) dX12_evenings_48 MX12_takes kX12_126 iX12_takes sX12_takes rfl rfl (Ref_takes_o e_h68) rfl rfl (Nat.le_of_ble_eq_true rfl) (Nat.le_of_ble_eq_true rfl) (Ref_takes_s e_h68) rfl ?_
        refine Sx.o (fun _ _ _ k => ex_aload_n dX12_evenings_51 rfl rfl k) ?_
        refine Sx.o (fun _ _ _ k => ex_aload_n dX12_evenings_52 rfl rfl k) ?_
        obtain ⟨x71, e_x71, hb72⟩ := ob2 hb69
        refine Sx.o (fun _ _ _ k => op_getI fX12_130 dX12_evenings_53 e_x71 k) ?_
        obtain ⟨h73, e_h73, hb74⟩ := ob2 hb72
        refine Sx.p (pV_q e_h73) (fun _ _ _ k => op_put pX12_99 dX12_evenings_56 e_h73 (fun _ => rfl) (fun _ => rfl) k) ?_
        refine Sx.o (fun _ _ _ k => ex_aload_n dX12_evenings_59 rfl rfl k) ?_
        refine Sx.o (fun _ _ _ k => op_iconst (0 : Int32) dX12_evenings_60 (by decide) k) ?_
        obtain ⟨h76, e_h76, hb77⟩ := ob2 hb74
        refine Sx.p (pV_q e_h76) (fun _ _ _ k => op_put pX12_473 dX12_evenings_61 e_h76 (fun _ => rfl) (fun _ => rfl) k) ?_
        refine Sx.o (fun _ _ _ k => ex_aload_n dX12_evenings_64 rfl rfl k) ?_
        refine Sx.o (fun _ _ _ k => op_iconst (-1 : Int32) dX12_evenings_65 (by decide) k) ?_
        obtain ⟨h79, e_h79, hb80⟩ := ob2 hb77
        refine Sx.p (pV_q e_h79) (fun _ _ _ k => op_put pX12_476 dX12_evenings_66 e_h79 (fun _ => rfl) (fun _ => rfl) k) ?_
        refine Sx.o (fun _ _ _ k => op_iconst (0 : Int32) dX12_evenings_69 (by decide) k) ?_
        refine Sx.o (L' := [.ref v0, .int v1, .int v2, .int v3, .int (0 : Int32), .retAddr 0, .retAddr 0]) (fun _ _ _ k => ex_istore dX12_evenings_70 (by decide) k) ?_
        refine Sx.o (fun _ _ _ k => op_iconst (0 : Int32) dX12_evenings_72 (by decide) k) ?_
        refine Sx.o (L' := [.ref v0, .int v1, .int v2, .int v3, .int (0 : Int32), .int (0 : Int32), .retAddr 0]) (fun _ _ _ k => ex_istore dX12_evenings_73 (by decide) k) ?_
        refine Sx.fg [true, false, false, true, true, true, true] ?_
        exact Ref_evenings_75_s hb80
      · have hb64 := ip q hb62
        refine Sx.fg [true, false, false, false, true, true, true] ?_
        exact Ref_evenings_35_s hb64
  · have hb56 := ip q hb54
    refine Sx.o (fun _ _ _ k => ex_aload_n dX12_evenings_8 rfl rfl k) ?_
    refine Sx.o (fun _ _ _ k => op_bipush (-2 : Int32) dX12_evenings_9 (by decide) k) ?_
    obtain ⟨r82, e_r82, hb83⟩ := ob2 hb56
    refine sx_callV (dc := 0) (as := [.int (-2 : Int32)]) (stq := [.int r82.1]) (by omega) dX12_evenings_11 MX12_refuses kX12_106 iX12_refuses sX12_refuses rfl rfl (Ref_refuses_o e_r82) rfl rfl (Nat.le_of_ble_eq_true rfl) (Nat.le_of_ble_eq_true rfl) (Ref_refuses_s e_r82) rfl ?_
    obtain rfl := Option.some.inj hb83
    exact Sx.r (fun _ _ _ k => ex_iret rfl dX12_evenings_14 k)
set_option maxHeartbeats 1000000 in
set_option maxRecDepth 100000 in
theorem Ref_evenings_q {v0 : Nat} {v1 : Int32} {v2 : Int32} {v3 : Int32} {h : am_H} {r : (Int32 × am_H)} (hb : Ref_evenings v0 v1 v2 v3 h = some r) : Eqs h r.2 := by
  unfold Ref_evenings at hb
  have hb := (iz hb).2
  have w0 := Eqs.rf h
  obtain ⟨x53, e_x53, hb54⟩ := ob2 hb
  by_cases q : x53 = (0 : Int32)
  · have hb56 := ip q hb54
    obtain ⟨r82, e_r82, hb83⟩ := ob2 hb56
    have w84 := w0.tr (Ref_refuses_q e_r82)
    obtain rfl := Option.some.inj hb83
    exact w84
  · have hb55 := iq q hb54
    obtain ⟨x57, e_x57, hb58⟩ := ob2 hb55
    by_cases q : x57 = (0 : Int32)
    · have hb59 := ip q hb58
      exact w0.tr (Ref_evenings_35_q hb59)
    · have hb60 := iq q hb58
      obtain ⟨x61, e_x61, hb62⟩ := ob2 hb60
      by_cases q : x61 = (0 : Int32)
      · have hb64 := ip q hb62
        exact w0.tr (Ref_evenings_35_q hb64)
      · have hb63 := iq q hb62
        obtain ⟨h65, e_h65, hb66⟩ := ob2 hb63
        have w67 := w0.tr (pV_q e_h65)
        obtain ⟨h68, e_h68, hb69⟩ := ob2 hb66
        have w70 := w67.tr (Ref_takes_q e_h68)
        obtain ⟨x71, e_x71, hb72⟩ := ob2 hb69
        obtain ⟨h73, e_h73, hb74⟩ := ob2 hb72
        have w75 := w70.tr (pV_q e_h73)
        obtain ⟨h76, e_h76, hb77⟩ := ob2 hb74
        have w78 := w75.tr (pV_q e_h76)
        obtain ⟨h79, e_h79, hb80⟩ := ob2 hb77
        have w81 := w78.tr (pV_q e_h79)
        exact w81.tr (Ref_evenings_75_q hb80)
theorem Ref_evenings_o {v0 : Nat} {v1 : Int32} {v2 : Int32} {v3 : Int32} {h : am_H} {r : (Int32 × am_H)} (hb : Ref_evenings v0 v1 v2 v3 h = some r) : isO h 12 v0 = true := by
  unfold Ref_evenings at hb
  exact (iz hb).1
set_option maxHeartbeats 1000000 in
set_option maxRecDepth 100000 in
noncomputable def Ref_fault (v0 : Nat) (h : am_H) : Option Int32 := if isO h 12 v0 = true then (gI h 12 v0 13).bind fun x1 => some x1 else none
set_option maxHeartbeats 1000000 in
set_option maxRecDepth 100000 in
theorem Ref_fault_s {v0 : Nat} {h : am_H} {r : Int32} (hb : Ref_fault v0 h = some r) : Sx 0 mX12_fault 0 (am_en [.ref v0] 1) [] h (some (.int r)) h := by
  unfold Ref_fault at hb
  have hb := (iz hb).2
  show Sx 0 mX12_fault 0 [.ref v0] [] h (some (.int r)) h
  refine Sx.o (fun _ _ _ k => ex_aload_n dX12_fault_0 rfl rfl k) ?_
  obtain ⟨x1, e_x1, hb2⟩ := ob2 hb
  refine Sx.o (fun _ _ _ k => op_getI fX12_47 dX12_fault_1 e_x1 k) ?_
  obtain rfl := Option.some.inj hb2
  exact Sx.r (fun _ _ _ k => ex_iret rfl dX12_fault_4 k)
theorem Ref_fault_o {v0 : Nat} {h : am_H} {r : Int32} (hb : Ref_fault v0 h = some r) : isO h 12 v0 = true := by
  unfold Ref_fault at hb
  exact (iz hb).1
set_option maxHeartbeats 1000000 in
set_option maxRecDepth 100000 in
noncomputable def Ref_fine (v0 : Nat) (h : am_H) : Option Int32 := if isO h 12 v0 = true then (gI h 12 v0 20).bind fun x1 => if x1 = (-1 : Int32) then some (1 : Int32) else some (0 : Int32) else none
set_option maxHeartbeats 1000000 in
set_option maxRecDepth 100000 in
theorem Ref_fine_s {v0 : Nat} {h : am_H} {r : Int32} (hb : Ref_fine v0 h = some r) : Sx 0 mX12_fine 0 (am_en [.ref v0] 1) [] h (some (.int r)) h := by
  unfold Ref_fine at hb
  have hb := (iz hb).2
  show Sx 0 mX12_fine 0 [.ref v0] [] h (some (.int r)) h
  refine Sx.o (fun _ _ _ k => ex_aload_n dX12_fine_0 rfl rfl k) ?_
  obtain ⟨x1, e_x1, hb2⟩ := ob2 hb
  refine Sx.o (fun _ _ _ k => op_getI fX12_168 dX12_fine_1 e_x1 k) ?_
  refine Sx.o (fun _ _ _ k => op_iconst (-1 : Int32) dX12_fine_4 (by decide) k) ?_
  refine Sx.bn (fun _ _ _ k1 k2 => ex_icmp_ne 12 dX12_fine_5 (by decide) k1 k2) (fun q => ?_) (fun q => ?_)
  · have hb3 := iq q hb2
    refine Sx.o (fun _ _ _ k => op_iconst (0 : Int32) dX12_fine_12 (by decide) k) ?_
    obtain rfl := Option.some.inj hb3
    exact Sx.r (fun _ _ _ k => ex_zret rfl rfl dX12_fine_13 k)
  · have hb4 := ip q hb2
    refine Sx.o (fun _ _ _ k => op_iconst (1 : Int32) dX12_fine_8 (by decide) k) ?_
    refine Sx.o (fun _ _ _ k => ex_goto 13 dX12_fine_9 (by decide) k) ?_
    obtain rfl := Option.some.inj hb4
    exact Sx.r (fun _ _ _ k => ex_zret rfl rfl dX12_fine_13 k)
theorem Ref_fine_o {v0 : Nat} {h : am_H} {r : Int32} (hb : Ref_fine v0 h = some r) : isO h 12 v0 = true := by
  unfold Ref_fine at hb
  exact (iz hb).1
set_option maxHeartbeats 1000000 in
set_option maxRecDepth 100000 in
noncomputable def Ref_faults (v0 : Nat) (h : am_H) : Option am_H := if isO h 12 v0 = true then (Ref_fine v0 h).bind fun x1 => if x1 = (0 : Int32) then some h else (gR h 12 v0 16).bind fun x5 => (gI h 12 v0 18).bind fun x7 => (aI h 0 x5 x7).bind fun x9 => (pV h 12 v0 20 (.int x9)).bind fun h11 => some h11 else none
set_option maxHeartbeats 1000000 in
set_option maxRecDepth 100000 in
theorem Ref_faults_s {v0 : Nat} {h : am_H} {r : am_H} (hb : Ref_faults v0 h = some r) : Sx 1 mX12_faults 0 (am_en [.ref v0] 1) [] h none r := by
  unfold Ref_faults at hb
  have hb := (iz hb).2
  show Sx 1 mX12_faults 0 [.ref v0] [] h none r
  refine Sx.o (fun _ _ _ k => ex_aload_n dX12_faults_0 rfl rfl k) ?_
  obtain ⟨x1, e_x1, hb2⟩ := ob2 hb
  refine sx_callV (dc := 0) (as := []) (stq := [.int x1]) (by omega) dX12_faults_1 MX12_fine kX12_171 iX12_fine sX12_fine rfl rfl (Ref_fine_o e_x1) rfl rfl (Nat.le_of_ble_eq_true rfl) (Nat.le_of_ble_eq_true rfl) (Ref_fine_s e_x1) rfl ?_
  refine Sx.b (fun _ _ _ k1 k2 => ex_if_eq 20 dX12_faults_4 (by decide) k1 k2) (fun q => ?_) (fun q => ?_)
  · have hb3 := ip q hb2
    obtain rfl := Option.some.inj hb3
    exact Sx.r (fun _ _ _ k => ex_vret rfl dX12_faults_20 k)
  · have hb4 := iq q hb2
    refine Sx.o (fun _ _ _ k => ex_aload_n dX12_faults_7 rfl rfl k) ?_
    refine Sx.o (fun _ _ _ k => ex_aload_n dX12_faults_8 rfl rfl k) ?_
    obtain ⟨x5, e_x5, hb6⟩ := ob2 hb4
    refine Sx.o (fun _ _ _ k => op_getR fX12_56 dX12_faults_9 e_x5 k) ?_
    refine Sx.o (fun _ _ _ k => ex_aload_n dX12_faults_12 rfl rfl k) ?_
    obtain ⟨x7, e_x7, hb8⟩ := ob2 hb6
    refine Sx.o (fun _ _ _ k => op_getI fX12_174 dX12_faults_13 e_x7 k) ?_
    obtain ⟨x9, e_x9, hb10⟩ := ob2 hb8
    refine Sx.o (fun _ _ _ k => op_iald dX12_faults_16 e_x9 k) ?_
    obtain ⟨h11, e_h11, hb12⟩ := ob2 hb10
    refine Sx.p (pV_q e_h11) (fun _ _ _ k => op_put pX12_168 dX12_faults_17 e_h11 (fun _ => rfl) (fun _ => rfl) k) ?_
    obtain rfl := Option.some.inj hb12
    exact Sx.r (fun _ _ _ k => ex_vret rfl dX12_faults_20 k)
set_option maxHeartbeats 1000000 in
set_option maxRecDepth 100000 in
theorem Ref_faults_q {v0 : Nat} {h : am_H} {r : am_H} (hb : Ref_faults v0 h = some r) : Eqs h r := by
  unfold Ref_faults at hb
  have hb := (iz hb).2
  have w0 := Eqs.rf h
  obtain ⟨x1, e_x1, hb2⟩ := ob2 hb
  by_cases q : x1 = (0 : Int32)
  · have hb3 := ip q hb2
    obtain rfl := Option.some.inj hb3
    exact w0
  · have hb4 := iq q hb2
    obtain ⟨x5, e_x5, hb6⟩ := ob2 hb4
    obtain ⟨x7, e_x7, hb8⟩ := ob2 hb6
    obtain ⟨x9, e_x9, hb10⟩ := ob2 hb8
    obtain ⟨h11, e_h11, hb12⟩ := ob2 hb10
    have w13 := w0.tr (pV_q e_h11)
    obtain rfl := Option.some.inj hb12
    exact w13
theorem Ref_faults_o {v0 : Nat} {h : am_H} {r : am_H} (hb : Ref_faults v0 h = some r) : isO h 12 v0 = true := by
  unfold Ref_faults at hb
  exact (iz hb).1
set_option maxHeartbeats 1000000 in
set_option maxRecDepth 100000 in
noncomputable def Ref_feed_55_b (g : (Nat × Int32 × Nat × am_H) → Option (Int32 × am_H)) (v0 : Nat) (v6 : Int32) (h : am_H) : Option (Int32 × am_H) := if (20 : Int32) ≤ v6 then (gI h 12 v0 12).bind fun x3 => (pV h 12 v0 12 (.int (x3 + (20 : Int32)))).bind fun h5 => (gI h5 12 v0 12).bind fun x8 => some (x8, h5) else (gR h 12 v0 10).bind fun x10 => (gI h 12 v0 12).bind fun x12 => (gR h 12 v0 11).bind fun x14 => (dvI v6 (4 : Int32)).bind fun x16 => (aI h 0 x14 x16).bind fun x18 => (rmI v6 (4 : Int32)).bind fun x20 => (sB h x10 (x12 + v6) ((Int32.toInt8 (x18 >>> (((24 : Int32) - ((8 : Int32) * x20)) &&& 31))).toInt32)).bind fun h22 => g (55, (v6 + (1 : Int32)), v0, h22)
set_option maxHeartbeats 1000000 in
set_option maxRecDepth 100000 in
theorem Ref_feed_55_m {g g2 : (Nat × Int32 × Nat × am_H) → Option (Int32 × am_H)} (hg : ∀ s, Le (g s) (g2 s)) (v0 : Nat) (v6 : Int32) (h : am_H) : Le (Ref_feed_55_b g v0 v6 h) (Ref_feed_55_b g2 v0 v6 h) := by unfold Ref_feed_55_b; exact le_i (le_r _) (le_b (le_r _) fun x10 => le_b (le_r _) fun x12 => le_b (le_r _) fun x14 => le_b (le_r _) fun x16 => le_b (le_r _) fun x18 => le_b (le_r _) fun x20 => le_b (le_r _) fun h22 => hg _)
noncomputable def Ref_feed_55_F (g : (Nat × Int32 × Nat × am_H) → Option (Int32 × am_H)) (s : (Nat × Int32 × Nat × am_H)) : Option (Int32 × am_H) := if s.1 = 55 then Ref_feed_55_b g s.2.2.1 s.2.1 s.2.2.2 else none
theorem Ref_feed_55_M : Mn Ref_feed_55_F := fun g g2 hg s => by unfold Ref_feed_55_F; exact le_i (Ref_feed_55_m hg s.2.2.1 s.2.1 s.2.2.2) (le_r _)
def Ref_feed_55_P (s : (Nat × Int32 × Nat × am_H)) (r : (Int32 × am_H)) : Prop := (s.1 = 55 → Sx 0 mX12_feed 55 [.ref s.2.2.1, .retAddr 0, .retAddr 0, .retAddr 0, .retAddr 0, .retAddr 0, .int s.2.1] [] s.2.2.2 (some (.int r.1)) r.2) ∧ True
set_option maxHeartbeats 1000000 in
set_option maxRecDepth 100000 in
theorem Ref_feed_55_t {g : (Nat × Int32 × Nat × am_H) → Option (Int32 × am_H)} (hg : ∀ s r, g s = some r → Ref_feed_55_P s r) {v0 : Nat} {v6 : Int32} {h : am_H} {r : (Int32 × am_H)} (hb : Ref_feed_55_b g v0 v6 h = some r) : Sx 0 mX12_feed 55 [.ref v0, .retAddr 0, .retAddr 0, .retAddr 0, .retAddr 0, .retAddr 0, .int v6] [] h (some (.int r.1)) r.2 := by
  unfold Ref_feed_55_b at hb
  refine Sx.o (fun _ _ _ k => ex_iload dX12_feed_55 rfl k) ?_
  refine Sx.o (fun _ _ _ k => op_bipush (20 : Int32) dX12_feed_57 (by decide) k) ?_
  refine Sx.b (fun _ _ _ k1 k2 => ex_icmp_ge 101 dX12_feed_59 (by decide) k1 k2) (fun q => ?_) (fun q => ?_)
  · have hb1 := ip q hb
    refine Sx.o (fun _ _ _ k => ex_aload_n dX12_feed_101 rfl rfl k) ?_
    refine Sx.o (fun _ _ _ k => ex_dup dX12_feed_102 rfl k) ?_
    obtain ⟨x3, e_x3, hb4⟩ := ob2 hb1
    refine Sx.o (fun _ _ _ k => op_getI fX12_115 dX12_feed_103 e_x3 k) ?_
    refine Sx.o (fun _ _ _ k => op_bipush (20 : Int32) dX12_feed_106 (by decide) k) ?_
    refine Sx.o (fun _ _ _ k => ex_iadd dX12_feed_108 k) ?_
    obtain ⟨h5, e_h5, hb6⟩ := ob2 hb4
    refine Sx.p (pV_q e_h5) (fun _ _ _ k => op_put pX12_115 dX12_feed_109 e_h5 (fun _ => rfl) (fun _ => rfl) k) ?_
    refine Sx.o (fun _ _ _ k => ex_aload_n dX12_feed_112 rfl rfl k) ?_
    obtain ⟨x8, e_x8, hb9⟩ := ob2 hb6
    refine Sx.o (fun _ _ _ k => op_getI fX12_115 dX12_feed_113 e_x8 k) ?_
    obtain rfl := Option.some.inj hb9
    exact Sx.r (fun _ _ _ k => ex_iret rfl dX12_feed_116 k)
  · have hb2 := iq q hb
    refine Sx.o (fun _ _ _ k => ex_aload_n dX12_feed_62 rfl rfl k) ?_
    obtain ⟨x10, e_x10, hb11⟩ := ob2 hb2
    refine Sx.o (fun _ _ _ k => op_getR fX12_41 dX12_feed_63 e_x10 k) ?_
    refine Sx.o (fun _ _ _ k => ex_aload_n dX12_feed_66 rfl rfl k) ?_
    obtain ⟨x12, e_x12, hb13⟩ := ob2 hb11
    refine Sx.o (fun _ _ _ k => op_getI fX12_115 dX12_feed_67 e_x12 k) ?_
    refine Sx.o (fun _ _ _ k => ex_iload dX12_feed_70 rfl k) ?_
    refine Sx.o (fun _ _ _ k => ex_iadd dX12_feed_72 k) ?_
    refine Sx.o (fun _ _ _ k => ex_aload_n dX12_feed_73 rfl rfl k) ?_
    obtain ⟨x14, e_x14, hb15⟩ := ob2 hb13
    refine Sx.o (fun _ _ _ k => op_getR fX12_44 dX12_feed_74 e_x14 k) ?_
    refine Sx.o (fun _ _ _ k => ex_iload dX12_feed_77 rfl k) ?_
    refine Sx.o (fun _ _ _ k => op_iconst (4 : Int32) dX12_feed_79 (by decide) k) ?_
    obtain ⟨x16, e_x16, hb17⟩ := ob2 hb15
    refine Sx.o (fun _ _ _ k => op_idiv dX12_feed_80 e_x16 k) ?_
    obtain ⟨x18, e_x18, hb19⟩ := ob2 hb17
    refine Sx.o (fun _ _ _ k => op_iald dX12_feed_81 e_x18 k) ?_
    refine Sx.o (fun _ _ _ k => op_bipush (24 : Int32) dX12_feed_82 (by decide) k) ?_
    refine Sx.o (fun _ _ _ k => op_bipush (8 : Int32) dX12_feed_84 (by decide) k) ?_
    refine Sx.o (fun _ _ _ k => ex_iload dX12_feed_86 rfl k) ?_
    refine Sx.o (fun _ _ _ k => op_iconst (4 : Int32) dX12_feed_88 (by decide) k) ?_
    obtain ⟨x20, e_x20, hb21⟩ := ob2 hb19
    refine Sx.o (fun _ _ _ k => op_irem dX12_feed_89 e_x20 k) ?_
    refine Sx.o (fun _ _ _ k => ex_imul dX12_feed_90 k) ?_
    refine Sx.o (fun _ _ _ k => ex_isub dX12_feed_91 k) ?_
    refine Sx.o (fun _ _ _ k => ex_ishr dX12_feed_92 k) ?_
    refine Sx.o (fun _ _ _ k => ex_i2b dX12_feed_93 k) ?_
    obtain ⟨h22, e_h22, hb23⟩ := ob2 hb21
    refine Sx.p (sB_q e_h22) (fun _ _ _ k => op_bast dX12_feed_94 e_h22 k) ?_
    refine Sx.o (L' := [.ref v0, .retAddr 0, .retAddr 0, .retAddr 0, .retAddr 0, .retAddr 0, .int (v6 + (1 : Int32))]) (fun _ _ _ k => op_iinc (1 : Int32) dX12_feed_95 (by decide) rfl (by decide) k) ?_
    refine Sx.o (fun _ _ _ k => ex_goto 55 dX12_feed_98 (by decide) k) ?_
    exact (hg _ _ hb23).1 rfl
theorem Ref_feed_55_T : ∀ s r, fx Ref_feed_55_F Ref_feed_55_M s = some r → Ref_feed_55_P s r := fx_ind Ref_feed_55_M Ref_feed_55_P (fun g hg s r hb => by
  unfold Ref_feed_55_F at hb
  exact ⟨fun q => Ref_feed_55_t hg (ip q hb), trivial⟩)
set_option maxHeartbeats 1000000 in
set_option maxRecDepth 100000 in
theorem Ref_feed_55_r {g : (Nat × Int32 × Nat × am_H) → Option (Int32 × am_H)} (hg : ∀ s r, g s = some r → Eqs s.2.2.2 r.2) {v0 : Nat} {v6 : Int32} {h : am_H} {r : (Int32 × am_H)} (hb : Ref_feed_55_b g v0 v6 h = some r) : Eqs h r.2 := by
  unfold Ref_feed_55_b at hb
  have w0 := Eqs.rf h
  by_cases q : (20 : Int32) ≤ v6
  · have hb1 := ip q hb
    obtain ⟨x3, e_x3, hb4⟩ := ob2 hb1
    obtain ⟨h5, e_h5, hb6⟩ := ob2 hb4
    have w7 := w0.tr (pV_q e_h5)
    obtain ⟨x8, e_x8, hb9⟩ := ob2 hb6
    obtain rfl := Option.some.inj hb9
    exact w7
  · have hb2 := iq q hb
    obtain ⟨x10, e_x10, hb11⟩ := ob2 hb2
    obtain ⟨x12, e_x12, hb13⟩ := ob2 hb11
    obtain ⟨x14, e_x14, hb15⟩ := ob2 hb13
    obtain ⟨x16, e_x16, hb17⟩ := ob2 hb15
    obtain ⟨x18, e_x18, hb19⟩ := ob2 hb17
    obtain ⟨x20, e_x20, hb21⟩ := ob2 hb19
    obtain ⟨h22, e_h22, hb23⟩ := ob2 hb21
    have w24 := w0.tr (sB_q e_h22)
    exact w24.tr (hg _ _ hb23)
theorem Ref_feed_55_Q : ∀ s r, fx Ref_feed_55_F Ref_feed_55_M s = some r → Eqs s.2.2.2 r.2 := fx_ind Ref_feed_55_M (fun s r => Eqs s.2.2.2 r.2) (fun g hg s r hb => by
  unfold Ref_feed_55_F at hb
  by_cases q0 : s.1 = 55
  · exact Ref_feed_55_r hg (ip q0 hb)
  · have hb0 := iq q0 hb
    exact nomatch hb0)
noncomputable def Ref_feed_55 (v0 : Nat) (v6 : Int32) (h : am_H) : Option (Int32 × am_H) := fx Ref_feed_55_F Ref_feed_55_M (55, v6, v0, h)
set_option maxHeartbeats 1000000 in
set_option maxRecDepth 100000 in
theorem Ref_feed_55_e (v0 : Nat) (v6 : Int32) (h : am_H) : Ref_feed_55 v0 v6 h = (if (20 : Int32) ≤ v6 then (gI h 12 v0 12).bind fun x3 => (pV h 12 v0 12 (.int (x3 + (20 : Int32)))).bind fun h5 => (gI h5 12 v0 12).bind fun x8 => some (x8, h5) else (gR h 12 v0 10).bind fun x10 => (gI h 12 v0 12).bind fun x12 => (gR h 12 v0 11).bind fun x14 => (dvI v6 (4 : Int32)).bind fun x16 => (aI h 0 x14 x16).bind fun x18 => (rmI v6 (4 : Int32)).bind fun x20 => (sB h x10 (x12 + v6) ((Int32.toInt8 (x18 >>> (((24 : Int32) - ((8 : Int32) * x20)) &&& 31))).toInt32)).bind fun h22 => Ref_feed_55 v0 (v6 + (1 : Int32)) h22) := (fx_eq Ref_feed_55_M (55, v6, v0, h)).trans (if_pos rfl)
theorem Ref_feed_55_q {v0 : Nat} {v6 : Int32} {h : am_H} {r : (Int32 × am_H)} (hb : Ref_feed_55 v0 v6 h = some r) : Eqs h r.2 := Ref_feed_55_Q _ _ hb
theorem Ref_feed_55_s {v0 : Nat} {v6 : Int32} {h : am_H} {r : (Int32 × am_H)} (hb : Ref_feed_55 v0 v6 h = some r) : Sx 0 mX12_feed 55 [.ref v0, .retAddr 0, .retAddr 0, .retAddr 0, .retAddr 0, .retAddr 0, .int v6] [] h (some (.int r.1)) r.2 := (Ref_feed_55_T _ _ hb).1 rfl
set_option maxHeartbeats 1000000 in
set_option maxRecDepth 100000 in
noncomputable def Ref_feed (v0 : Nat) (v1 : Int32) (v2 : Int32) (v3 : Int32) (v4 : Int32) (v5 : Int32) (h : am_H) : Option (Int32 × am_H) := if isO h 12 v0 = true then (gI h 12 v0 12).bind fun x25 => if (x25 + (20 : Int32)) ≤ (400 : Int32) then (gR h 12 v0 11).bind fun x29 => (sI h x29 (0 : Int32) v1).bind fun h31 => (gR h31 12 v0 11).bind fun x34 => (sI h31 x34 (1 : Int32) v2).bind fun h36 => (gR h36 12 v0 11).bind fun x39 => (sI h36 x39 (2 : Int32) v3).bind fun h41 => (gR h41 12 v0 11).bind fun x44 => (sI h41 x44 (3 : Int32) v4).bind fun h46 => (gR h46 12 v0 11).bind fun x49 => (sI h46 x49 (4 : Int32) v5).bind fun h51 => Ref_feed_55 v0 (0 : Int32) h51 else some ((-1 : Int32), h) else none
set_option maxHeartbeats 1000000 in
set_option maxRecDepth 100000 in
theorem Ref_feed_s {v0 : Nat} {v1 : Int32} {v2 : Int32} {v3 : Int32} {v4 : Int32} {v5 : Int32} {h : am_H} {r : (Int32 × am_H)} (hb : Ref_feed v0 v1 v2 v3 v4 v5 h = some r) : Sx 0 mX12_feed 0 (am_en [.ref v0, .int v1, .int v2, .int v3, .int v4, .int v5] 7) [] h (some (.int r.1)) r.2 := by
  unfold Ref_feed at hb
  have hb := (iz hb).2
  show Sx 0 mX12_feed 0 [.ref v0, .int v1, .int v2, .int v3, .int v4, .int v5, .retAddr 0] [] h (some (.int r.1)) r.2
  refine Sx.o (fun _ _ _ k => ex_aload_n dX12_feed_0 rfl rfl k) ?_
  obtain ⟨x25, e_x25, hb26⟩ := ob2 hb
  refine Sx.o (fun _ _ _ k => op_getI fX12_115 dX12_feed_1 e_x25 k) ?_
  refine Sx.o (fun _ _ _ k => op_bipush (20 : Int32) dX12_feed_4 (by decide) k) ?_
  refine Sx.o (fun _ _ _ k => ex_iadd dX12_feed_6 k) ?_
  refine Sx.o (fun _ _ _ k => op_sipush (400 : Int32) dX12_feed_7 (by decide) k) ?_
  refine Sx.b (fun _ _ _ k1 k2 => ex_icmp_le 15 dX12_feed_10 (by decide) k1 k2) (fun q => ?_) (fun q => ?_)
  · have hb27 := ip q hb26
    refine Sx.o (fun _ _ _ k => ex_aload_n dX12_feed_15 rfl rfl k) ?_
    obtain ⟨x29, e_x29, hb30⟩ := ob2 hb27
    refine Sx.o (fun _ _ _ k => op_getR fX12_44 dX12_feed_16 e_x29 k) ?_
    refine Sx.o (fun _ _ _ k => op_iconst (0 : Int32) dX12_feed_19 (by decide) k) ?_
    refine Sx.o (fun _ _ _ k => ex_iload_n dX12_feed_20 rfl k) ?_
    obtain ⟨h31, e_h31, hb32⟩ := ob2 hb30
    refine Sx.p (sI_q e_h31) (fun _ _ _ k => op_iast dX12_feed_21 e_h31 k) ?_
    refine Sx.o (fun _ _ _ k => ex_aload_n dX12_feed_22 rfl rfl k) ?_
    obtain ⟨x34, e_x34, hb35⟩ := ob2 hb32
    refine Sx.o (fun _ _ _ k => op_getR fX12_44 dX12_feed_23 e_x34 k) ?_
    refine Sx.o (fun _ _ _ k => op_iconst (1 : Int32) dX12_feed_26 (by decide) k) ?_
    refine Sx.o (fun _ _ _ k => ex_iload_n dX12_feed_27 rfl k) ?_
    obtain ⟨h36, e_h36, hb37⟩ := ob2 hb35
    refine Sx.p (sI_q e_h36) (fun _ _ _ k => op_iast dX12_feed_28 e_h36 k) ?_
    refine Sx.o (fun _ _ _ k => ex_aload_n dX12_feed_29 rfl rfl k) ?_
    obtain ⟨x39, e_x39, hb40⟩ := ob2 hb37
    refine Sx.o (fun _ _ _ k => op_getR fX12_44 dX12_feed_30 e_x39 k) ?_
    refine Sx.o (fun _ _ _ k => op_iconst (2 : Int32) dX12_feed_33 (by decide) k) ?_
    refine Sx.o (fun _ _ _ k => ex_iload_n dX12_feed_34 rfl k) ?_
    obtain ⟨h41, e_h41, hb42⟩ := ob2 hb40
    refine Sx.p (sI_q e_h41) (fun _ _ _ k => op_iast dX12_feed_35 e_h41 k) ?_
    refine Sx.o (fun _ _ _ k => ex_aload_n dX12_feed_36 rfl rfl k) ?_
    obtain ⟨x44, e_x44, hb45⟩ := ob2 hb42
    refine Sx.o (fun _ _ _ k => op_getR fX12_44 dX12_feed_37 e_x44 k) ?_
    refine Sx.o (fun _ _ _ k => op_iconst (3 : Int32) dX12_feed_40 (by decide) k) ?_
    refine Sx.o (fun _ _ _ k => ex_iload dX12_feed_41 rfl k) ?_
    obtain ⟨h46, e_h46, hb47⟩ := ob2 hb45
    refine Sx.p (sI_q e_h46) (fun _ _ _ k => op_iast dX12_feed_43 e_h46 k) ?_
    refine Sx.o (fun _ _ _ k => ex_aload_n dX12_feed_44 rfl rfl k) ?_
    obtain ⟨x49, e_x49, hb50⟩ := ob2 hb47
    refine Sx.o (fun _ _ _ k => op_getR fX12_44 dX12_feed_45 e_x49 k) ?_
    refine Sx.o (fun _ _ _ k => op_iconst (4 : Int32) dX12_feed_48 (by decide) k) ?_
    refine Sx.o (fun _ _ _ k => ex_iload dX12_feed_49 rfl k) ?_
    obtain ⟨h51, e_h51, hb52⟩ := ob2 hb50
    refine Sx.p (sI_q e_h51) (fun _ _ _ k => op_iast dX12_feed_51 e_h51 k) ?_
    refine Sx.o (fun _ _ _ k => op_iconst (0 : Int32) dX12_feed_52 (by decide) k) ?_
    refine Sx.o (L' := [.ref v0, .int v1, .int v2, .int v3, .int v4, .int v5, .int (0 : Int32)]) (fun _ _ _ k => ex_istore dX12_feed_53 (by decide) k) ?_
    refine Sx.fg [true, false, false, false, false, false, true] ?_
    exact Ref_feed_55_s hb52
  · have hb28 := iq q hb26
    refine Sx.o (fun _ _ _ k => op_iconst (-1 : Int32) dX12_feed_13 (by decide) k) ?_
    obtain rfl := Option.some.inj hb28
    exact Sx.r (fun _ _ _ k => ex_iret rfl dX12_feed_14 k)
set_option maxHeartbeats 1000000 in
set_option maxRecDepth 100000 in
theorem Ref_feed_q {v0 : Nat} {v1 : Int32} {v2 : Int32} {v3 : Int32} {v4 : Int32} {v5 : Int32} {h : am_H} {r : (Int32 × am_H)} (hb : Ref_feed v0 v1 v2 v3 v4 v5 h = some r) : Eqs h r.2 := by
  unfold Ref_feed at hb
  have hb := (iz hb).2
  have w0 := Eqs.rf h
  obtain ⟨x25, e_x25, hb26⟩ := ob2 hb
  by_cases q : (x25 + (20 : Int32)) ≤ (400 : Int32)
  · have hb27 := ip q hb26
    obtain ⟨x29, e_x29, hb30⟩ := ob2 hb27
    obtain ⟨h31, e_h31, hb32⟩ := ob2 hb30
    have w33 := w0.tr (sI_q e_h31)
    obtain ⟨x34, e_x34, hb35⟩ := ob2 hb32
    obtain ⟨h36, e_h36, hb37⟩ := ob2 hb35
    have w38 := w33.tr (sI_q e_h36)
    obtain ⟨x39, e_x39, hb40⟩ := ob2 hb37
    obtain ⟨h41, e_h41, hb42⟩ := ob2 hb40
    have w43 := w38.tr (sI_q e_h41)
    obtain ⟨x44, e_x44, hb45⟩ := ob2 hb42
    obtain ⟨h46, e_h46, hb47⟩ := ob2 hb45
    have w48 := w43.tr (sI_q e_h46)
    obtain ⟨x49, e_x49, hb50⟩ := ob2 hb47
    obtain ⟨h51, e_h51, hb52⟩ := ob2 hb50
    have w53 := w48.tr (sI_q e_h51)
    exact w53.tr (Ref_feed_55_q hb52)
  · have hb28 := iq q hb26
    obtain rfl := Option.some.inj hb28
    exact w0
theorem Ref_feed_o {v0 : Nat} {v1 : Int32} {v2 : Int32} {v3 : Int32} {v4 : Int32} {v5 : Int32} {h : am_H} {r : (Int32 × am_H)} (hb : Ref_feed v0 v1 v2 v3 v4 v5 h = some r) : isO h 12 v0 = true := by
  unfold Ref_feed at hb
  exact (iz hb).1
