/-! Text: its methods as functions (by wip/whole/dec.py) -/
set_option maxHeartbeats 1000000 in
set_option maxRecDepth 100000 in
noncomputable def Text_join (v0 : Int32) (v1 : Int64) (v3 : Int64) (h : am_H) : Option Int64 := if v0 = (3 : Int32) then some (v1 + v3) else if v0 = (4 : Int32) then some (v1 - v3) else if v0 = (5 : Int32) then some (v1 * v3) else if v0 = (6 : Int32) then if (lg_cmp v3 (0 : Int64)) = (0 : Int32) then some (-2147483648 : Int64) else (dvJ v1 v3).bind fun x10 => some x10 else if v0 = (7 : Int32) then if (lg_cmp v3 (0 : Int64)) = (0 : Int32) then some (-2147483648 : Int64) else (rmJ v1 v3).bind fun x16 => some x16 else if v0 = (8 : Int32) then if (0 : Int32) ≤ (lg_cmp v1 v3) then some (0 : Int64) else some (1 : Int64) else if v0 = (9 : Int32) then if (lg_cmp v1 v3) ≤ (0 : Int32) then some (0 : Int64) else some (1 : Int64) else if v0 = (10 : Int32) then if (lg_cmp v1 v3) = (0 : Int32) then some (1 : Int64) else some (0 : Int64) else some (-2147483648 : Int64)
set_option maxHeartbeats 1000000 in
set_option maxRecDepth 100000 in
theorem Text_join_s {v0 : Int32} {v1 : Int64} {v3 : Int64} {h : am_H} {r : Int64} (hb : Text_join v0 v1 v3 h = some r) : Sx 0 mX9_join 0 (am_en [.int v0, .long v1, .long v3] 5) [] h (some (.long r)) h := by
  unfold Text_join at hb
  show Sx 0 mX9_join 0 [.int v0, .long v1, .retAddr 0, .long v3, .retAddr 0] [] h (some (.long r)) h
  refine Sx.o (fun _ _ _ k => ex_iload_n dX9_join_0 rfl k) ?_
  by_cases q3 : v0 = (3 : Int32)
  · have hb1 := ip q3 hb
    refine Sx.o (fun _ _ _ k => ex_tableIn 48 dX9_join_1 (by rw [q3]; decide) (by rw [q3]; decide) (show _ = some (47 : Int) by rw [q3]; decide) (by decide) k) ?_
    refine Sx.o (fun _ _ _ k => ex_lload_n dX9_join_48 rfl k) ?_
    refine Sx.o (fun _ _ _ k => ex_lload_n dX9_join_49 rfl k) ?_
    refine Sx.o (fun _ _ _ k => ex_ladd dX9_join_50 k) ?_
    obtain rfl := Option.some.inj hb1
    exact Sx.r (fun _ _ _ k => ex_lret rfl dX9_join_51 k)
  · have hb2 := iq q3 hb
    by_cases q4 : v0 = (4 : Int32)
    · have hb3 := ip q4 hb2
      refine Sx.o (fun _ _ _ k => ex_tableIn 52 dX9_join_1 (by rw [q4]; decide) (by rw [q4]; decide) (show _ = some (51 : Int) by rw [q4]; decide) (by decide) k) ?_
      refine Sx.o (fun _ _ _ k => ex_lload_n dX9_join_52 rfl k) ?_
      refine Sx.o (fun _ _ _ k => ex_lload_n dX9_join_53 rfl k) ?_
      refine Sx.o (fun _ _ _ k => ex_lsub dX9_join_54 k) ?_
      obtain rfl := Option.some.inj hb3
      exact Sx.r (fun _ _ _ k => ex_lret rfl dX9_join_55 k)
    · have hb4 := iq q4 hb2
      by_cases q5 : v0 = (5 : Int32)
      · have hb5 := ip q5 hb4
        refine Sx.o (fun _ _ _ k => ex_tableIn 56 dX9_join_1 (by rw [q5]; decide) (by rw [q5]; decide) (show _ = some (55 : Int) by rw [q5]; decide) (by decide) k) ?_
        refine Sx.o (fun _ _ _ k => ex_lload_n dX9_join_56 rfl k) ?_
        refine Sx.o (fun _ _ _ k => ex_lload_n dX9_join_57 rfl k) ?_
        refine Sx.o (fun _ _ _ k => ex_lmul dX9_join_58 k) ?_
        obtain rfl := Option.some.inj hb5
        exact Sx.r (fun _ _ _ k => ex_lret rfl dX9_join_59 k)
      · have hb6 := iq q5 hb4
        by_cases q6 : v0 = (6 : Int32)
        · have hb7 := ip q6 hb6
          refine Sx.o (fun _ _ _ k => ex_tableIn 60 dX9_join_1 (by rw [q6]; decide) (by rw [q6]; decide) (show _ = some (59 : Int) by rw [q6]; decide) (by decide) k) ?_
          refine Sx.o (fun _ _ _ k => ex_lload_n dX9_join_60 rfl k) ?_
          refine Sx.o (fun _ _ _ k => op_lconst (0 : Int64) dX9_join_61 (by decide) k) ?_
          refine Sx.o (fun _ _ _ k => ex_lcmp dX9_join_62 k) ?_
          refine Sx.bn (fun _ _ _ k1 k2 => ex_if_ne 72 dX9_join_63 (by decide) k1 k2) (fun q => ?_) (fun q => ?_)
          · have hb8 := iq q hb7
            refine Sx.o (fun _ _ _ k => ex_lload_n dX9_join_72 rfl k) ?_
            refine Sx.o (fun _ _ _ k => ex_lload_n dX9_join_73 rfl k) ?_
            obtain ⟨x10, e_x10, hb11⟩ := ob2 hb8
            refine Sx.o (fun _ _ _ k => op_ldiv dX9_join_74 e_x10 k) ?_
            obtain rfl := Option.some.inj hb11
            exact Sx.r (fun _ _ _ k => ex_lret rfl dX9_join_75 k)
          · have hb9 := ip q hb7
            refine Sx.o (fun _ _ _ k => ex_ldc2 dX9_join_66 qX9_74 k) ?_
            refine Sx.o (fun _ _ _ k => ex_goto 75 dX9_join_69 (by decide) k) ?_
            obtain rfl := Option.some.inj hb9
            exact Sx.r (fun _ _ _ k => ex_lret rfl dX9_join_75 k)
        · have hb12 := iq q6 hb6
          by_cases q7 : v0 = (7 : Int32)
          · have hb13 := ip q7 hb12
            refine Sx.o (fun _ _ _ k => ex_tableIn 76 dX9_join_1 (by rw [q7]; decide) (by rw [q7]; decide) (show _ = some (75 : Int) by rw [q7]; decide) (by decide) k) ?_
            refine Sx.o (fun _ _ _ k => ex_lload_n dX9_join_76 rfl k) ?_
            refine Sx.o (fun _ _ _ k => op_lconst (0 : Int64) dX9_join_77 (by decide) k) ?_
            refine Sx.o (fun _ _ _ k => ex_lcmp dX9_join_78 k) ?_
            refine Sx.bn (fun _ _ _ k1 k2 => ex_if_ne 88 dX9_join_79 (by decide) k1 k2) (fun q => ?_) (fun q => ?_)
            · have hb14 := iq q hb13
              refine Sx.o (fun _ _ _ k => ex_lload_n dX9_join_88 rfl k) ?_
              refine Sx.o (fun _ _ _ k => ex_lload_n dX9_join_89 rfl k) ?_
              obtain ⟨x16, e_x16, hb17⟩ := ob2 hb14
              refine Sx.o (fun _ _ _ k => op_lrem dX9_join_90 e_x16 k) ?_
              obtain rfl := Option.some.inj hb17
              exact Sx.r (fun _ _ _ k => ex_lret rfl dX9_join_91 k)
            · have hb15 := ip q hb13
              refine Sx.o (fun _ _ _ k => ex_ldc2 dX9_join_82 qX9_74 k) ?_
              refine Sx.o (fun _ _ _ k => ex_goto 91 dX9_join_85 (by decide) k) ?_
              obtain rfl := Option.some.inj hb15
              exact Sx.r (fun _ _ _ k => ex_lret rfl dX9_join_91 k)
          · have hb18 := iq q7 hb12
            by_cases q8 : v0 = (8 : Int32)
            · have hb19 := ip q8 hb18
              refine Sx.o (fun _ _ _ k => ex_tableIn 92 dX9_join_1 (by rw [q8]; decide) (by rw [q8]; decide) (show _ = some (91 : Int) by rw [q8]; decide) (by decide) k) ?_
              refine Sx.o (fun _ _ _ k => ex_lload_n dX9_join_92 rfl k) ?_
              refine Sx.o (fun _ _ _ k => ex_lload_n dX9_join_93 rfl k) ?_
              refine Sx.o (fun _ _ _ k => ex_lcmp dX9_join_94 k) ?_
              refine Sx.b (fun _ _ _ k1 k2 => ex_if_ge 102 dX9_join_95 (by decide) k1 k2) (fun q => ?_) (fun q => ?_)
              · have hb20 := ip q hb19
                refine Sx.o (fun _ _ _ k => op_lconst (0 : Int64) dX9_join_102 (by decide) k) ?_
                obtain rfl := Option.some.inj hb20
                exact Sx.r (fun _ _ _ k => ex_lret rfl dX9_join_103 k)
              · have hb21 := iq q hb19
                refine Sx.o (fun _ _ _ k => op_lconst (1 : Int64) dX9_join_98 (by decide) k) ?_
                refine Sx.o (fun _ _ _ k => ex_goto 103 dX9_join_99 (by decide) k) ?_
                obtain rfl := Option.some.inj hb21
                exact Sx.r (fun _ _ _ k => ex_lret rfl dX9_join_103 k)
            · have hb22 := iq q8 hb18
              by_cases q9 : v0 = (9 : Int32)
              · have hb23 := ip q9 hb22
                refine Sx.o (fun _ _ _ k => ex_tableIn 104 dX9_join_1 (by rw [q9]; decide) (by rw [q9]; decide) (show _ = some (103 : Int) by rw [q9]; decide) (by decide) k) ?_
                refine Sx.o (fun _ _ _ k => ex_lload_n dX9_join_104 rfl k) ?_
                refine Sx.o (fun _ _ _ k => ex_lload_n dX9_join_105 rfl k) ?_
                refine Sx.o (fun _ _ _ k => ex_lcmp dX9_join_106 k) ?_
                refine Sx.b (fun _ _ _ k1 k2 => ex_if_le 114 dX9_join_107 (by decide) k1 k2) (fun q => ?_) (fun q => ?_)
                · have hb24 := ip q hb23
                  refine Sx.o (fun _ _ _ k => op_lconst (0 : Int64) dX9_join_114 (by decide) k) ?_
                  obtain rfl := Option.some.inj hb24
                  exact Sx.r (fun _ _ _ k => ex_lret rfl dX9_join_115 k)
                · have hb25 := iq q hb23
                  refine Sx.o (fun _ _ _ k => op_lconst (1 : Int64) dX9_join_110 (by decide) k) ?_
                  refine Sx.o (fun _ _ _ k => ex_goto 115 dX9_join_111 (by decide) k) ?_
                  obtain rfl := Option.some.inj hb25
                  exact Sx.r (fun _ _ _ k => ex_lret rfl dX9_join_115 k)
              · have hb26 := iq q9 hb22
                by_cases q10 : v0 = (10 : Int32)
                · have hb27 := ip q10 hb26
                  refine Sx.o (fun _ _ _ k => ex_tableIn 116 dX9_join_1 (by rw [q10]; decide) (by rw [q10]; decide) (show _ = some (115 : Int) by rw [q10]; decide) (by decide) k) ?_
                  refine Sx.o (fun _ _ _ k => ex_lload_n dX9_join_116 rfl k) ?_
                  refine Sx.o (fun _ _ _ k => ex_lload_n dX9_join_117 rfl k) ?_
                  refine Sx.o (fun _ _ _ k => ex_lcmp dX9_join_118 k) ?_
                  refine Sx.bn (fun _ _ _ k1 k2 => ex_if_ne 126 dX9_join_119 (by decide) k1 k2) (fun q => ?_) (fun q => ?_)
                  · have hb28 := iq q hb27
                    refine Sx.o (fun _ _ _ k => op_lconst (0 : Int64) dX9_join_126 (by decide) k) ?_
                    obtain rfl := Option.some.inj hb28
                    exact Sx.r (fun _ _ _ k => ex_lret rfl dX9_join_127 k)
                  · have hb29 := ip q hb27
                    refine Sx.o (fun _ _ _ k => op_lconst (1 : Int64) dX9_join_122 (by decide) k) ?_
                    refine Sx.o (fun _ _ _ k => ex_goto 127 dX9_join_123 (by decide) k) ?_
                    obtain rfl := Option.some.inj hb29
                    exact Sx.r (fun _ _ _ k => ex_lret rfl dX9_join_127 k)
                · have hb30 := iq q10 hb26
                  have t0 : ¬ (Int32.toInt v0) = 3 := fun z => q3 (Int32.toInt_inj.mp (z.trans (by decide)))
                  have t1 : ¬ (Int32.toInt v0) = 4 := fun z => q4 (Int32.toInt_inj.mp (z.trans (by decide)))
                  have t2 : ¬ (Int32.toInt v0) = 5 := fun z => q5 (Int32.toInt_inj.mp (z.trans (by decide)))
                  have t3 : ¬ (Int32.toInt v0) = 6 := fun z => q6 (Int32.toInt_inj.mp (z.trans (by decide)))
                  have t4 : ¬ (Int32.toInt v0) = 7 := fun z => q7 (Int32.toInt_inj.mp (z.trans (by decide)))
                  have t5 : ¬ (Int32.toInt v0) = 8 := fun z => q8 (Int32.toInt_inj.mp (z.trans (by decide)))
                  have t6 : ¬ (Int32.toInt v0) = 9 := fun z => q9 (Int32.toInt_inj.mp (z.trans (by decide)))
                  have t7 : ¬ (Int32.toInt v0) = 10 := fun z => q10 (Int32.toInt_inj.mp (z.trans (by decide)))
                  refine Sx.o (fun _ _ _ k => ex_tableOut 128 dX9_join_1 (by omega) (by decide) k) ?_
                  refine Sx.o (fun _ _ _ k => ex_ldc2 dX9_join_128 qX9_74 k) ?_
                  obtain rfl := Option.some.inj hb30
                  exact Sx.r (fun _ _ _ k => ex_lret rfl dX9_join_131 k)
set_option maxHeartbeats 1000000 in
set_option maxRecDepth 100000 in
noncomputable def Text_ask_9_b (g : (Nat × Int32 × Int32 × Int32 × Int32 × Int32 × Nat × Nat × Nat × am_H) → Option (Int32 × am_H)) (v0 : Nat) (v2 : Nat) (v3 : Int32) (v4 : Int32) (h : am_H) : Option (Int32 × am_H) := (gI h 9 v0 1).bind fun x1 => if x1 ≤ v4 then some ((-2147483648 : Int32), h) else (gR h 9 v0 0).bind fun x5 => (aI h 0 x5 v4).bind fun x7 => (gR h 9 v0 0).bind fun x9 => (aI h 0 x9 v4).bind fun x11 => if (x7 &&& (15 : Int32)) = (0 : Int32) then if v3 < (0 : Int32) then some ((-2147483648 : Int32), h) else (gR h 9 v0 7).bind fun x34 => (aI h 0 x34 v3).bind fun x36 => some (x36, h) else if (x7 &&& (15 : Int32)) = (1 : Int32) then g (74, v3, v4, (x7 &&& (15 : Int32)), (x11 >>> ((4 : Int32) &&& 31)), 0, v0, v2, 0, h) else if (x7 &&& (15 : Int32)) = (2 : Int32) then g (74, v3, v4, (x7 &&& (15 : Int32)), (x11 >>> ((4 : Int32) &&& 31)), 0, v0, v2, 0, h) else if (x7 &&& (15 : Int32)) = (11 : Int32) then if v3 < (0 : Int32) then g (167, v3, v4, (x7 &&& (15 : Int32)), (x11 >>> ((4 : Int32) &&& 31)), 0, v0, v2, 0, h) else (gR h 9 v0 7).bind fun x23 => (gR h 9 v0 7).bind fun x25 => (aI h 0 x25 v3).bind fun x27 => (sI h x23 v3 ((1 : Int32) - x27)).bind fun h29 => g (293, v3, v4, 0, 0, 0, v0, v2, 0, h29) else g (167, v3, v4, (x7 &&& (15 : Int32)), (x11 >>> ((4 : Int32) &&& 31)), 0, v0, v2, 0, h)
set_option maxHeartbeats 1000000 in
set_option maxRecDepth 100000 in
theorem Text_ask_9_m {g g2 : (Nat × Int32 × Int32 × Int32 × Int32 × Int32 × Nat × Nat × Nat × am_H) → Option (Int32 × am_H)} (hg : ∀ s, Le (g s) (g2 s)) (v0 : Nat) (v2 : Nat) (v3 : Int32) (v4 : Int32) (h : am_H) : Le (Text_ask_9_b g v0 v2 v3 v4 h) (Text_ask_9_b g2 v0 v2 v3 v4 h) := by unfold Text_ask_9_b; exact le_b (le_r _) fun x1 => le_i (le_r _) (le_b (le_r _) fun x5 => le_b (le_r _) fun x7 => le_b (le_r _) fun x9 => le_b (le_r _) fun x11 => le_i (le_r _) (le_i (hg _) (le_i (hg _) (le_i (le_i (hg _) (le_b (le_r _) fun x23 => le_b (le_r _) fun x25 => le_b (le_r _) fun x27 => le_b (le_r _) fun h29 => hg _)) (hg _)))))
set_option maxHeartbeats 1000000 in
set_option maxRecDepth 100000 in
noncomputable def Text_ask_74_b (g : (Nat × Int32 × Int32 × Int32 × Int32 × Int32 × Nat × Nat × Nat × am_H) → Option (Int32 × am_H)) (v0 : Nat) (v2 : Nat) (v3 : Int32) (v4 : Int32) (v5 : Int32) (v6 : Int32) (h : am_H) : Option (Int32 × am_H) := (gR h 9 v0 7).bind fun x38 => (aL h x38).bind fun x40 => if (v3 + (1 : Int32)) < x40 then if v5 = (2 : Int32) then if v6 < (0 : Int32) then g (113, (v3 + (1 : Int32)), v4, v6, 0, 0, v0, v2, 0, h) else (aL h v2).bind fun x48 => if x48 ≤ v6 then g (113, (v3 + (1 : Int32)), v4, v6, 0, 0, v0, v2, 0, h) else g (114, (v3 + (1 : Int32)), v4, v6, (1 : Int32), 0, v0, v2, 0, h) else g (113, (v3 + (1 : Int32)), v4, v6, 0, 0, v0, v2, 0, h) else some ((-2147483648 : Int32), h)
set_option maxHeartbeats 1000000 in
set_option maxRecDepth 100000 in
theorem Text_ask_74_m {g g2 : (Nat × Int32 × Int32 × Int32 × Int32 × Int32 × Nat × Nat × Nat × am_H) → Option (Int32 × am_H)} (hg : ∀ s, Le (g s) (g2 s)) (v0 : Nat) (v2 : Nat) (v3 : Int32) (v4 : Int32) (v5 : Int32) (v6 : Int32) (h : am_H) : Le (Text_ask_74_b g v0 v2 v3 v4 v5 v6 h) (Text_ask_74_b g2 v0 v2 v3 v4 v5 v6 h) := by unfold Text_ask_74_b; exact le_b (le_r _) fun x38 => le_b (le_r _) fun x40 => le_i (le_i (le_i (hg _) (le_b (le_r _) fun x48 => le_i (hg _) (hg _))) (hg _)) (le_r _)
set_option maxHeartbeats 1000000 in
set_option maxRecDepth 100000 in
noncomputable def Text_ask_113_b (g : (Nat × Int32 × Int32 × Int32 × Int32 × Int32 × Nat × Nat × Nat × am_H) → Option (Int32 × am_H)) (v0 : Nat) (v2 : Nat) (v3 : Int32) (v4 : Int32) (v6 : Int32) (h : am_H) : Option (Int32 × am_H) := g (114, v3, v4, v6, (0 : Int32), 0, v0, v2, 0, h)
set_option maxHeartbeats 1000000 in
set_option maxRecDepth 100000 in
theorem Text_ask_113_m {g g2 : (Nat × Int32 × Int32 × Int32 × Int32 × Int32 × Nat × Nat × Nat × am_H) → Option (Int32 × am_H)} (hg : ∀ s, Le (g s) (g2 s)) (v0 : Nat) (v2 : Nat) (v3 : Int32) (v4 : Int32) (v6 : Int32) (h : am_H) : Le (Text_ask_113_b g v0 v2 v3 v4 v6 h) (Text_ask_113_b g2 v0 v2 v3 v4 v6 h) := by unfold Text_ask_113_b; exact hg _
set_option maxHeartbeats 1000000 in
set_option maxRecDepth 100000 in
noncomputable def Text_ask_114_b (g : (Nat × Int32 × Int32 × Int32 × Int32 × Int32 × Nat × Nat × Nat × am_H) → Option (Int32 × am_H)) (v0 : Nat) (v2 : Nat) (v3 : Int32) (v4 : Int32) (v6 : Int32) (s0 : Int32) (h : am_H) : Option (Int32 × am_H) := (gR h 9 v0 7).bind fun x52 => if s0 = (0 : Int32) then g (135, v3, v4, v6, v3, 0, v0, v2, x52, h) else (aI h 0 v2 v6).bind fun x56 => g (135, v3, v4, x56, v3, 0, v0, v2, x52, h)
set_option maxHeartbeats 1000000 in
set_option maxRecDepth 100000 in
theorem Text_ask_114_m {g g2 : (Nat × Int32 × Int32 × Int32 × Int32 × Int32 × Nat × Nat × Nat × am_H) → Option (Int32 × am_H)} (hg : ∀ s, Le (g s) (g2 s)) (v0 : Nat) (v2 : Nat) (v3 : Int32) (v4 : Int32) (v6 : Int32) (s0 : Int32) (h : am_H) : Le (Text_ask_114_b g v0 v2 v3 v4 v6 s0 h) (Text_ask_114_b g2 v0 v2 v3 v4 v6 s0 h) := by unfold Text_ask_114_b; exact le_b (le_r _) fun x52 => le_i (hg _) (le_b (le_r _) fun x56 => hg _)
set_option maxHeartbeats 1000000 in
set_option maxRecDepth 100000 in
noncomputable def Text_ask_135_b (g : (Nat × Int32 × Int32 × Int32 × Int32 × Int32 × Nat × Nat × Nat × am_H) → Option (Int32 × am_H)) (v0 : Nat) (v2 : Nat) (v3 : Int32) (v4 : Int32) (s0 : Int32) (s1 : Int32) (s2 : Nat) (h : am_H) : Option (Int32 × am_H) := (sI h s2 s1 s0).bind fun h58 => g (293, v3, v4, 0, 0, 0, v0, v2, 0, h58)
set_option maxHeartbeats 1000000 in
set_option maxRecDepth 100000 in
theorem Text_ask_135_m {g g2 : (Nat × Int32 × Int32 × Int32 × Int32 × Int32 × Nat × Nat × Nat × am_H) → Option (Int32 × am_H)} (hg : ∀ s, Le (g s) (g2 s)) (v0 : Nat) (v2 : Nat) (v3 : Int32) (v4 : Int32) (s0 : Int32) (s1 : Int32) (s2 : Nat) (h : am_H) : Le (Text_ask_135_b g v0 v2 v3 v4 s0 s1 s2 h) (Text_ask_135_b g2 v0 v2 v3 v4 s0 s1 s2 h) := by unfold Text_ask_135_b; exact le_b (le_r _) fun h58 => hg _
set_option maxHeartbeats 1000000 in
set_option maxRecDepth 100000 in
noncomputable def Text_ask_167_b (g : (Nat × Int32 × Int32 × Int32 × Int32 × Int32 × Nat × Nat × Nat × am_H) → Option (Int32 × am_H)) (v0 : Nat) (v2 : Nat) (v3 : Int32) (v4 : Int32) (v5 : Int32) (v6 : Int32) (h : am_H) : Option (Int32 × am_H) := if v5 = (12 : Int32) then g (181, v3, v4, v5, v6, 0, v0, v2, 0, h) else if v5 = (13 : Int32) then g (181, v3, v4, v5, v6, 0, v0, v2, 0, h) else g (226, v3, v4, v5, 0, 0, v0, v2, 0, h)
set_option maxHeartbeats 1000000 in
set_option maxRecDepth 100000 in
theorem Text_ask_167_m {g g2 : (Nat × Int32 × Int32 × Int32 × Int32 × Int32 × Nat × Nat × Nat × am_H) → Option (Int32 × am_H)} (hg : ∀ s, Le (g s) (g2 s)) (v0 : Nat) (v2 : Nat) (v3 : Int32) (v4 : Int32) (v5 : Int32) (v6 : Int32) (h : am_H) : Le (Text_ask_167_b g v0 v2 v3 v4 v5 v6 h) (Text_ask_167_b g2 v0 v2 v3 v4 v5 v6 h) := by unfold Text_ask_167_b; exact le_i (hg _) (le_i (hg _) (hg _))
set_option maxHeartbeats 1000000 in
set_option maxRecDepth 100000 in
noncomputable def Text_ask_181_b (g : (Nat × Int32 × Int32 × Int32 × Int32 × Int32 × Nat × Nat × Nat × am_H) → Option (Int32 × am_H)) (v0 : Nat) (v2 : Nat) (v3 : Int32) (v4 : Int32) (v5 : Int32) (v6 : Int32) (h : am_H) : Option (Int32 × am_H) := if v3 < (0 : Int32) then g (226, v3, v4, v5, 0, 0, v0, v2, 0, h) else (gR h 9 v0 7).bind fun x67 => (aI h 0 x67 v3).bind fun x69 => if v5 = (12 : Int32) then g (203, v3, v4, v6, (1 : Int32), x69, v0, v2, 0, h) else g (203, v3, v4, v6, (0 : Int32), x69, v0, v2, 0, h)
set_option maxHeartbeats 1000000 in
set_option maxRecDepth 100000 in
theorem Text_ask_181_m {g g2 : (Nat × Int32 × Int32 × Int32 × Int32 × Int32 × Nat × Nat × Nat × am_H) → Option (Int32 × am_H)} (hg : ∀ s, Le (g s) (g2 s)) (v0 : Nat) (v2 : Nat) (v3 : Int32) (v4 : Int32) (v5 : Int32) (v6 : Int32) (h : am_H) : Le (Text_ask_181_b g v0 v2 v3 v4 v5 v6 h) (Text_ask_181_b g2 v0 v2 v3 v4 v5 v6 h) := by unfold Text_ask_181_b; exact le_i (hg _) (le_b (le_r _) fun x67 => le_b (le_r _) fun x69 => le_i (hg _) (hg _))
set_option maxHeartbeats 1000000 in
set_option maxRecDepth 100000 in
noncomputable def Text_ask_203_b (g : (Nat × Int32 × Int32 × Int32 × Int32 × Int32 × Nat × Nat × Nat × am_H) → Option (Int32 × am_H)) (v0 : Nat) (v2 : Nat) (v3 : Int32) (v4 : Int32) (v6 : Int32) (s0 : Int32) (s1 : Int32) (h : am_H) : Option (Int32 × am_H) := if s1 = s0 then g (293, v3, (if v4 < v6 - (1 : Int32) then v6 - (1 : Int32) else v4), 0, 0, 0, v0, v2, 0, h) else g (293, (v3 + (-1 : Int32)), v4, 0, 0, 0, v0, v2, 0, h)
set_option maxHeartbeats 1000000 in
set_option maxRecDepth 100000 in
theorem Text_ask_203_m {g g2 : (Nat × Int32 × Int32 × Int32 × Int32 × Int32 × Nat × Nat × Nat × am_H) → Option (Int32 × am_H)} (hg : ∀ s, Le (g s) (g2 s)) (v0 : Nat) (v2 : Nat) (v3 : Int32) (v4 : Int32) (v6 : Int32) (s0 : Int32) (s1 : Int32) (h : am_H) : Le (Text_ask_203_b g v0 v2 v3 v4 v6 s0 s1 h) (Text_ask_203_b g2 v0 v2 v3 v4 v6 s0 s1 h) := by unfold Text_ask_203_b; exact le_i (hg _) (hg _)
set_option maxHeartbeats 1000000 in
set_option maxRecDepth 100000 in
noncomputable def Text_ask_226_b (g : (Nat × Int32 × Int32 × Int32 × Int32 × Int32 × Nat × Nat × Nat × am_H) → Option (Int32 × am_H)) (v0 : Nat) (v2 : Nat) (v3 : Int32) (v4 : Int32) (v5 : Int32) (h : am_H) : Option (Int32 × am_H) := if v3 < (1 : Int32) then some ((-2147483648 : Int32), h) else (gR h 9 v0 7).bind fun x77 => (aI h 0 x77 (v3 + (-1 : Int32))).bind fun x79 => (gR h 9 v0 7).bind fun x81 => (aI h 0 x81 ((v3 + (-1 : Int32)) + (1 : Int32))).bind fun x83 => (Text_join v5 (Int32.toInt64 x79) (Int32.toInt64 x83) h).bind fun x85 => if (lg_cmp x85 (-1000000000 : Int64)) < (0 : Int32) then some ((-2147483648 : Int32), h) else if (lg_cmp x85 (1000000000 : Int64)) ≤ (0 : Int32) then (gR h 9 v0 7).bind fun x91 => (sI h x91 (v3 + (-1 : Int32)) (Int64.toInt32 x85)).bind fun h93 => g (293, (v3 + (-1 : Int32)), v4, 0, 0, 0, v0, v2, 0, h93) else some ((-2147483648 : Int32), h)
set_option maxHeartbeats 1000000 in
set_option maxRecDepth 100000 in
theorem Text_ask_226_m {g g2 : (Nat × Int32 × Int32 × Int32 × Int32 × Int32 × Nat × Nat × Nat × am_H) → Option (Int32 × am_H)} (hg : ∀ s, Le (g s) (g2 s)) (v0 : Nat) (v2 : Nat) (v3 : Int32) (v4 : Int32) (v5 : Int32) (h : am_H) : Le (Text_ask_226_b g v0 v2 v3 v4 v5 h) (Text_ask_226_b g2 v0 v2 v3 v4 v5 h) := by unfold Text_ask_226_b; exact le_i (le_r _) (le_b (le_r _) fun x77 => le_b (le_r _) fun x79 => le_b (le_r _) fun x81 => le_b (le_r _) fun x83 => le_b (le_r _) fun x85 => le_i (le_r _) (le_i (le_b (le_r _) fun x91 => le_b (le_r _) fun h93 => hg _) (le_r _)))
set_option maxHeartbeats 1000000 in
set_option maxRecDepth 100000 in
noncomputable def Text_ask_293_b (g : (Nat × Int32 × Int32 × Int32 × Int32 × Int32 × Nat × Nat × Nat × am_H) → Option (Int32 × am_H)) (v0 : Nat) (v2 : Nat) (v3 : Int32) (v4 : Int32) (h : am_H) : Option (Int32 × am_H) := g (9, v3, (v4 + (1 : Int32)), 0, 0, 0, v0, v2, 0, h)
set_option maxHeartbeats 1000000 in
set_option maxRecDepth 100000 in
theorem Text_ask_293_m {g g2 : (Nat × Int32 × Int32 × Int32 × Int32 × Int32 × Nat × Nat × Nat × am_H) → Option (Int32 × am_H)} (hg : ∀ s, Le (g s) (g2 s)) (v0 : Nat) (v2 : Nat) (v3 : Int32) (v4 : Int32) (h : am_H) : Le (Text_ask_293_b g v0 v2 v3 v4 h) (Text_ask_293_b g2 v0 v2 v3 v4 h) := by unfold Text_ask_293_b; exact hg _
noncomputable def Text_ask_9_F (g : (Nat × Int32 × Int32 × Int32 × Int32 × Int32 × Nat × Nat × Nat × am_H) → Option (Int32 × am_H)) (s : (Nat × Int32 × Int32 × Int32 × Int32 × Int32 × Nat × Nat × Nat × am_H)) : Option (Int32 × am_H) := if s.1 = 9 then Text_ask_9_b g s.2.2.2.2.2.2.1 s.2.2.2.2.2.2.2.1 s.2.1 s.2.2.1 s.2.2.2.2.2.2.2.2.2 else if s.1 = 74 then Text_ask_74_b g s.2.2.2.2.2.2.1 s.2.2.2.2.2.2.2.1 s.2.1 s.2.2.1 s.2.2.2.1 s.2.2.2.2.1 s.2.2.2.2.2.2.2.2.2 else if s.1 = 113 then Text_ask_113_b g s.2.2.2.2.2.2.1 s.2.2.2.2.2.2.2.1 s.2.1 s.2.2.1 s.2.2.2.1 s.2.2.2.2.2.2.2.2.2 else if s.1 = 114 then Text_ask_114_b g s.2.2.2.2.2.2.1 s.2.2.2.2.2.2.2.1 s.2.1 s.2.2.1 s.2.2.2.1 s.2.2.2.2.1 s.2.2.2.2.2.2.2.2.2 else if s.1 = 135 then Text_ask_135_b g s.2.2.2.2.2.2.1 s.2.2.2.2.2.2.2.1 s.2.1 s.2.2.1 s.2.2.2.1 s.2.2.2.2.1 s.2.2.2.2.2.2.2.2.1 s.2.2.2.2.2.2.2.2.2 else if s.1 = 167 then Text_ask_167_b g s.2.2.2.2.2.2.1 s.2.2.2.2.2.2.2.1 s.2.1 s.2.2.1 s.2.2.2.1 s.2.2.2.2.1 s.2.2.2.2.2.2.2.2.2 else if s.1 = 181 then Text_ask_181_b g s.2.2.2.2.2.2.1 s.2.2.2.2.2.2.2.1 s.2.1 s.2.2.1 s.2.2.2.1 s.2.2.2.2.1 s.2.2.2.2.2.2.2.2.2 else if s.1 = 203 then Text_ask_203_b g s.2.2.2.2.2.2.1 s.2.2.2.2.2.2.2.1 s.2.1 s.2.2.1 s.2.2.2.1 s.2.2.2.2.1 s.2.2.2.2.2.1 s.2.2.2.2.2.2.2.2.2 else if s.1 = 226 then Text_ask_226_b g s.2.2.2.2.2.2.1 s.2.2.2.2.2.2.2.1 s.2.1 s.2.2.1 s.2.2.2.1 s.2.2.2.2.2.2.2.2.2 else if s.1 = 293 then Text_ask_293_b g s.2.2.2.2.2.2.1 s.2.2.2.2.2.2.2.1 s.2.1 s.2.2.1 s.2.2.2.2.2.2.2.2.2 else none
theorem Text_ask_9_M : Mn Text_ask_9_F := fun g g2 hg s => by unfold Text_ask_9_F; exact le_i (Text_ask_9_m hg s.2.2.2.2.2.2.1 s.2.2.2.2.2.2.2.1 s.2.1 s.2.2.1 s.2.2.2.2.2.2.2.2.2) (le_i (Text_ask_74_m hg s.2.2.2.2.2.2.1 s.2.2.2.2.2.2.2.1 s.2.1 s.2.2.1 s.2.2.2.1 s.2.2.2.2.1 s.2.2.2.2.2.2.2.2.2) (le_i (Text_ask_113_m hg s.2.2.2.2.2.2.1 s.2.2.2.2.2.2.2.1 s.2.1 s.2.2.1 s.2.2.2.1 s.2.2.2.2.2.2.2.2.2) (le_i (Text_ask_114_m hg s.2.2.2.2.2.2.1 s.2.2.2.2.2.2.2.1 s.2.1 s.2.2.1 s.2.2.2.1 s.2.2.2.2.1 s.2.2.2.2.2.2.2.2.2) (le_i (Text_ask_135_m hg s.2.2.2.2.2.2.1 s.2.2.2.2.2.2.2.1 s.2.1 s.2.2.1 s.2.2.2.1 s.2.2.2.2.1 s.2.2.2.2.2.2.2.2.1 s.2.2.2.2.2.2.2.2.2) (le_i (Text_ask_167_m hg s.2.2.2.2.2.2.1 s.2.2.2.2.2.2.2.1 s.2.1 s.2.2.1 s.2.2.2.1 s.2.2.2.2.1 s.2.2.2.2.2.2.2.2.2) (le_i (Text_ask_181_m hg s.2.2.2.2.2.2.1 s.2.2.2.2.2.2.2.1 s.2.1 s.2.2.1 s.2.2.2.1 s.2.2.2.2.1 s.2.2.2.2.2.2.2.2.2) (le_i (Text_ask_203_m hg s.2.2.2.2.2.2.1 s.2.2.2.2.2.2.2.1 s.2.1 s.2.2.1 s.2.2.2.1 s.2.2.2.2.1 s.2.2.2.2.2.1 s.2.2.2.2.2.2.2.2.2) (le_i (Text_ask_226_m hg s.2.2.2.2.2.2.1 s.2.2.2.2.2.2.2.1 s.2.1 s.2.2.1 s.2.2.2.1 s.2.2.2.2.2.2.2.2.2) (le_i (Text_ask_293_m hg s.2.2.2.2.2.2.1 s.2.2.2.2.2.2.2.1 s.2.1 s.2.2.1 s.2.2.2.2.2.2.2.2.2) (le_r _))))))))))
def Text_ask_9_P (s : (Nat × Int32 × Int32 × Int32 × Int32 × Int32 × Nat × Nat × Nat × am_H)) (r : (Int32 × am_H)) : Prop := (s.1 = 9 → Sx 1 mX9_ask 9 [.ref s.2.2.2.2.2.2.1, .retAddr 0, .ref s.2.2.2.2.2.2.2.1, .int s.2.1, .int s.2.2.1, .retAddr 0, .retAddr 0, .retAddr 0, .retAddr 0] [] s.2.2.2.2.2.2.2.2.2 (some (.int r.1)) r.2) ∧ (s.1 = 74 → Sx 1 mX9_ask 74 [.ref s.2.2.2.2.2.2.1, .retAddr 0, .ref s.2.2.2.2.2.2.2.1, .int s.2.1, .int s.2.2.1, .int s.2.2.2.1, .int s.2.2.2.2.1, .retAddr 0, .retAddr 0] [] s.2.2.2.2.2.2.2.2.2 (some (.int r.1)) r.2) ∧ (s.1 = 113 → Sx 1 mX9_ask 113 [.ref s.2.2.2.2.2.2.1, .retAddr 0, .ref s.2.2.2.2.2.2.2.1, .int s.2.1, .int s.2.2.1, .retAddr 0, .int s.2.2.2.1, .retAddr 0, .retAddr 0] [] s.2.2.2.2.2.2.2.2.2 (some (.int r.1)) r.2) ∧ (s.1 = 114 → Sx 1 mX9_ask 114 [.ref s.2.2.2.2.2.2.1, .retAddr 0, .ref s.2.2.2.2.2.2.2.1, .int s.2.1, .int s.2.2.1, .retAddr 0, .int s.2.2.2.1, .retAddr 0, .retAddr 0] [.int s.2.2.2.2.1] s.2.2.2.2.2.2.2.2.2 (some (.int r.1)) r.2) ∧ (s.1 = 135 → Sx 1 mX9_ask 135 [.ref s.2.2.2.2.2.2.1, .retAddr 0, .ref s.2.2.2.2.2.2.2.1, .int s.2.1, .int s.2.2.1, .retAddr 0, .retAddr 0, .retAddr 0, .retAddr 0] [.int s.2.2.2.1, .int s.2.2.2.2.1, .ref s.2.2.2.2.2.2.2.2.1] s.2.2.2.2.2.2.2.2.2 (some (.int r.1)) r.2) ∧ (s.1 = 167 → Sx 1 mX9_ask 167 [.ref s.2.2.2.2.2.2.1, .retAddr 0, .ref s.2.2.2.2.2.2.2.1, .int s.2.1, .int s.2.2.1, .int s.2.2.2.1, .int s.2.2.2.2.1, .retAddr 0, .retAddr 0] [] s.2.2.2.2.2.2.2.2.2 (some (.int r.1)) r.2) ∧ (s.1 = 181 → Sx 1 mX9_ask 181 [.ref s.2.2.2.2.2.2.1, .retAddr 0, .ref s.2.2.2.2.2.2.2.1, .int s.2.1, .int s.2.2.1, .int s.2.2.2.1, .int s.2.2.2.2.1, .retAddr 0, .retAddr 0] [] s.2.2.2.2.2.2.2.2.2 (some (.int r.1)) r.2) ∧ (s.1 = 203 → Sx 1 mX9_ask 203 [.ref s.2.2.2.2.2.2.1, .retAddr 0, .ref s.2.2.2.2.2.2.2.1, .int s.2.1, .int s.2.2.1, .retAddr 0, .int s.2.2.2.1, .retAddr 0, .retAddr 0] [.int s.2.2.2.2.1, .int s.2.2.2.2.2.1] s.2.2.2.2.2.2.2.2.2 (some (.int r.1)) r.2) ∧ (s.1 = 226 → Sx 1 mX9_ask 226 [.ref s.2.2.2.2.2.2.1, .retAddr 0, .ref s.2.2.2.2.2.2.2.1, .int s.2.1, .int s.2.2.1, .int s.2.2.2.1, .retAddr 0, .retAddr 0, .retAddr 0] [] s.2.2.2.2.2.2.2.2.2 (some (.int r.1)) r.2) ∧ (s.1 = 293 → Sx 1 mX9_ask 293 [.ref s.2.2.2.2.2.2.1, .retAddr 0, .ref s.2.2.2.2.2.2.2.1, .int s.2.1, .int s.2.2.1, .retAddr 0, .retAddr 0, .retAddr 0, .retAddr 0] [] s.2.2.2.2.2.2.2.2.2 (some (.int r.1)) r.2) ∧ True
set_option maxHeartbeats 1000000 in
set_option maxRecDepth 100000 in
theorem Text_ask_9_t {g : (Nat × Int32 × Int32 × Int32 × Int32 × Int32 × Nat × Nat × Nat × am_H) → Option (Int32 × am_H)} (hg : ∀ s r, g s = some r → Text_ask_9_P s r) {v0 : Nat} {v2 : Nat} {v3 : Int32} {v4 : Int32} {h : am_H} {r : (Int32 × am_H)} (hb : Text_ask_9_b g v0 v2 v3 v4 h = some r) : Sx 1 mX9_ask 9 [.ref v0, .retAddr 0, .ref v2, .int v3, .int v4, .retAddr 0, .retAddr 0, .retAddr 0, .retAddr 0] [] h (some (.int r.1)) r.2 := by
  unfold Text_ask_9_b at hb
  refine Sx.o (fun _ _ _ k => ex_iload dX9_ask_9 rfl k) ?_
  refine Sx.o (fun _ _ _ k => ex_aload_n dX9_ask_11 rfl rfl k) ?_
  obtain ⟨x1, e_x1, hb2⟩ := ob2 hb
  refine Sx.o (fun _ _ _ k => op_getI fX9_32 dX9_ask_12 e_x1 k) ?_
  refine Sx.b (fun _ _ _ k1 k2 => ex_icmp_ge 299 dX9_ask_15 (by decide) k1 k2) (fun q => ?_) (fun q => ?_)
  · have hb3 := ip q hb2
    refine Sx.o (fun _ _ _ k => ex_ldc dX9_ask_299 qX9_65 k) ?_
    obtain rfl := Option.some.inj hb3
    exact Sx.r (fun _ _ _ k => ex_iret rfl dX9_ask_301 k)
  · have hb4 := iq q hb2
    refine Sx.o (fun _ _ _ k => ex_aload_n dX9_ask_18 rfl rfl k) ?_
    obtain ⟨x5, e_x5, hb6⟩ := ob2 hb4
    refine Sx.o (fun _ _ _ k => op_getR fX9_13 dX9_ask_19 e_x5 k) ?_
    refine Sx.o (fun _ _ _ k => ex_iload dX9_ask_22 rfl k) ?_
    obtain ⟨x7, e_x7, hb8⟩ := ob2 hb6
    refine Sx.o (fun _ _ _ k => op_iald dX9_ask_24 e_x7 k) ?_
    refine Sx.o (fun _ _ _ k => op_bipush (15 : Int32) dX9_ask_25 (by decide) k) ?_
    refine Sx.o (fun _ _ _ k => ex_iand dX9_ask_27 k) ?_
    refine Sx.o (L' := [.ref v0, .retAddr 0, .ref v2, .int v3, .int v4, .int (x7 &&& (15 : Int32)), .retAddr 0, .retAddr 0, .retAddr 0]) (fun _ _ _ k => ex_istore dX9_ask_28 (by decide) k) ?_
    refine Sx.o (fun _ _ _ k => ex_aload_n dX9_ask_30 rfl rfl k) ?_
    obtain ⟨x9, e_x9, hb10⟩ := ob2 hb8
    refine Sx.o (fun _ _ _ k => op_getR fX9_13 dX9_ask_31 e_x9 k) ?_
    refine Sx.o (fun _ _ _ k => ex_iload dX9_ask_34 rfl k) ?_
    obtain ⟨x11, e_x11, hb12⟩ := ob2 hb10
    refine Sx.o (fun _ _ _ k => op_iald dX9_ask_36 e_x11 k) ?_
    refine Sx.o (fun _ _ _ k => op_iconst (4 : Int32) dX9_ask_37 (by decide) k) ?_
    refine Sx.o (fun _ _ _ k => ex_ishr dX9_ask_38 k) ?_
    refine Sx.o (L' := [.ref v0, .retAddr 0, .ref v2, .int v3, .int v4, .int (x7 &&& (15 : Int32)), .int (x11 >>> ((4 : Int32) &&& 31)), .retAddr 0, .retAddr 0]) (fun _ _ _ k => ex_istore dX9_ask_39 (by decide) k) ?_
    refine Sx.o (fun _ _ _ k => ex_iload dX9_ask_41 rfl k) ?_
    refine Sx.bn (fun _ _ _ k1 k2 => ex_if_ne 62 dX9_ask_43 (by decide) k1 k2) (fun q => ?_) (fun q => ?_)
    · have hb13 := iq q hb12
      refine Sx.o (fun _ _ _ k => ex_iload dX9_ask_62 rfl k) ?_
      refine Sx.o (fun _ _ _ k => op_iconst (1 : Int32) dX9_ask_64 (by decide) k) ?_
      refine Sx.b (fun _ _ _ k1 k2 => ex_icmp_eq 74 dX9_ask_65 (by decide) k1 k2) (fun q => ?_) (fun q => ?_)
      · have hb15 := ip q hb13
        exact (hg _ _ hb15).2.1 rfl
      · have hb16 := iq q hb13
        refine Sx.o (fun _ _ _ k => ex_iload dX9_ask_68 rfl k) ?_
        refine Sx.o (fun _ _ _ k => op_iconst (2 : Int32) dX9_ask_70 (by decide) k) ?_
        refine Sx.bn (fun _ _ _ k1 k2 => ex_icmp_ne 139 dX9_ask_71 (by decide) k1 k2) (fun q => ?_) (fun q => ?_)
        · have hb17 := iq q hb16
          refine Sx.o (fun _ _ _ k => ex_iload dX9_ask_139 rfl k) ?_
          refine Sx.o (fun _ _ _ k => op_bipush (11 : Int32) dX9_ask_141 (by decide) k) ?_
          refine Sx.bn (fun _ _ _ k1 k2 => ex_icmp_ne 167 dX9_ask_143 (by decide) k1 k2) (fun q => ?_) (fun q => ?_)
          · have hb19 := iq q hb17
            exact (hg _ _ hb19).2.2.2.2.2.1 rfl
          · have hb20 := ip q hb17
            refine Sx.o (fun _ _ _ k => ex_iload_n dX9_ask_146 rfl k) ?_
            refine Sx.b (fun _ _ _ k1 k2 => ex_if_lt 167 dX9_ask_147 (by decide) k1 k2) (fun q => ?_) (fun q => ?_)
            · have hb21 := ip q hb20
              exact (hg _ _ hb21).2.2.2.2.2.1 rfl
            · have hb22 := iq q hb20
              refine Sx.o (fun _ _ _ k => ex_aload_n dX9_ask_150 rfl rfl k) ?_
              obtain ⟨x23, e_x23, hb24⟩ := ob2 hb22
              refine Sx.o (fun _ _ _ k => op_getR fX9_29 dX9_ask_151 e_x23 k) ?_
              refine Sx.o (fun _ _ _ k => ex_iload_n dX9_ask_154 rfl k) ?_
              refine Sx.o (fun _ _ _ k => op_iconst (1 : Int32) dX9_ask_155 (by decide) k) ?_
              refine Sx.o (fun _ _ _ k => ex_aload_n dX9_ask_156 rfl rfl k) ?_
              obtain ⟨x25, e_x25, hb26⟩ := ob2 hb24
              refine Sx.o (fun _ _ _ k => op_getR fX9_29 dX9_ask_157 e_x25 k) ?_
              refine Sx.o (fun _ _ _ k => ex_iload_n dX9_ask_160 rfl k) ?_
              obtain ⟨x27, e_x27, hb28⟩ := ob2 hb26
              refine Sx.o (fun _ _ _ k => op_iald dX9_ask_161 e_x27 k) ?_
              refine Sx.o (fun _ _ _ k => ex_isub dX9_ask_162 k) ?_
              obtain ⟨h29, e_h29, hb30⟩ := ob2 hb28
              refine Sx.p (sI_q e_h29) (fun _ _ _ k => op_iast dX9_ask_163 e_h29 k) ?_
              refine Sx.o (fun _ _ _ k => ex_goto 293 dX9_ask_164 (by decide) k) ?_
              refine Sx.fg [true, true, true, true, true, false, false, true, true] ?_
              exact (hg _ _ hb30).2.2.2.2.2.2.2.2.2.1 rfl
        · have hb18 := ip q hb16
          exact (hg _ _ hb18).2.1 rfl
    · have hb14 := ip q hb12
      refine Sx.o (fun _ _ _ k => ex_iload_n dX9_ask_46 rfl k) ?_
      refine Sx.b (fun _ _ _ k1 k2 => ex_if_lt 59 dX9_ask_47 (by decide) k1 k2) (fun q => ?_) (fun q => ?_)
      · have hb32 := ip q hb14
        refine Sx.o (fun _ _ _ k => ex_ldc dX9_ask_59 qX9_65 k) ?_
        obtain rfl := Option.some.inj hb32
        exact Sx.r (fun _ _ _ k => ex_iret rfl dX9_ask_61 k)
      · have hb33 := iq q hb14
        refine Sx.o (fun _ _ _ k => ex_aload_n dX9_ask_50 rfl rfl k) ?_
        obtain ⟨x34, e_x34, hb35⟩ := ob2 hb33
        refine Sx.o (fun _ _ _ k => op_getR fX9_29 dX9_ask_51 e_x34 k) ?_
        refine Sx.o (fun _ _ _ k => ex_iload_n dX9_ask_54 rfl k) ?_
        obtain ⟨x36, e_x36, hb37⟩ := ob2 hb35
        refine Sx.o (fun _ _ _ k => op_iald dX9_ask_55 e_x36 k) ?_
        refine Sx.o (fun _ _ _ k => ex_goto 61 dX9_ask_56 (by decide) k) ?_
        obtain rfl := Option.some.inj hb37
        exact Sx.r (fun _ _ _ k => ex_iret rfl dX9_ask_61 k)
set_option maxHeartbeats 1000000 in
set_option maxRecDepth 100000 in
theorem Text_ask_74_t {g : (Nat × Int32 × Int32 × Int32 × Int32 × Int32 × Nat × Nat × Nat × am_H) → Option (Int32 × am_H)} (hg : ∀ s r, g s = some r → Text_ask_9_P s r) {v0 : Nat} {v2 : Nat} {v3 : Int32} {v4 : Int32} {v5 : Int32} {v6 : Int32} {h : am_H} {r : (Int32 × am_H)} (hb : Text_ask_74_b g v0 v2 v3 v4 v5 v6 h = some r) : Sx 1 mX9_ask 74 [.ref v0, .retAddr 0, .ref v2, .int v3, .int v4, .int v5, .int v6, .retAddr 0, .retAddr 0] [] h (some (.int r.1)) r.2 := by
  unfold Text_ask_74_b at hb
  refine Sx.o (fun _ _ _ k => ex_iload_n dX9_ask_74 rfl k) ?_
  refine Sx.o (fun _ _ _ k => op_iconst (1 : Int32) dX9_ask_75 (by decide) k) ?_
  refine Sx.o (fun _ _ _ k => ex_iadd dX9_ask_76 k) ?_
  refine Sx.o (fun _ _ _ k => ex_aload_n dX9_ask_77 rfl rfl k) ?_
  obtain ⟨x38, e_x38, hb39⟩ := ob2 hb
  refine Sx.o (fun _ _ _ k => op_getR fX9_29 dX9_ask_78 e_x38 k) ?_
  obtain ⟨x40, e_x40, hb41⟩ := ob2 hb39
  refine Sx.o (fun _ _ _ k => op_alen dX9_ask_81 e_x40 k) ?_
  refine Sx.b (fun _ _ _ k1 k2 => ex_icmp_lt 88 dX9_ask_82 (by decide) k1 k2) (fun q => ?_) (fun q => ?_)
  · have hb42 := ip q hb41
    refine Sx.o (L' := [.ref v0, .retAddr 0, .ref v2, .int (v3 + (1 : Int32)), .int v4, .int v5, .int v6, .retAddr 0, .retAddr 0]) (fun _ _ _ k => op_iinc (1 : Int32) dX9_ask_88 (by decide) rfl (by decide) k) ?_
    refine Sx.o (fun _ _ _ k => ex_iload dX9_ask_91 rfl k) ?_
    refine Sx.o (fun _ _ _ k => op_iconst (2 : Int32) dX9_ask_93 (by decide) k) ?_
    refine Sx.bn (fun _ _ _ k1 k2 => ex_icmp_ne 113 dX9_ask_94 (by decide) k1 k2) (fun q => ?_) (fun q => ?_)
    · have hb44 := iq q hb42
      refine Sx.fg [true, true, true, true, true, false, true, true, true] ?_
      exact (hg _ _ hb44).2.2.1 rfl
    · have hb45 := ip q hb42
      refine Sx.o (fun _ _ _ k => ex_iload dX9_ask_97 rfl k) ?_
      refine Sx.b (fun _ _ _ k1 k2 => ex_if_lt 113 dX9_ask_99 (by decide) k1 k2) (fun q => ?_) (fun q => ?_)
      · have hb46 := ip q hb45
        refine Sx.fg [true, true, true, true, true, false, true, true, true] ?_
        exact (hg _ _ hb46).2.2.1 rfl
      · have hb47 := iq q hb45
        refine Sx.o (fun _ _ _ k => ex_iload dX9_ask_102 rfl k) ?_
        refine Sx.o (fun _ _ _ k => ex_aload_n dX9_ask_104 rfl rfl k) ?_
        obtain ⟨x48, e_x48, hb49⟩ := ob2 hb47
        refine Sx.o (fun _ _ _ k => op_alen dX9_ask_105 e_x48 k) ?_
        refine Sx.b (fun _ _ _ k1 k2 => ex_icmp_ge 113 dX9_ask_106 (by decide) k1 k2) (fun q => ?_) (fun q => ?_)
        · have hb50 := ip q hb49
          refine Sx.fg [true, true, true, true, true, false, true, true, true] ?_
          exact (hg _ _ hb50).2.2.1 rfl
        · have hb51 := iq q hb49
          refine Sx.o (fun _ _ _ k => op_iconst (1 : Int32) dX9_ask_109 (by decide) k) ?_
          refine Sx.o (fun _ _ _ k => ex_goto 114 dX9_ask_110 (by decide) k) ?_
          refine Sx.fg [true, true, true, true, true, false, true, true, true] ?_
          exact (hg _ _ hb51).2.2.2.1 rfl
  · have hb43 := iq q hb41
    refine Sx.o (fun _ _ _ k => ex_ldc dX9_ask_85 qX9_65 k) ?_
    obtain rfl := Option.some.inj hb43
    exact Sx.r (fun _ _ _ k => ex_iret rfl dX9_ask_87 k)
set_option maxHeartbeats 1000000 in
set_option maxRecDepth 100000 in
theorem Text_ask_113_t {g : (Nat × Int32 × Int32 × Int32 × Int32 × Int32 × Nat × Nat × Nat × am_H) → Option (Int32 × am_H)} (hg : ∀ s r, g s = some r → Text_ask_9_P s r) {v0 : Nat} {v2 : Nat} {v3 : Int32} {v4 : Int32} {v6 : Int32} {h : am_H} {r : (Int32 × am_H)} (hb : Text_ask_113_b g v0 v2 v3 v4 v6 h = some r) : Sx 1 mX9_ask 113 [.ref v0, .retAddr 0, .ref v2, .int v3, .int v4, .retAddr 0, .int v6, .retAddr 0, .retAddr 0] [] h (some (.int r.1)) r.2 := by
  unfold Text_ask_113_b at hb
  refine Sx.o (fun _ _ _ k => op_iconst (0 : Int32) dX9_ask_113 (by decide) k) ?_
  exact (hg _ _ hb).2.2.2.1 rfl
set_option maxHeartbeats 1000000 in
set_option maxRecDepth 100000 in
theorem Text_ask_114_t {g : (Nat × Int32 × Int32 × Int32 × Int32 × Int32 × Nat × Nat × Nat × am_H) → Option (Int32 × am_H)} (hg : ∀ s r, g s = some r → Text_ask_9_P s r) {v0 : Nat} {v2 : Nat} {v3 : Int32} {v4 : Int32} {v6 : Int32} {s0 : Int32} {h : am_H} {r : (Int32 × am_H)} (hb : Text_ask_114_b g v0 v2 v3 v4 v6 s0 h = some r) : Sx 1 mX9_ask 114 [.ref v0, .retAddr 0, .ref v2, .int v3, .int v4, .retAddr 0, .int v6, .retAddr 0, .retAddr 0] [.int s0] h (some (.int r.1)) r.2 := by
  unfold Text_ask_114_b at hb
  refine Sx.o (L' := [.ref v0, .retAddr 0, .ref v2, .int v3, .int v4, .retAddr 0, .int v6, .int s0, .retAddr 0]) (fun _ _ _ k => ex_istore dX9_ask_114 (by decide) k) ?_
  refine Sx.o (fun _ _ _ k => ex_aload_n dX9_ask_116 rfl rfl k) ?_
  obtain ⟨x52, e_x52, hb53⟩ := ob2 hb
  refine Sx.o (fun _ _ _ k => op_getR fX9_29 dX9_ask_117 e_x52 k) ?_
  refine Sx.o (fun _ _ _ k => ex_iload_n dX9_ask_120 rfl k) ?_
  refine Sx.o (fun _ _ _ k => ex_iload dX9_ask_121 rfl k) ?_
  refine Sx.b (fun _ _ _ k1 k2 => ex_if_eq 133 dX9_ask_123 (by decide) k1 k2) (fun q => ?_) (fun q => ?_)
  · have hb54 := ip q hb53
    refine Sx.o (fun _ _ _ k => ex_iload dX9_ask_133 rfl k) ?_
    refine Sx.fg [true, true, true, true, true, true, false, false, true] ?_
    exact (hg _ _ hb54).2.2.2.2.1 rfl
  · have hb55 := iq q hb53
    refine Sx.o (fun _ _ _ k => ex_aload_n dX9_ask_126 rfl rfl k) ?_
    refine Sx.o (fun _ _ _ k => ex_iload dX9_ask_127 rfl k) ?_
    obtain ⟨x56, e_x56, hb57⟩ := ob2 hb55
    refine Sx.o (fun _ _ _ k => op_iald dX9_ask_129 e_x56 k) ?_
    refine Sx.o (fun _ _ _ k => ex_goto 135 dX9_ask_130 (by decide) k) ?_
    refine Sx.fg [true, true, true, true, true, true, false, false, true] ?_
    exact (hg _ _ hb57).2.2.2.2.1 rfl
set_option maxHeartbeats 1000000 in
set_option maxRecDepth 100000 in
theorem Text_ask_135_t {g : (Nat × Int32 × Int32 × Int32 × Int32 × Int32 × Nat × Nat × Nat × am_H) → Option (Int32 × am_H)} (hg : ∀ s r, g s = some r → Text_ask_9_P s r) {v0 : Nat} {v2 : Nat} {v3 : Int32} {v4 : Int32} {s0 : Int32} {s1 : Int32} {s2 : Nat} {h : am_H} {r : (Int32 × am_H)} (hb : Text_ask_135_b g v0 v2 v3 v4 s0 s1 s2 h = some r) : Sx 1 mX9_ask 135 [.ref v0, .retAddr 0, .ref v2, .int v3, .int v4, .retAddr 0, .retAddr 0, .retAddr 0, .retAddr 0] [.int s0, .int s1, .ref s2] h (some (.int r.1)) r.2 := by
  unfold Text_ask_135_b at hb
  obtain ⟨h58, e_h58, hb59⟩ := ob2 hb
  refine Sx.p (sI_q e_h58) (fun _ _ _ k => op_iast dX9_ask_135 e_h58 k) ?_
  refine Sx.o (fun _ _ _ k => ex_goto 293 dX9_ask_136 (by decide) k) ?_
  exact (hg _ _ hb59).2.2.2.2.2.2.2.2.2.1 rfl
set_option maxHeartbeats 1000000 in
set_option maxRecDepth 100000 in
theorem Text_ask_167_t {g : (Nat × Int32 × Int32 × Int32 × Int32 × Int32 × Nat × Nat × Nat × am_H) → Option (Int32 × am_H)} (hg : ∀ s r, g s = some r → Text_ask_9_P s r) {v0 : Nat} {v2 : Nat} {v3 : Int32} {v4 : Int32} {v5 : Int32} {v6 : Int32} {h : am_H} {r : (Int32 × am_H)} (hb : Text_ask_167_b g v0 v2 v3 v4 v5 v6 h = some r) : Sx 1 mX9_ask 167 [.ref v0, .retAddr 0, .ref v2, .int v3, .int v4, .int v5, .int v6, .retAddr 0, .retAddr 0] [] h (some (.int r.1)) r.2 := by
  unfold Text_ask_167_b at hb
  refine Sx.o (fun _ _ _ k => ex_iload dX9_ask_167 rfl k) ?_
  refine Sx.o (fun _ _ _ k => op_bipush (12 : Int32) dX9_ask_169 (by decide) k) ?_
  refine Sx.b (fun _ _ _ k1 k2 => ex_icmp_eq 181 dX9_ask_171 (by decide) k1 k2) (fun q => ?_) (fun q => ?_)
  · have hb61 := ip q hb
    exact (hg _ _ hb61).2.2.2.2.2.2.1 rfl
  · have hb62 := iq q hb
    refine Sx.o (fun _ _ _ k => ex_iload dX9_ask_174 rfl k) ?_
    refine Sx.o (fun _ _ _ k => op_bipush (13 : Int32) dX9_ask_176 (by decide) k) ?_
    refine Sx.bn (fun _ _ _ k1 k2 => ex_icmp_ne 226 dX9_ask_178 (by decide) k1 k2) (fun q => ?_) (fun q => ?_)
    · have hb63 := iq q hb62
      refine Sx.fg [true, true, true, true, true, true, false, true, true] ?_
      exact (hg _ _ hb63).2.2.2.2.2.2.2.2.1 rfl
    · have hb64 := ip q hb62
      exact (hg _ _ hb64).2.2.2.2.2.2.1 rfl
set_option maxHeartbeats 1000000 in
set_option maxRecDepth 100000 in
theorem Text_ask_181_t {g : (Nat × Int32 × Int32 × Int32 × Int32 × Int32 × Nat × Nat × Nat × am_H) → Option (Int32 × am_H)} (hg : ∀ s r, g s = some r → Text_ask_9_P s r) {v0 : Nat} {v2 : Nat} {v3 : Int32} {v4 : Int32} {v5 : Int32} {v6 : Int32} {h : am_H} {r : (Int32 × am_H)} (hb : Text_ask_181_b g v0 v2 v3 v4 v5 v6 h = some r) : Sx 1 mX9_ask 181 [.ref v0, .retAddr 0, .ref v2, .int v3, .int v4, .int v5, .int v6, .retAddr 0, .retAddr 0] [] h (some (.int r.1)) r.2 := by
  unfold Text_ask_181_b at hb
  refine Sx.o (fun _ _ _ k => ex_iload_n dX9_ask_181 rfl k) ?_
  refine Sx.b (fun _ _ _ k1 k2 => ex_if_lt 226 dX9_ask_182 (by decide) k1 k2) (fun q => ?_) (fun q => ?_)
  · have hb65 := ip q hb
    refine Sx.fg [true, true, true, true, true, true, false, true, true] ?_
    exact (hg _ _ hb65).2.2.2.2.2.2.2.2.1 rfl
  · have hb66 := iq q hb
    refine Sx.o (fun _ _ _ k => ex_aload_n dX9_ask_185 rfl rfl k) ?_
    obtain ⟨x67, e_x67, hb68⟩ := ob2 hb66
    refine Sx.o (fun _ _ _ k => op_getR fX9_29 dX9_ask_186 e_x67 k) ?_
    refine Sx.o (fun _ _ _ k => ex_iload_n dX9_ask_189 rfl k) ?_
    obtain ⟨x69, e_x69, hb70⟩ := ob2 hb68
    refine Sx.o (fun _ _ _ k => op_iald dX9_ask_190 e_x69 k) ?_
    refine Sx.o (fun _ _ _ k => ex_iload dX9_ask_191 rfl k) ?_
    refine Sx.o (fun _ _ _ k => op_bipush (12 : Int32) dX9_ask_193 (by decide) k) ?_
    refine Sx.bn (fun _ _ _ k1 k2 => ex_icmp_ne 202 dX9_ask_195 (by decide) k1 k2) (fun q => ?_) (fun q => ?_)
    · have hb71 := iq q hb70
      refine Sx.o (fun _ _ _ k => op_iconst (0 : Int32) dX9_ask_202 (by decide) k) ?_
      refine Sx.fg [true, true, true, true, true, false, true, true, true] ?_
      exact (hg _ _ hb71).2.2.2.2.2.2.2.1 rfl
    · have hb72 := ip q hb70
      refine Sx.o (fun _ _ _ k => op_iconst (1 : Int32) dX9_ask_198 (by decide) k) ?_
      refine Sx.o (fun _ _ _ k => ex_goto 203 dX9_ask_199 (by decide) k) ?_
      refine Sx.fg [true, true, true, true, true, false, true, true, true] ?_
      exact (hg _ _ hb72).2.2.2.2.2.2.2.1 rfl
set_option maxHeartbeats 1000000 in
set_option maxRecDepth 100000 in
theorem Text_ask_203_t {g : (Nat × Int32 × Int32 × Int32 × Int32 × Int32 × Nat × Nat × Nat × am_H) → Option (Int32 × am_H)} (hg : ∀ s r, g s = some r → Text_ask_9_P s r) {v0 : Nat} {v2 : Nat} {v3 : Int32} {v4 : Int32} {v6 : Int32} {s0 : Int32} {s1 : Int32} {h : am_H} {r : (Int32 × am_H)} (hb : Text_ask_203_b g v0 v2 v3 v4 v6 s0 s1 h = some r) : Sx 1 mX9_ask 203 [.ref v0, .retAddr 0, .ref v2, .int v3, .int v4, .retAddr 0, .int v6, .retAddr 0, .retAddr 0] [.int s0, .int s1] h (some (.int r.1)) r.2 := by
  unfold Text_ask_203_b at hb
  refine Sx.bn (fun _ _ _ k1 k2 => ex_icmp_ne 220 dX9_ask_203 (by decide) k1 k2) (fun q => ?_) (fun q => ?_)
  · have hb73 := iq q hb
    refine Sx.o (L' := [.ref v0, .retAddr 0, .ref v2, .int (v3 + (-1 : Int32)), .int v4, .retAddr 0, .int v6, .retAddr 0, .retAddr 0]) (fun _ _ _ k => op_iinc (-1 : Int32) dX9_ask_220 (by decide) rfl (by decide) k) ?_
    refine Sx.o (fun _ _ _ k => ex_goto 293 dX9_ask_223 (by decide) k) ?_
    refine Sx.fg [true, true, true, true, true, true, false, true, true] ?_
    exact (hg _ _ hb73).2.2.2.2.2.2.2.2.2.1 rfl
  · have hb74 := ip q hb
    refine Sx.o (fun _ _ _ k => ex_iload dX9_ask_206 rfl k) ?_
    refine Sx.o (fun _ _ _ k => ex_iload dX9_ask_208 rfl k) ?_
    refine Sx.o (fun _ _ _ k => op_iconst (1 : Int32) dX9_ask_210 (by decide) k) ?_
    refine Sx.o (fun _ _ _ k => ex_isub dX9_ask_211 k) ?_
    refine Sx.o (fun _ _ _ k => op_mmax (by omega) dX9_ask_212 kX9_42 (Nat.le_of_ble_eq_true rfl) k) ?_
    refine Sx.o (L' := [.ref v0, .retAddr 0, .ref v2, .int v3, .int (if v4 < v6 - (1 : Int32) then v6 - (1 : Int32) else v4), .retAddr 0, .int v6, .retAddr 0, .retAddr 0]) (fun _ _ _ k => ex_istore dX9_ask_215 (by decide) k) ?_
    refine Sx.o (fun _ _ _ k => ex_goto 293 dX9_ask_217 (by decide) k) ?_
    refine Sx.fg [true, true, true, true, true, true, false, true, true] ?_
    exact (hg _ _ hb74).2.2.2.2.2.2.2.2.2.1 rfl
set_option maxHeartbeats 1000000 in
set_option maxRecDepth 100000 in
theorem Text_ask_226_t {g : (Nat × Int32 × Int32 × Int32 × Int32 × Int32 × Nat × Nat × Nat × am_H) → Option (Int32 × am_H)} (hg : ∀ s r, g s = some r → Text_ask_9_P s r) {v0 : Nat} {v2 : Nat} {v3 : Int32} {v4 : Int32} {v5 : Int32} {h : am_H} {r : (Int32 × am_H)} (hb : Text_ask_226_b g v0 v2 v3 v4 v5 h = some r) : Sx 1 mX9_ask 226 [.ref v0, .retAddr 0, .ref v2, .int v3, .int v4, .int v5, .retAddr 0, .retAddr 0, .retAddr 0] [] h (some (.int r.1)) r.2 := by
  unfold Text_ask_226_b at hb
  refine Sx.o (fun _ _ _ k => ex_iload_n dX9_ask_226 rfl k) ?_
  refine Sx.o (fun _ _ _ k => op_iconst (1 : Int32) dX9_ask_227 (by decide) k) ?_
  refine Sx.b (fun _ _ _ k1 k2 => ex_icmp_lt 290 dX9_ask_228 (by decide) k1 k2) (fun q => ?_) (fun q => ?_)
  · have hb75 := ip q hb
    refine Sx.o (fun _ _ _ k => ex_ldc dX9_ask_290 qX9_65 k) ?_
    obtain rfl := Option.some.inj hb75
    exact Sx.r (fun _ _ _ k => ex_iret rfl dX9_ask_292 k)
  · have hb76 := iq q hb
    refine Sx.o (L' := [.ref v0, .retAddr 0, .ref v2, .int (v3 + (-1 : Int32)), .int v4, .int v5, .retAddr 0, .retAddr 0, .retAddr 0]) (fun _ _ _ k => op_iinc (-1 : Int32) dX9_ask_231 (by decide) rfl (by decide) k) ?_
    refine Sx.o (fun _ _ _ k => ex_iload dX9_ask_234 rfl k) ?_
    refine Sx.o (fun _ _ _ k => ex_aload_n dX9_ask_236 rfl rfl k) ?_
    obtain ⟨x77, e_x77, hb78⟩ := ob2 hb76
    refine Sx.o (fun _ _ _ k => op_getR fX9_29 dX9_ask_237 e_x77 k) ?_
    refine Sx.o (fun _ _ _ k => ex_iload_n dX9_ask_240 rfl k) ?_
    obtain ⟨x79, e_x79, hb80⟩ := ob2 hb78
    refine Sx.o (fun _ _ _ k => op_iald dX9_ask_241 e_x79 k) ?_
    refine Sx.o (fun _ _ _ k => ex_i2l dX9_ask_242 k) ?_
    refine Sx.o (fun _ _ _ k => ex_aload_n dX9_ask_243 rfl rfl k) ?_
    obtain ⟨x81, e_x81, hb82⟩ := ob2 hb80
    refine Sx.o (fun _ _ _ k => op_getR fX9_29 dX9_ask_244 e_x81 k) ?_
    refine Sx.o (fun _ _ _ k => ex_iload_n dX9_ask_247 rfl k) ?_
    refine Sx.o (fun _ _ _ k => op_iconst (1 : Int32) dX9_ask_248 (by decide) k) ?_
    refine Sx.o (fun _ _ _ k => ex_iadd dX9_ask_249 k) ?_
    obtain ⟨x83, e_x83, hb84⟩ := ob2 hb82
    refine Sx.o (fun _ _ _ k => op_iald dX9_ask_250 e_x83 k) ?_
    refine Sx.o (fun _ _ _ k => ex_i2l dX9_ask_251 k) ?_
    obtain ⟨x85, e_x85, hb86⟩ := ob2 hb84
    refine sx_callS (dc := 0) (as := [.int v5, .long (Int32.toInt64 x79), .long (Int32.toInt64 x83)]) (stq := [.long x85]) (by omega) dX9_ask_252 MX9_join kX9_66 tX9_join rfl rfl (Nat.le_of_ble_eq_true rfl) (Nat.le_of_ble_eq_true rfl) (Text_join_s e_x85) rfl ?_
    refine Sx.o (L' := [.ref v0, .retAddr 0, .ref v2, .int (v3 + (-1 : Int32)), .int v4, .int v5, .retAddr 0, .long x85, .retAddr 0]) (fun _ _ _ k => ex_lstore dX9_ask_255 (by decide) k) ?_
    refine Sx.o (fun _ _ _ k => ex_lload dX9_ask_257 rfl k) ?_
    refine Sx.o (fun _ _ _ k => ex_ldc2 dX9_ask_259 qX9_70 k) ?_
    refine Sx.o (fun _ _ _ k => ex_lcmp dX9_ask_262 k) ?_
    refine Sx.b (fun _ _ _ k1 k2 => ex_if_lt 275 dX9_ask_263 (by decide) k1 k2) (fun q => ?_) (fun q => ?_)
    · have hb87 := ip q hb86
      refine Sx.o (fun _ _ _ k => ex_ldc dX9_ask_275 qX9_65 k) ?_
      obtain rfl := Option.some.inj hb87
      exact Sx.r (fun _ _ _ k => ex_iret rfl dX9_ask_277 k)
    · have hb88 := iq q hb86
      refine Sx.o (fun _ _ _ k => ex_lload dX9_ask_266 rfl k) ?_
      refine Sx.o (fun _ _ _ k => ex_ldc2 dX9_ask_268 qX9_72 k) ?_
      refine Sx.o (fun _ _ _ k => ex_lcmp dX9_ask_271 k) ?_
      refine Sx.b (fun _ _ _ k1 k2 => ex_if_le 278 dX9_ask_272 (by decide) k1 k2) (fun q => ?_) (fun q => ?_)
      · have hb89 := ip q hb88
        refine Sx.o (fun _ _ _ k => ex_aload_n dX9_ask_278 rfl rfl k) ?_
        obtain ⟨x91, e_x91, hb92⟩ := ob2 hb89
        refine Sx.o (fun _ _ _ k => op_getR fX9_29 dX9_ask_279 e_x91 k) ?_
        refine Sx.o (fun _ _ _ k => ex_iload_n dX9_ask_282 rfl k) ?_
        refine Sx.o (fun _ _ _ k => ex_lload dX9_ask_283 rfl k) ?_
        refine Sx.o (fun _ _ _ k => ex_l2i dX9_ask_285 k) ?_
        obtain ⟨h93, e_h93, hb94⟩ := ob2 hb92
        refine Sx.p (sI_q e_h93) (fun _ _ _ k => op_iast dX9_ask_286 e_h93 k) ?_
        refine Sx.o (fun _ _ _ k => ex_goto 293 dX9_ask_287 (by decide) k) ?_
        refine Sx.fg [true, true, true, true, true, false, true, false, true] ?_
        exact (hg _ _ hb94).2.2.2.2.2.2.2.2.2.1 rfl
      · have hb90 := iq q hb88
        refine Sx.o (fun _ _ _ k => ex_ldc dX9_ask_275 qX9_65 k) ?_
        obtain rfl := Option.some.inj hb90
        exact Sx.r (fun _ _ _ k => ex_iret rfl dX9_ask_277 k)
set_option maxHeartbeats 1000000 in
set_option maxRecDepth 100000 in
theorem Text_ask_293_t {g : (Nat × Int32 × Int32 × Int32 × Int32 × Int32 × Nat × Nat × Nat × am_H) → Option (Int32 × am_H)} (hg : ∀ s r, g s = some r → Text_ask_9_P s r) {v0 : Nat} {v2 : Nat} {v3 : Int32} {v4 : Int32} {h : am_H} {r : (Int32 × am_H)} (hb : Text_ask_293_b g v0 v2 v3 v4 h = some r) : Sx 1 mX9_ask 293 [.ref v0, .retAddr 0, .ref v2, .int v3, .int v4, .retAddr 0, .retAddr 0, .retAddr 0, .retAddr 0] [] h (some (.int r.1)) r.2 := by
  unfold Text_ask_293_b at hb
  refine Sx.o (L' := [.ref v0, .retAddr 0, .ref v2, .int v3, .int (v4 + (1 : Int32)), .retAddr 0, .retAddr 0, .retAddr 0, .retAddr 0]) (fun _ _ _ k => op_iinc (1 : Int32) dX9_ask_293 (by decide) rfl (by decide) k) ?_
  refine Sx.o (fun _ _ _ k => ex_goto 9 dX9_ask_296 (by decide) k) ?_
  exact (hg _ _ hb).1 rfl
theorem Text_ask_9_T : ∀ s r, fx Text_ask_9_F Text_ask_9_M s = some r → Text_ask_9_P s r := fx_ind Text_ask_9_M Text_ask_9_P (fun g hg s r hb => by
  unfold Text_ask_9_F at hb
  exact ⟨fun q => Text_ask_9_t hg (ip q hb), fun q => Text_ask_74_t hg (ip q (iq (by rw [q]; decide) hb)), fun q => Text_ask_113_t hg (ip q (iq (by rw [q]; decide) (iq (by rw [q]; decide) hb))), fun q => Text_ask_114_t hg (ip q (iq (by rw [q]; decide) (iq (by rw [q]; decide) (iq (by rw [q]; decide) hb)))), fun q => Text_ask_135_t hg (ip q (iq (by rw [q]; decide) (iq (by rw [q]; decide) (iq (by rw [q]; decide) (iq (by rw [q]; decide) hb))))), fun q => Text_ask_167_t hg (ip q (iq (by rw [q]; decide) (iq (by rw [q]; decide) (iq (by rw [q]; decide) (iq (by rw [q]; decide) (iq (by rw [q]; decide) hb)))))), fun q => Text_ask_181_t hg (ip q (iq (by rw [q]; decide) (iq (by rw [q]; decide) (iq (by rw [q]; decide) (iq (by rw [q]; decide) (iq (by rw [q]; decide) (iq (by rw [q]; decide) hb))))))), fun q => Text_ask_203_t hg (ip q (iq (by rw [q]; decide) (iq (by rw [q]; decide) (iq (by rw [q]; decide) (iq (by rw [q]; decide) (iq (by rw [q]; decide) (iq (by rw [q]; decide) (iq (by rw [q]; decide) hb)))))))), fun q => Text_ask_226_t hg (ip q (iq (by rw [q]; decide) (iq (by rw [q]; decide) (iq (by rw [q]; decide) (iq (by rw [q]; decide) (iq (by rw [q]; decide) (iq (by rw [q]; decide) (iq (by rw [q]; decide) (iq (by rw [q]; decide) hb))))))))), fun q => Text_ask_293_t hg (ip q (iq (by rw [q]; decide) (iq (by rw [q]; decide) (iq (by rw [q]; decide) (iq (by rw [q]; decide) (iq (by rw [q]; decide) (iq (by rw [q]; decide) (iq (by rw [q]; decide) (iq (by rw [q]; decide) (iq (by rw [q]; decide) hb)))))))))), trivial⟩)
set_option maxHeartbeats 1000000 in
set_option maxRecDepth 100000 in
theorem Text_ask_9_r {g : (Nat × Int32 × Int32 × Int32 × Int32 × Int32 × Nat × Nat × Nat × am_H) → Option (Int32 × am_H)} (hg : ∀ s r, g s = some r → Eqs s.2.2.2.2.2.2.2.2.2 r.2) {v0 : Nat} {v2 : Nat} {v3 : Int32} {v4 : Int32} {h : am_H} {r : (Int32 × am_H)} (hb : Text_ask_9_b g v0 v2 v3 v4 h = some r) : Eqs h r.2 := by
  unfold Text_ask_9_b at hb
  have w0 := Eqs.rf h
  obtain ⟨x1, e_x1, hb2⟩ := ob2 hb
  by_cases q : x1 ≤ v4
  · have hb3 := ip q hb2
    obtain rfl := Option.some.inj hb3
    exact w0
  · have hb4 := iq q hb2
    obtain ⟨x5, e_x5, hb6⟩ := ob2 hb4
    obtain ⟨x7, e_x7, hb8⟩ := ob2 hb6
    obtain ⟨x9, e_x9, hb10⟩ := ob2 hb8
    obtain ⟨x11, e_x11, hb12⟩ := ob2 hb10
    by_cases q : (x7 &&& (15 : Int32)) = (0 : Int32)
    · have hb14 := ip q hb12
      by_cases q : v3 < (0 : Int32)
      · have hb32 := ip q hb14
        obtain rfl := Option.some.inj hb32
        exact w0
      · have hb33 := iq q hb14
        obtain ⟨x34, e_x34, hb35⟩ := ob2 hb33
        obtain ⟨x36, e_x36, hb37⟩ := ob2 hb35
        obtain rfl := Option.some.inj hb37
        exact w0
    · have hb13 := iq q hb12
      by_cases q : (x7 &&& (15 : Int32)) = (1 : Int32)
      · have hb15 := ip q hb13
        exact w0.tr (hg _ _ hb15)
      · have hb16 := iq q hb13
        by_cases q : (x7 &&& (15 : Int32)) = (2 : Int32)
        · have hb18 := ip q hb16
          exact w0.tr (hg _ _ hb18)
        · have hb17 := iq q hb16
          by_cases q : (x7 &&& (15 : Int32)) = (11 : Int32)
          · have hb20 := ip q hb17
            by_cases q : v3 < (0 : Int32)
            · have hb21 := ip q hb20
              exact w0.tr (hg _ _ hb21)
            · have hb22 := iq q hb20
              obtain ⟨x23, e_x23, hb24⟩ := ob2 hb22
              obtain ⟨x25, e_x25, hb26⟩ := ob2 hb24
              obtain ⟨x27, e_x27, hb28⟩ := ob2 hb26
              obtain ⟨h29, e_h29, hb30⟩ := ob2 hb28
              have w31 := w0.tr (sI_q e_h29)
              exact w31.tr (hg _ _ hb30)
          · have hb19 := iq q hb17
            exact w0.tr (hg _ _ hb19)
set_option maxHeartbeats 1000000 in
set_option maxRecDepth 100000 in
theorem Text_ask_74_r {g : (Nat × Int32 × Int32 × Int32 × Int32 × Int32 × Nat × Nat × Nat × am_H) → Option (Int32 × am_H)} (hg : ∀ s r, g s = some r → Eqs s.2.2.2.2.2.2.2.2.2 r.2) {v0 : Nat} {v2 : Nat} {v3 : Int32} {v4 : Int32} {v5 : Int32} {v6 : Int32} {h : am_H} {r : (Int32 × am_H)} (hb : Text_ask_74_b g v0 v2 v3 v4 v5 v6 h = some r) : Eqs h r.2 := by
  unfold Text_ask_74_b at hb
  have w0 := Eqs.rf h
  obtain ⟨x38, e_x38, hb39⟩ := ob2 hb
  obtain ⟨x40, e_x40, hb41⟩ := ob2 hb39
  by_cases q : (v3 + (1 : Int32)) < x40
  · have hb42 := ip q hb41
    by_cases q : v5 = (2 : Int32)
    · have hb45 := ip q hb42
      by_cases q : v6 < (0 : Int32)
      · have hb46 := ip q hb45
        exact w0.tr (hg _ _ hb46)
      · have hb47 := iq q hb45
        obtain ⟨x48, e_x48, hb49⟩ := ob2 hb47
        by_cases q : x48 ≤ v6
        · have hb50 := ip q hb49
          exact w0.tr (hg _ _ hb50)
        · have hb51 := iq q hb49
          exact w0.tr (hg _ _ hb51)
    · have hb44 := iq q hb42
      exact w0.tr (hg _ _ hb44)
  · have hb43 := iq q hb41
    obtain rfl := Option.some.inj hb43
    exact w0
set_option maxHeartbeats 1000000 in
set_option maxRecDepth 100000 in
theorem Text_ask_113_r {g : (Nat × Int32 × Int32 × Int32 × Int32 × Int32 × Nat × Nat × Nat × am_H) → Option (Int32 × am_H)} (hg : ∀ s r, g s = some r → Eqs s.2.2.2.2.2.2.2.2.2 r.2) {v0 : Nat} {v2 : Nat} {v3 : Int32} {v4 : Int32} {v6 : Int32} {h : am_H} {r : (Int32 × am_H)} (hb : Text_ask_113_b g v0 v2 v3 v4 v6 h = some r) : Eqs h r.2 := by
  unfold Text_ask_113_b at hb
  have w0 := Eqs.rf h
  exact w0.tr (hg _ _ hb)
set_option maxHeartbeats 1000000 in
set_option maxRecDepth 100000 in
theorem Text_ask_114_r {g : (Nat × Int32 × Int32 × Int32 × Int32 × Int32 × Nat × Nat × Nat × am_H) → Option (Int32 × am_H)} (hg : ∀ s r, g s = some r → Eqs s.2.2.2.2.2.2.2.2.2 r.2) {v0 : Nat} {v2 : Nat} {v3 : Int32} {v4 : Int32} {v6 : Int32} {s0 : Int32} {h : am_H} {r : (Int32 × am_H)} (hb : Text_ask_114_b g v0 v2 v3 v4 v6 s0 h = some r) : Eqs h r.2 := by
  unfold Text_ask_114_b at hb
  have w0 := Eqs.rf h
  obtain ⟨x52, e_x52, hb53⟩ := ob2 hb
  by_cases q : s0 = (0 : Int32)
  · have hb54 := ip q hb53
    exact w0.tr (hg _ _ hb54)
  · have hb55 := iq q hb53
    obtain ⟨x56, e_x56, hb57⟩ := ob2 hb55
    exact w0.tr (hg _ _ hb57)
set_option maxHeartbeats 1000000 in
set_option maxRecDepth 100000 in
theorem Text_ask_135_r {g : (Nat × Int32 × Int32 × Int32 × Int32 × Int32 × Nat × Nat × Nat × am_H) → Option (Int32 × am_H)} (hg : ∀ s r, g s = some r → Eqs s.2.2.2.2.2.2.2.2.2 r.2) {v0 : Nat} {v2 : Nat} {v3 : Int32} {v4 : Int32} {s0 : Int32} {s1 : Int32} {s2 : Nat} {h : am_H} {r : (Int32 × am_H)} (hb : Text_ask_135_b g v0 v2 v3 v4 s0 s1 s2 h = some r) : Eqs h r.2 := by
  unfold Text_ask_135_b at hb
  have w0 := Eqs.rf h
  obtain ⟨h58, e_h58, hb59⟩ := ob2 hb
  have w60 := w0.tr (sI_q e_h58)
  exact w60.tr (hg _ _ hb59)
set_option maxHeartbeats 1000000 in
set_option maxRecDepth 100000 in
theorem Text_ask_167_r {g : (Nat × Int32 × Int32 × Int32 × Int32 × Int32 × Nat × Nat × Nat × am_H) → Option (Int32 × am_H)} (hg : ∀ s r, g s = some r → Eqs s.2.2.2.2.2.2.2.2.2 r.2) {v0 : Nat} {v2 : Nat} {v3 : Int32} {v4 : Int32} {v5 : Int32} {v6 : Int32} {h : am_H} {r : (Int32 × am_H)} (hb : Text_ask_167_b g v0 v2 v3 v4 v5 v6 h = some r) : Eqs h r.2 := by
  unfold Text_ask_167_b at hb
  have w0 := Eqs.rf h
  by_cases q : v5 = (12 : Int32)
  · have hb61 := ip q hb
    exact w0.tr (hg _ _ hb61)
  · have hb62 := iq q hb
    by_cases q : v5 = (13 : Int32)
    · have hb64 := ip q hb62
      exact w0.tr (hg _ _ hb64)
    · have hb63 := iq q hb62
      exact w0.tr (hg _ _ hb63)
set_option maxHeartbeats 1000000 in
set_option maxRecDepth 100000 in
theorem Text_ask_181_r {g : (Nat × Int32 × Int32 × Int32 × Int32 × Int32 × Nat × Nat × Nat × am_H) → Option (Int32 × am_H)} (hg : ∀ s r, g s = some r → Eqs s.2.2.2.2.2.2.2.2.2 r.2) {v0 : Nat} {v2 : Nat} {v3 : Int32} {v4 : Int32} {v5 : Int32} {v6 : Int32} {h : am_H} {r : (Int32 × am_H)} (hb : Text_ask_181_b g v0 v2 v3 v4 v5 v6 h = some r) : Eqs h r.2 := by
  unfold Text_ask_181_b at hb
  have w0 := Eqs.rf h
  by_cases q : v3 < (0 : Int32)
  · have hb65 := ip q hb
    exact w0.tr (hg _ _ hb65)
  · have hb66 := iq q hb
    obtain ⟨x67, e_x67, hb68⟩ := ob2 hb66
    obtain ⟨x69, e_x69, hb70⟩ := ob2 hb68
    by_cases q : v5 = (12 : Int32)
    · have hb72 := ip q hb70
      exact w0.tr (hg _ _ hb72)
    · have hb71 := iq q hb70
      exact w0.tr (hg _ _ hb71)
set_option maxHeartbeats 1000000 in
set_option maxRecDepth 100000 in
theorem Text_ask_203_r {g : (Nat × Int32 × Int32 × Int32 × Int32 × Int32 × Nat × Nat × Nat × am_H) → Option (Int32 × am_H)} (hg : ∀ s r, g s = some r → Eqs s.2.2.2.2.2.2.2.2.2 r.2) {v0 : Nat} {v2 : Nat} {v3 : Int32} {v4 : Int32} {v6 : Int32} {s0 : Int32} {s1 : Int32} {h : am_H} {r : (Int32 × am_H)} (hb : Text_ask_203_b g v0 v2 v3 v4 v6 s0 s1 h = some r) : Eqs h r.2 := by
  unfold Text_ask_203_b at hb
  have w0 := Eqs.rf h
  by_cases q : s1 = s0
  · have hb74 := ip q hb
    exact w0.tr (hg _ _ hb74)
  · have hb73 := iq q hb
    exact w0.tr (hg _ _ hb73)
set_option maxHeartbeats 1000000 in
set_option maxRecDepth 100000 in
theorem Text_ask_226_r {g : (Nat × Int32 × Int32 × Int32 × Int32 × Int32 × Nat × Nat × Nat × am_H) → Option (Int32 × am_H)} (hg : ∀ s r, g s = some r → Eqs s.2.2.2.2.2.2.2.2.2 r.2) {v0 : Nat} {v2 : Nat} {v3 : Int32} {v4 : Int32} {v5 : Int32} {h : am_H} {r : (Int32 × am_H)} (hb : Text_ask_226_b g v0 v2 v3 v4 v5 h = some r) : Eqs h r.2 := by
  unfold Text_ask_226_b at hb
  have w0 := Eqs.rf h
  by_cases q : v3 < (1 : Int32)
  · have hb75 := ip q hb
    obtain rfl := Option.some.inj hb75
    exact w0
  · have hb76 := iq q hb
    obtain ⟨x77, e_x77, hb78⟩ := ob2 hb76
    obtain ⟨x79, e_x79, hb80⟩ := ob2 hb78
    obtain ⟨x81, e_x81, hb82⟩ := ob2 hb80
    obtain ⟨x83, e_x83, hb84⟩ := ob2 hb82
    obtain ⟨x85, e_x85, hb86⟩ := ob2 hb84
    by_cases q : (lg_cmp x85 (-1000000000 : Int64)) < (0 : Int32)
    · have hb87 := ip q hb86
      obtain rfl := Option.some.inj hb87
      exact w0
    · have hb88 := iq q hb86
      by_cases q : (lg_cmp x85 (1000000000 : Int64)) ≤ (0 : Int32)
      · have hb89 := ip q hb88
        obtain ⟨x91, e_x91, hb92⟩ := ob2 hb89
        obtain ⟨h93, e_h93, hb94⟩ := ob2 hb92
        have w95 := w0.tr (sI_q e_h93)
        exact w95.tr (hg _ _ hb94)
      · have hb90 := iq q hb88
        obtain rfl := Option.some.inj hb90
        exact w0
set_option maxHeartbeats 1000000 in
set_option maxRecDepth 100000 in
theorem Text_ask_293_r {g : (Nat × Int32 × Int32 × Int32 × Int32 × Int32 × Nat × Nat × Nat × am_H) → Option (Int32 × am_H)} (hg : ∀ s r, g s = some r → Eqs s.2.2.2.2.2.2.2.2.2 r.2) {v0 : Nat} {v2 : Nat} {v3 : Int32} {v4 : Int32} {h : am_H} {r : (Int32 × am_H)} (hb : Text_ask_293_b g v0 v2 v3 v4 h = some r) : Eqs h r.2 := by
  unfold Text_ask_293_b at hb
  have w0 := Eqs.rf h
  exact w0.tr (hg _ _ hb)
theorem Text_ask_9_Q : ∀ s r, fx Text_ask_9_F Text_ask_9_M s = some r → Eqs s.2.2.2.2.2.2.2.2.2 r.2 := fx_ind Text_ask_9_M (fun s r => Eqs s.2.2.2.2.2.2.2.2.2 r.2) (fun g hg s r hb => by
  unfold Text_ask_9_F at hb
  by_cases q0 : s.1 = 9
  · exact Text_ask_9_r hg (ip q0 hb)
  · have hb0 := iq q0 hb
    by_cases q1 : s.1 = 74
    · exact Text_ask_74_r hg (ip q1 hb0)
    · have hb1 := iq q1 hb0
      by_cases q2 : s.1 = 113
      · exact Text_ask_113_r hg (ip q2 hb1)
      · have hb2 := iq q2 hb1
        by_cases q3 : s.1 = 114
        · exact Text_ask_114_r hg (ip q3 hb2)
        · have hb3 := iq q3 hb2
          by_cases q4 : s.1 = 135
          · exact Text_ask_135_r hg (ip q4 hb3)
          · have hb4 := iq q4 hb3
            by_cases q5 : s.1 = 167
            · exact Text_ask_167_r hg (ip q5 hb4)
            · have hb5 := iq q5 hb4
              by_cases q6 : s.1 = 181
              · exact Text_ask_181_r hg (ip q6 hb5)
              · have hb6 := iq q6 hb5
                by_cases q7 : s.1 = 203
                · exact Text_ask_203_r hg (ip q7 hb6)
                · have hb7 := iq q7 hb6
                  by_cases q8 : s.1 = 226
                  · exact Text_ask_226_r hg (ip q8 hb7)
                  · have hb8 := iq q8 hb7
                    by_cases q9 : s.1 = 293
                    · exact Text_ask_293_r hg (ip q9 hb8)
                    · have hb9 := iq q9 hb8
                      exact nomatch hb9)
noncomputable def Text_ask_9 (v0 : Nat) (v2 : Nat) (v3 : Int32) (v4 : Int32) (h : am_H) : Option (Int32 × am_H) := fx Text_ask_9_F Text_ask_9_M (9, v3, v4, 0, 0, 0, v0, v2, 0, h)
noncomputable def Text_ask_74 (v0 : Nat) (v2 : Nat) (v3 : Int32) (v4 : Int32) (v5 : Int32) (v6 : Int32) (h : am_H) : Option (Int32 × am_H) := fx Text_ask_9_F Text_ask_9_M (74, v3, v4, v5, v6, 0, v0, v2, 0, h)
noncomputable def Text_ask_113 (v0 : Nat) (v2 : Nat) (v3 : Int32) (v4 : Int32) (v6 : Int32) (h : am_H) : Option (Int32 × am_H) := fx Text_ask_9_F Text_ask_9_M (113, v3, v4, v6, 0, 0, v0, v2, 0, h)
noncomputable def Text_ask_114 (v0 : Nat) (v2 : Nat) (v3 : Int32) (v4 : Int32) (v6 : Int32) (s0 : Int32) (h : am_H) : Option (Int32 × am_H) := fx Text_ask_9_F Text_ask_9_M (114, v3, v4, v6, s0, 0, v0, v2, 0, h)
noncomputable def Text_ask_135 (v0 : Nat) (v2 : Nat) (v3 : Int32) (v4 : Int32) (s0 : Int32) (s1 : Int32) (s2 : Nat) (h : am_H) : Option (Int32 × am_H) := fx Text_ask_9_F Text_ask_9_M (135, v3, v4, s0, s1, 0, v0, v2, s2, h)
noncomputable def Text_ask_167 (v0 : Nat) (v2 : Nat) (v3 : Int32) (v4 : Int32) (v5 : Int32) (v6 : Int32) (h : am_H) : Option (Int32 × am_H) := fx Text_ask_9_F Text_ask_9_M (167, v3, v4, v5, v6, 0, v0, v2, 0, h)
noncomputable def Text_ask_181 (v0 : Nat) (v2 : Nat) (v3 : Int32) (v4 : Int32) (v5 : Int32) (v6 : Int32) (h : am_H) : Option (Int32 × am_H) := fx Text_ask_9_F Text_ask_9_M (181, v3, v4, v5, v6, 0, v0, v2, 0, h)
noncomputable def Text_ask_203 (v0 : Nat) (v2 : Nat) (v3 : Int32) (v4 : Int32) (v6 : Int32) (s0 : Int32) (s1 : Int32) (h : am_H) : Option (Int32 × am_H) := fx Text_ask_9_F Text_ask_9_M (203, v3, v4, v6, s0, s1, v0, v2, 0, h)
noncomputable def Text_ask_226 (v0 : Nat) (v2 : Nat) (v3 : Int32) (v4 : Int32) (v5 : Int32) (h : am_H) : Option (Int32 × am_H) := fx Text_ask_9_F Text_ask_9_M (226, v3, v4, v5, 0, 0, v0, v2, 0, h)
noncomputable def Text_ask_293 (v0 : Nat) (v2 : Nat) (v3 : Int32) (v4 : Int32) (h : am_H) : Option (Int32 × am_H) := fx Text_ask_9_F Text_ask_9_M (293, v3, v4, 0, 0, 0, v0, v2, 0, h)
set_option maxHeartbeats 1000000 in
set_option maxRecDepth 100000 in
theorem Text_ask_9_e (v0 : Nat) (v2 : Nat) (v3 : Int32) (v4 : Int32) (h : am_H) : Text_ask_9 v0 v2 v3 v4 h = ((gI h 9 v0 1).bind fun x1 => if x1 ≤ v4 then some ((-2147483648 : Int32), h) else (gR h 9 v0 0).bind fun x5 => (aI h 0 x5 v4).bind fun x7 => (gR h 9 v0 0).bind fun x9 => (aI h 0 x9 v4).bind fun x11 => if (x7 &&& (15 : Int32)) = (0 : Int32) then if v3 < (0 : Int32) then some ((-2147483648 : Int32), h) else (gR h 9 v0 7).bind fun x34 => (aI h 0 x34 v3).bind fun x36 => some (x36, h) else if (x7 &&& (15 : Int32)) = (1 : Int32) then Text_ask_74 v0 v2 v3 v4 (x7 &&& (15 : Int32)) (x11 >>> ((4 : Int32) &&& 31)) h else if (x7 &&& (15 : Int32)) = (2 : Int32) then Text_ask_74 v0 v2 v3 v4 (x7 &&& (15 : Int32)) (x11 >>> ((4 : Int32) &&& 31)) h else if (x7 &&& (15 : Int32)) = (11 : Int32) then if v3 < (0 : Int32) then Text_ask_167 v0 v2 v3 v4 (x7 &&& (15 : Int32)) (x11 >>> ((4 : Int32) &&& 31)) h else (gR h 9 v0 7).bind fun x23 => (gR h 9 v0 7).bind fun x25 => (aI h 0 x25 v3).bind fun x27 => (sI h x23 v3 ((1 : Int32) - x27)).bind fun h29 => Text_ask_293 v0 v2 v3 v4 h29 else Text_ask_167 v0 v2 v3 v4 (x7 &&& (15 : Int32)) (x11 >>> ((4 : Int32) &&& 31)) h) := (fx_eq Text_ask_9_M (9, v3, v4, 0, 0, 0, v0, v2, 0, h)).trans (if_pos rfl)
theorem Text_ask_9_q {v0 : Nat} {v2 : Nat} {v3 : Int32} {v4 : Int32} {h : am_H} {r : (Int32 × am_H)} (hb : Text_ask_9 v0 v2 v3 v4 h = some r) : Eqs h r.2 := Text_ask_9_Q _ _ hb
theorem Text_ask_9_s {v0 : Nat} {v2 : Nat} {v3 : Int32} {v4 : Int32} {h : am_H} {r : (Int32 × am_H)} (hb : Text_ask_9 v0 v2 v3 v4 h = some r) : Sx 1 mX9_ask 9 [.ref v0, .retAddr 0, .ref v2, .int v3, .int v4, .retAddr 0, .retAddr 0, .retAddr 0, .retAddr 0] [] h (some (.int r.1)) r.2 := (Text_ask_9_T _ _ hb).1 rfl
set_option maxHeartbeats 1000000 in
set_option maxRecDepth 100000 in
theorem Text_ask_74_e (v0 : Nat) (v2 : Nat) (v3 : Int32) (v4 : Int32) (v5 : Int32) (v6 : Int32) (h : am_H) : Text_ask_74 v0 v2 v3 v4 v5 v6 h = ((gR h 9 v0 7).bind fun x38 => (aL h x38).bind fun x40 => if (v3 + (1 : Int32)) < x40 then if v5 = (2 : Int32) then if v6 < (0 : Int32) then Text_ask_113 v0 v2 (v3 + (1 : Int32)) v4 v6 h else (aL h v2).bind fun x48 => if x48 ≤ v6 then Text_ask_113 v0 v2 (v3 + (1 : Int32)) v4 v6 h else Text_ask_114 v0 v2 (v3 + (1 : Int32)) v4 v6 (1 : Int32) h else Text_ask_113 v0 v2 (v3 + (1 : Int32)) v4 v6 h else some ((-2147483648 : Int32), h)) := (fx_eq Text_ask_9_M (74, v3, v4, v5, v6, 0, v0, v2, 0, h)).trans ((if_neg (show ¬ (74 : Nat) = 9 by decide)).trans (if_pos rfl))
theorem Text_ask_74_q {v0 : Nat} {v2 : Nat} {v3 : Int32} {v4 : Int32} {v5 : Int32} {v6 : Int32} {h : am_H} {r : (Int32 × am_H)} (hb : Text_ask_74 v0 v2 v3 v4 v5 v6 h = some r) : Eqs h r.2 := Text_ask_9_Q _ _ hb
theorem Text_ask_74_s {v0 : Nat} {v2 : Nat} {v3 : Int32} {v4 : Int32} {v5 : Int32} {v6 : Int32} {h : am_H} {r : (Int32 × am_H)} (hb : Text_ask_74 v0 v2 v3 v4 v5 v6 h = some r) : Sx 1 mX9_ask 74 [.ref v0, .retAddr 0, .ref v2, .int v3, .int v4, .int v5, .int v6, .retAddr 0, .retAddr 0] [] h (some (.int r.1)) r.2 := (Text_ask_9_T _ _ hb).2.1 rfl
set_option maxHeartbeats 1000000 in
set_option maxRecDepth 100000 in
theorem Text_ask_113_e (v0 : Nat) (v2 : Nat) (v3 : Int32) (v4 : Int32) (v6 : Int32) (h : am_H) : Text_ask_113 v0 v2 v3 v4 v6 h = (Text_ask_114 v0 v2 v3 v4 v6 (0 : Int32) h) := (fx_eq Text_ask_9_M (113, v3, v4, v6, 0, 0, v0, v2, 0, h)).trans ((if_neg (show ¬ (113 : Nat) = 9 by decide)).trans ((if_neg (show ¬ (113 : Nat) = 74 by decide)).trans (if_pos rfl)))
theorem Text_ask_113_q {v0 : Nat} {v2 : Nat} {v3 : Int32} {v4 : Int32} {v6 : Int32} {h : am_H} {r : (Int32 × am_H)} (hb : Text_ask_113 v0 v2 v3 v4 v6 h = some r) : Eqs h r.2 := Text_ask_9_Q _ _ hb
theorem Text_ask_113_s {v0 : Nat} {v2 : Nat} {v3 : Int32} {v4 : Int32} {v6 : Int32} {h : am_H} {r : (Int32 × am_H)} (hb : Text_ask_113 v0 v2 v3 v4 v6 h = some r) : Sx 1 mX9_ask 113 [.ref v0, .retAddr 0, .ref v2, .int v3, .int v4, .retAddr 0, .int v6, .retAddr 0, .retAddr 0] [] h (some (.int r.1)) r.2 := (Text_ask_9_T _ _ hb).2.2.1 rfl
set_option maxHeartbeats 1000000 in
set_option maxRecDepth 100000 in
theorem Text_ask_114_e (v0 : Nat) (v2 : Nat) (v3 : Int32) (v4 : Int32) (v6 : Int32) (s0 : Int32) (h : am_H) : Text_ask_114 v0 v2 v3 v4 v6 s0 h = ((gR h 9 v0 7).bind fun x52 => if s0 = (0 : Int32) then Text_ask_135 v0 v2 v3 v4 v6 v3 x52 h else (aI h 0 v2 v6).bind fun x56 => Text_ask_135 v0 v2 v3 v4 x56 v3 x52 h) := (fx_eq Text_ask_9_M (114, v3, v4, v6, s0, 0, v0, v2, 0, h)).trans ((if_neg (show ¬ (114 : Nat) = 9 by decide)).trans ((if_neg (show ¬ (114 : Nat) = 74 by decide)).trans ((if_neg (show ¬ (114 : Nat) = 113 by decide)).trans (if_pos rfl))))
theorem Text_ask_114_q {v0 : Nat} {v2 : Nat} {v3 : Int32} {v4 : Int32} {v6 : Int32} {s0 : Int32} {h : am_H} {r : (Int32 × am_H)} (hb : Text_ask_114 v0 v2 v3 v4 v6 s0 h = some r) : Eqs h r.2 := Text_ask_9_Q _ _ hb
theorem Text_ask_114_s {v0 : Nat} {v2 : Nat} {v3 : Int32} {v4 : Int32} {v6 : Int32} {s0 : Int32} {h : am_H} {r : (Int32 × am_H)} (hb : Text_ask_114 v0 v2 v3 v4 v6 s0 h = some r) : Sx 1 mX9_ask 114 [.ref v0, .retAddr 0, .ref v2, .int v3, .int v4, .retAddr 0, .int v6, .retAddr 0, .retAddr 0] [.int s0] h (some (.int r.1)) r.2 := (Text_ask_9_T _ _ hb).2.2.2.1 rfl
set_option maxHeartbeats 1000000 in
set_option maxRecDepth 100000 in
theorem Text_ask_135_e (v0 : Nat) (v2 : Nat) (v3 : Int32) (v4 : Int32) (s0 : Int32) (s1 : Int32) (s2 : Nat) (h : am_H) : Text_ask_135 v0 v2 v3 v4 s0 s1 s2 h = ((sI h s2 s1 s0).bind fun h58 => Text_ask_293 v0 v2 v3 v4 h58) := (fx_eq Text_ask_9_M (135, v3, v4, s0, s1, 0, v0, v2, s2, h)).trans ((if_neg (show ¬ (135 : Nat) = 9 by decide)).trans ((if_neg (show ¬ (135 : Nat) = 74 by decide)).trans ((if_neg (show ¬ (135 : Nat) = 113 by decide)).trans ((if_neg (show ¬ (135 : Nat) = 114 by decide)).trans (if_pos rfl)))))
theorem Text_ask_135_q {v0 : Nat} {v2 : Nat} {v3 : Int32} {v4 : Int32} {s0 : Int32} {s1 : Int32} {s2 : Nat} {h : am_H} {r : (Int32 × am_H)} (hb : Text_ask_135 v0 v2 v3 v4 s0 s1 s2 h = some r) : Eqs h r.2 := Text_ask_9_Q _ _ hb
theorem Text_ask_135_s {v0 : Nat} {v2 : Nat} {v3 : Int32} {v4 : Int32} {s0 : Int32} {s1 : Int32} {s2 : Nat} {h : am_H} {r : (Int32 × am_H)} (hb : Text_ask_135 v0 v2 v3 v4 s0 s1 s2 h = some r) : Sx 1 mX9_ask 135 [.ref v0, .retAddr 0, .ref v2, .int v3, .int v4, .retAddr 0, .retAddr 0, .retAddr 0, .retAddr 0] [.int s0, .int s1, .ref s2] h (some (.int r.1)) r.2 := (Text_ask_9_T _ _ hb).2.2.2.2.1 rfl
set_option maxHeartbeats 1000000 in
set_option maxRecDepth 100000 in
theorem Text_ask_167_e (v0 : Nat) (v2 : Nat) (v3 : Int32) (v4 : Int32) (v5 : Int32) (v6 : Int32) (h : am_H) : Text_ask_167 v0 v2 v3 v4 v5 v6 h = (if v5 = (12 : Int32) then Text_ask_181 v0 v2 v3 v4 v5 v6 h else if v5 = (13 : Int32) then Text_ask_181 v0 v2 v3 v4 v5 v6 h else Text_ask_226 v0 v2 v3 v4 v5 h) := (fx_eq Text_ask_9_M (167, v3, v4, v5, v6, 0, v0, v2, 0, h)).trans ((if_neg (show ¬ (167 : Nat) = 9 by decide)).trans ((if_neg (show ¬ (167 : Nat) = 74 by decide)).trans ((if_neg (show ¬ (167 : Nat) = 113 by decide)).trans ((if_neg (show ¬ (167 : Nat) = 114 by decide)).trans ((if_neg (show ¬ (167 : Nat) = 135 by decide)).trans (if_pos rfl))))))
theorem Text_ask_167_q {v0 : Nat} {v2 : Nat} {v3 : Int32} {v4 : Int32} {v5 : Int32} {v6 : Int32} {h : am_H} {r : (Int32 × am_H)} (hb : Text_ask_167 v0 v2 v3 v4 v5 v6 h = some r) : Eqs h r.2 := Text_ask_9_Q _ _ hb
theorem Text_ask_167_s {v0 : Nat} {v2 : Nat} {v3 : Int32} {v4 : Int32} {v5 : Int32} {v6 : Int32} {h : am_H} {r : (Int32 × am_H)} (hb : Text_ask_167 v0 v2 v3 v4 v5 v6 h = some r) : Sx 1 mX9_ask 167 [.ref v0, .retAddr 0, .ref v2, .int v3, .int v4, .int v5, .int v6, .retAddr 0, .retAddr 0] [] h (some (.int r.1)) r.2 := (Text_ask_9_T _ _ hb).2.2.2.2.2.1 rfl
set_option maxHeartbeats 1000000 in
set_option maxRecDepth 100000 in
theorem Text_ask_181_e (v0 : Nat) (v2 : Nat) (v3 : Int32) (v4 : Int32) (v5 : Int32) (v6 : Int32) (h : am_H) : Text_ask_181 v0 v2 v3 v4 v5 v6 h = (if v3 < (0 : Int32) then Text_ask_226 v0 v2 v3 v4 v5 h else (gR h 9 v0 7).bind fun x67 => (aI h 0 x67 v3).bind fun x69 => if v5 = (12 : Int32) then Text_ask_203 v0 v2 v3 v4 v6 (1 : Int32) x69 h else Text_ask_203 v0 v2 v3 v4 v6 (0 : Int32) x69 h) := (fx_eq Text_ask_9_M (181, v3, v4, v5, v6, 0, v0, v2, 0, h)).trans ((if_neg (show ¬ (181 : Nat) = 9 by decide)).trans ((if_neg (show ¬ (181 : Nat) = 74 by decide)).trans ((if_neg (show ¬ (181 : Nat) = 113 by decide)).trans ((if_neg (show ¬ (181 : Nat) = 114 by decide)).trans ((if_neg (show ¬ (181 : Nat) = 135 by decide)).trans ((if_neg (show ¬ (181 : Nat) = 167 by decide)).trans (if_pos rfl)))))))
theorem Text_ask_181_q {v0 : Nat} {v2 : Nat} {v3 : Int32} {v4 : Int32} {v5 : Int32} {v6 : Int32} {h : am_H} {r : (Int32 × am_H)} (hb : Text_ask_181 v0 v2 v3 v4 v5 v6 h = some r) : Eqs h r.2 := Text_ask_9_Q _ _ hb
theorem Text_ask_181_s {v0 : Nat} {v2 : Nat} {v3 : Int32} {v4 : Int32} {v5 : Int32} {v6 : Int32} {h : am_H} {r : (Int32 × am_H)} (hb : Text_ask_181 v0 v2 v3 v4 v5 v6 h = some r) : Sx 1 mX9_ask 181 [.ref v0, .retAddr 0, .ref v2, .int v3, .int v4, .int v5, .int v6, .retAddr 0, .retAddr 0] [] h (some (.int r.1)) r.2 := (Text_ask_9_T _ _ hb).2.2.2.2.2.2.1 rfl
set_option maxHeartbeats 1000000 in
set_option maxRecDepth 100000 in
theorem Text_ask_203_e (v0 : Nat) (v2 : Nat) (v3 : Int32) (v4 : Int32) (v6 : Int32) (s0 : Int32) (s1 : Int32) (h : am_H) : Text_ask_203 v0 v2 v3 v4 v6 s0 s1 h = (if s1 = s0 then Text_ask_293 v0 v2 v3 (if v4 < v6 - (1 : Int32) then v6 - (1 : Int32) else v4) h else Text_ask_293 v0 v2 (v3 + (-1 : Int32)) v4 h) := (fx_eq Text_ask_9_M (203, v3, v4, v6, s0, s1, v0, v2, 0, h)).trans ((if_neg (show ¬ (203 : Nat) = 9 by decide)).trans ((if_neg (show ¬ (203 : Nat) = 74 by decide)).trans ((if_neg (show ¬ (203 : Nat) = 113 by decide)).trans ((if_neg (show ¬ (203 : Nat) = 114 by decide)).trans ((if_neg (show ¬ (203 : Nat) = 135 by decide)).trans ((if_neg (show ¬ (203 : Nat) = 167 by decide)).trans ((if_neg (show ¬ (203 : Nat) = 181 by decide)).trans (if_pos rfl))))))))
theorem Text_ask_203_q {v0 : Nat} {v2 : Nat} {v3 : Int32} {v4 : Int32} {v6 : Int32} {s0 : Int32} {s1 : Int32} {h : am_H} {r : (Int32 × am_H)} (hb : Text_ask_203 v0 v2 v3 v4 v6 s0 s1 h = some r) : Eqs h r.2 := Text_ask_9_Q _ _ hb
theorem Text_ask_203_s {v0 : Nat} {v2 : Nat} {v3 : Int32} {v4 : Int32} {v6 : Int32} {s0 : Int32} {s1 : Int32} {h : am_H} {r : (Int32 × am_H)} (hb : Text_ask_203 v0 v2 v3 v4 v6 s0 s1 h = some r) : Sx 1 mX9_ask 203 [.ref v0, .retAddr 0, .ref v2, .int v3, .int v4, .retAddr 0, .int v6, .retAddr 0, .retAddr 0] [.int s0, .int s1] h (some (.int r.1)) r.2 := (Text_ask_9_T _ _ hb).2.2.2.2.2.2.2.1 rfl
set_option maxHeartbeats 1000000 in
set_option maxRecDepth 100000 in
theorem Text_ask_226_e (v0 : Nat) (v2 : Nat) (v3 : Int32) (v4 : Int32) (v5 : Int32) (h : am_H) : Text_ask_226 v0 v2 v3 v4 v5 h = (if v3 < (1 : Int32) then some ((-2147483648 : Int32), h) else (gR h 9 v0 7).bind fun x77 => (aI h 0 x77 (v3 + (-1 : Int32))).bind fun x79 => (gR h 9 v0 7).bind fun x81 => (aI h 0 x81 ((v3 + (-1 : Int32)) + (1 : Int32))).bind fun x83 => (Text_join v5 (Int32.toInt64 x79) (Int32.toInt64 x83) h).bind fun x85 => if (lg_cmp x85 (-1000000000 : Int64)) < (0 : Int32) then some ((-2147483648 : Int32), h) else if (lg_cmp x85 (1000000000 : Int64)) ≤ (0 : Int32) then (gR h 9 v0 7).bind fun x91 => (sI h x91 (v3 + (-1 : Int32)) (Int64.toInt32 x85)).bind fun h93 => Text_ask_293 v0 v2 (v3 + (-1 : Int32)) v4 h93 else some ((-2147483648 : Int32), h)) := (fx_eq Text_ask_9_M (226, v3, v4, v5, 0, 0, v0, v2, 0, h)).trans ((if_neg (show ¬ (226 : Nat) = 9 by decide)).trans ((if_neg (show ¬ (226 : Nat) = 74 by decide)).trans ((if_neg (show ¬ (226 : Nat) = 113 by decide)).trans ((if_neg (show ¬ (226 : Nat) = 114 by decide)).trans ((if_neg (show ¬ (226 : Nat) = 135 by decide)).trans ((if_neg (show ¬ (226 : Nat) = 167 by decide)).trans ((if_neg (show ¬ (226 : Nat) = 181 by decide)).trans ((if_neg (show ¬ (226 : Nat) = 203 by decide)).trans (if_pos rfl)))))))))
theorem Text_ask_226_q {v0 : Nat} {v2 : Nat} {v3 : Int32} {v4 : Int32} {v5 : Int32} {h : am_H} {r : (Int32 × am_H)} (hb : Text_ask_226 v0 v2 v3 v4 v5 h = some r) : Eqs h r.2 := Text_ask_9_Q _ _ hb
theorem Text_ask_226_s {v0 : Nat} {v2 : Nat} {v3 : Int32} {v4 : Int32} {v5 : Int32} {h : am_H} {r : (Int32 × am_H)} (hb : Text_ask_226 v0 v2 v3 v4 v5 h = some r) : Sx 1 mX9_ask 226 [.ref v0, .retAddr 0, .ref v2, .int v3, .int v4, .int v5, .retAddr 0, .retAddr 0, .retAddr 0] [] h (some (.int r.1)) r.2 := (Text_ask_9_T _ _ hb).2.2.2.2.2.2.2.2.1 rfl
set_option maxHeartbeats 1000000 in
set_option maxRecDepth 100000 in
theorem Text_ask_293_e (v0 : Nat) (v2 : Nat) (v3 : Int32) (v4 : Int32) (h : am_H) : Text_ask_293 v0 v2 v3 v4 h = (Text_ask_9 v0 v2 v3 (v4 + (1 : Int32)) h) := (fx_eq Text_ask_9_M (293, v3, v4, 0, 0, 0, v0, v2, 0, h)).trans ((if_neg (show ¬ (293 : Nat) = 9 by decide)).trans ((if_neg (show ¬ (293 : Nat) = 74 by decide)).trans ((if_neg (show ¬ (293 : Nat) = 113 by decide)).trans ((if_neg (show ¬ (293 : Nat) = 114 by decide)).trans ((if_neg (show ¬ (293 : Nat) = 135 by decide)).trans ((if_neg (show ¬ (293 : Nat) = 167 by decide)).trans ((if_neg (show ¬ (293 : Nat) = 181 by decide)).trans ((if_neg (show ¬ (293 : Nat) = 203 by decide)).trans ((if_neg (show ¬ (293 : Nat) = 226 by decide)).trans (if_pos rfl))))))))))
theorem Text_ask_293_q {v0 : Nat} {v2 : Nat} {v3 : Int32} {v4 : Int32} {h : am_H} {r : (Int32 × am_H)} (hb : Text_ask_293 v0 v2 v3 v4 h = some r) : Eqs h r.2 := Text_ask_9_Q _ _ hb
theorem Text_ask_293_s {v0 : Nat} {v2 : Nat} {v3 : Int32} {v4 : Int32} {h : am_H} {r : (Int32 × am_H)} (hb : Text_ask_293 v0 v2 v3 v4 h = some r) : Sx 1 mX9_ask 293 [.ref v0, .retAddr 0, .ref v2, .int v3, .int v4, .retAddr 0, .retAddr 0, .retAddr 0, .retAddr 0] [] h (some (.int r.1)) r.2 := (Text_ask_9_T _ _ hb).2.2.2.2.2.2.2.2.2.1 rfl
set_option maxHeartbeats 1000000 in
set_option maxRecDepth 100000 in
noncomputable def Text_ask (v0 : Nat) (v1 : Int32) (v2 : Nat) (h : am_H) : Option (Int32 × am_H) := if isO h 9 v0 = true then Text_ask_9 v0 v2 (-1 : Int32) (if v1 < (0 : Int32) then (0 : Int32) else v1) h else none
set_option maxHeartbeats 1000000 in
set_option maxRecDepth 100000 in
theorem Text_ask_s {v0 : Nat} {v1 : Int32} {v2 : Nat} {h : am_H} {r : (Int32 × am_H)} (hb : Text_ask v0 v1 v2 h = some r) : Sx 1 mX9_ask 0 (am_en [.ref v0, .int v1, .ref v2] 9) [] h (some (.int r.1)) r.2 := by
  unfold Text_ask at hb
  have hb := (iz hb).2
  show Sx 1 mX9_ask 0 [.ref v0, .int v1, .ref v2, .retAddr 0, .retAddr 0, .retAddr 0, .retAddr 0, .retAddr 0, .retAddr 0] [] h (some (.int r.1)) r.2
  refine Sx.o (fun _ _ _ k => op_iconst (-1 : Int32) dX9_ask_0 (by decide) k) ?_
  refine Sx.o (L' := [.ref v0, .int v1, .ref v2, .int (-1 : Int32), .retAddr 0, .retAddr 0, .retAddr 0, .retAddr 0, .retAddr 0]) (fun _ _ _ k => ex_istore_n dX9_ask_1 (by decide) k) ?_
  refine Sx.o (fun _ _ _ k => ex_iload_n dX9_ask_2 rfl k) ?_
  refine Sx.o (fun _ _ _ k => op_iconst (0 : Int32) dX9_ask_3 (by decide) k) ?_
  refine Sx.o (fun _ _ _ k => op_mmax (by omega) dX9_ask_4 kX9_42 (Nat.le_of_ble_eq_true rfl) k) ?_
  refine Sx.o (L' := [.ref v0, .int v1, .ref v2, .int (-1 : Int32), .int (if v1 < (0 : Int32) then (0 : Int32) else v1), .retAddr 0, .retAddr 0, .retAddr 0, .retAddr 0]) (fun _ _ _ k => ex_istore dX9_ask_7 (by decide) k) ?_
  refine Sx.fg [true, false, true, true, true, true, true, true, true] ?_
  exact Text_ask_9_s hb
set_option maxHeartbeats 1000000 in
set_option maxRecDepth 100000 in
theorem Text_ask_q {v0 : Nat} {v1 : Int32} {v2 : Nat} {h : am_H} {r : (Int32 × am_H)} (hb : Text_ask v0 v1 v2 h = some r) : Eqs h r.2 := by
  unfold Text_ask at hb
  have hb := (iz hb).2
  have w0 := Eqs.rf h
  exact w0.tr (Text_ask_9_q hb)
theorem Text_ask_o {v0 : Nat} {v1 : Int32} {v2 : Nat} {h : am_H} {r : (Int32 × am_H)} (hb : Text_ask v0 v1 v2 h = some r) : isO h 9 v0 = true := by
  unfold Text_ask at hb
  exact (iz hb).1
set_option maxHeartbeats 1000000 in
set_option maxRecDepth 100000 in
noncomputable def Text_hasEnded_5_b (g : (Nat × Int32 × Int32 × Int32 × Nat × Nat × am_H) → Option (Int32 × am_H)) (v0 : Nat) (v1 : Nat) (v2 : Int32) (v3 : Int32) (v4 : Int32) (h : am_H) : Option (Int32 × am_H) := (gI h 9 v0 2).bind fun x1 => if x1 ≤ v4 then if v3 = (0 : Int32) then some ((0 : Int32), h) else if v2 = (0 : Int32) then some ((0 : Int32), h) else some ((1 : Int32), h) else (gR h 9 v0 3).bind fun x9 => (aI h 0 x9 v4).bind fun x11 => if x11 = (2 : Int32) then (gR h 9 v0 5).bind fun x15 => (aI h 0 x15 v4).bind fun x17 => if x17 = (-1 : Int32) then some ((1 : Int32), h) else (gR h 9 v0 5).bind fun x21 => (aI h 0 x21 v4).bind fun x23 => (Text_ask v0 x23 v1 h).bind fun r25 => if r25.1 = (1 : Int32) then some ((1 : Int32), r25.2) else g (56, v2, (0 : Int32), v4, v0, v1, r25.2) else g (56, v2, v3, v4, v0, v1, h)
set_option maxHeartbeats 1000000 in
set_option maxRecDepth 100000 in
theorem Text_hasEnded_5_m {g g2 : (Nat × Int32 × Int32 × Int32 × Nat × Nat × am_H) → Option (Int32 × am_H)} (hg : ∀ s, Le (g s) (g2 s)) (v0 : Nat) (v1 : Nat) (v2 : Int32) (v3 : Int32) (v4 : Int32) (h : am_H) : Le (Text_hasEnded_5_b g v0 v1 v2 v3 v4 h) (Text_hasEnded_5_b g2 v0 v1 v2 v3 v4 h) := by unfold Text_hasEnded_5_b; exact le_b (le_r _) fun x1 => le_i (le_r _) (le_b (le_r _) fun x9 => le_b (le_r _) fun x11 => le_i (le_b (le_r _) fun x15 => le_b (le_r _) fun x17 => le_i (le_r _) (le_b (le_r _) fun x21 => le_b (le_r _) fun x23 => le_b (le_r _) fun r25 => le_i (le_r _) (hg _))) (hg _))
set_option maxHeartbeats 1000000 in
set_option maxRecDepth 100000 in
noncomputable def Text_hasEnded_56_b (g : (Nat × Int32 × Int32 × Int32 × Nat × Nat × am_H) → Option (Int32 × am_H)) (v0 : Nat) (v1 : Nat) (v2 : Int32) (v3 : Int32) (v4 : Int32) (h : am_H) : Option (Int32 × am_H) := g (5, v2, v3, (v4 + (1 : Int32)), v0, v1, h)
set_option maxHeartbeats 1000000 in
set_option maxRecDepth 100000 in
theorem Text_hasEnded_56_m {g g2 : (Nat × Int32 × Int32 × Int32 × Nat × Nat × am_H) → Option (Int32 × am_H)} (hg : ∀ s, Le (g s) (g2 s)) (v0 : Nat) (v1 : Nat) (v2 : Int32) (v3 : Int32) (v4 : Int32) (h : am_H) : Le (Text_hasEnded_56_b g v0 v1 v2 v3 v4 h) (Text_hasEnded_56_b g2 v0 v1 v2 v3 v4 h) := by unfold Text_hasEnded_56_b; exact hg _
noncomputable def Text_hasEnded_5_F (g : (Nat × Int32 × Int32 × Int32 × Nat × Nat × am_H) → Option (Int32 × am_H)) (s : (Nat × Int32 × Int32 × Int32 × Nat × Nat × am_H)) : Option (Int32 × am_H) := if s.1 = 5 then Text_hasEnded_5_b g s.2.2.2.2.1 s.2.2.2.2.2.1 s.2.1 s.2.2.1 s.2.2.2.1 s.2.2.2.2.2.2 else if s.1 = 56 then Text_hasEnded_56_b g s.2.2.2.2.1 s.2.2.2.2.2.1 s.2.1 s.2.2.1 s.2.2.2.1 s.2.2.2.2.2.2 else none
theorem Text_hasEnded_5_M : Mn Text_hasEnded_5_F := fun g g2 hg s => by unfold Text_hasEnded_5_F; exact le_i (Text_hasEnded_5_m hg s.2.2.2.2.1 s.2.2.2.2.2.1 s.2.1 s.2.2.1 s.2.2.2.1 s.2.2.2.2.2.2) (le_i (Text_hasEnded_56_m hg s.2.2.2.2.1 s.2.2.2.2.2.1 s.2.1 s.2.2.1 s.2.2.2.1 s.2.2.2.2.2.2) (le_r _))
def Text_hasEnded_5_P (s : (Nat × Int32 × Int32 × Int32 × Nat × Nat × am_H)) (r : (Int32 × am_H)) : Prop := (s.1 = 5 → Sx 2 mX9_hasEnded 5 [.ref s.2.2.2.2.1, .ref s.2.2.2.2.2.1, .int s.2.1, .int s.2.2.1, .int s.2.2.2.1] [] s.2.2.2.2.2.2 (some (.int r.1)) r.2) ∧ (s.1 = 56 → Sx 2 mX9_hasEnded 56 [.ref s.2.2.2.2.1, .ref s.2.2.2.2.2.1, .int s.2.1, .int s.2.2.1, .int s.2.2.2.1] [] s.2.2.2.2.2.2 (some (.int r.1)) r.2) ∧ True
set_option maxHeartbeats 1000000 in
set_option maxRecDepth 100000 in
theorem Text_hasEnded_5_t {g : (Nat × Int32 × Int32 × Int32 × Nat × Nat × am_H) → Option (Int32 × am_H)} (hg : ∀ s r, g s = some r → Text_hasEnded_5_P s r) {v0 : Nat} {v1 : Nat} {v2 : Int32} {v3 : Int32} {v4 : Int32} {h : am_H} {r : (Int32 × am_H)} (hb : Text_hasEnded_5_b g v0 v1 v2 v3 v4 h = some r) : Sx 2 mX9_hasEnded 5 [.ref v0, .ref v1, .int v2, .int v3, .int v4] [] h (some (.int r.1)) r.2 := by
  unfold Text_hasEnded_5_b at hb
  refine Sx.o (fun _ _ _ k => ex_iload dX9_hasEnded_5 rfl k) ?_
  refine Sx.o (fun _ _ _ k => ex_aload_n dX9_hasEnded_7 rfl rfl k) ?_
  obtain ⟨x1, e_x1, hb2⟩ := ob2 hb
  refine Sx.o (fun _ _ _ k => op_getI fX9_45 dX9_hasEnded_8 e_x1 k) ?_
  refine Sx.b (fun _ _ _ k1 k2 => ex_icmp_ge 62 dX9_hasEnded_11 (by decide) k1 k2) (fun q => ?_) (fun q => ?_)
  · have hb3 := ip q hb2
    refine Sx.o (fun _ _ _ k => ex_iload_n dX9_hasEnded_62 rfl k) ?_
    refine Sx.b (fun _ _ _ k1 k2 => ex_if_eq 74 dX9_hasEnded_63 (by decide) k1 k2) (fun q => ?_) (fun q => ?_)
    · have hb5 := ip q hb3
      refine Sx.o (fun _ _ _ k => op_iconst (0 : Int32) dX9_hasEnded_74 (by decide) k) ?_
      obtain rfl := Option.some.inj hb5
      exact Sx.r (fun _ _ _ k => ex_zret rfl rfl dX9_hasEnded_75 k)
    · have hb6 := iq q hb3
      refine Sx.o (fun _ _ _ k => ex_iload_n dX9_hasEnded_66 rfl k) ?_
      refine Sx.b (fun _ _ _ k1 k2 => ex_if_eq 74 dX9_hasEnded_67 (by decide) k1 k2) (fun q => ?_) (fun q => ?_)
      · have hb7 := ip q hb6
        refine Sx.o (fun _ _ _ k => op_iconst (0 : Int32) dX9_hasEnded_74 (by decide) k) ?_
        obtain rfl := Option.some.inj hb7
        exact Sx.r (fun _ _ _ k => ex_zret rfl rfl dX9_hasEnded_75 k)
      · have hb8 := iq q hb6
        refine Sx.o (fun _ _ _ k => op_iconst (1 : Int32) dX9_hasEnded_70 (by decide) k) ?_
        refine Sx.o (fun _ _ _ k => ex_goto 75 dX9_hasEnded_71 (by decide) k) ?_
        obtain rfl := Option.some.inj hb8
        exact Sx.r (fun _ _ _ k => ex_zret rfl rfl dX9_hasEnded_75 k)
  · have hb4 := iq q hb2
    refine Sx.o (fun _ _ _ k => ex_aload_n dX9_hasEnded_14 rfl rfl k) ?_
    obtain ⟨x9, e_x9, hb10⟩ := ob2 hb4
    refine Sx.o (fun _ _ _ k => op_getR fX9_17 dX9_hasEnded_15 e_x9 k) ?_
    refine Sx.o (fun _ _ _ k => ex_iload dX9_hasEnded_18 rfl k) ?_
    obtain ⟨x11, e_x11, hb12⟩ := ob2 hb10
    refine Sx.o (fun _ _ _ k => op_iald dX9_hasEnded_20 e_x11 k) ?_
    refine Sx.o (fun _ _ _ k => op_iconst (2 : Int32) dX9_hasEnded_21 (by decide) k) ?_
    refine Sx.bn (fun _ _ _ k1 k2 => ex_icmp_ne 56 dX9_hasEnded_22 (by decide) k1 k2) (fun q => ?_) (fun q => ?_)
    · have hb13 := iq q hb12
      exact (hg _ _ hb13).2.1 rfl
    · have hb14 := ip q hb12
      refine Sx.o (fun _ _ _ k => ex_aload_n dX9_hasEnded_25 rfl rfl k) ?_
      obtain ⟨x15, e_x15, hb16⟩ := ob2 hb14
      refine Sx.o (fun _ _ _ k => op_getR fX9_23 dX9_hasEnded_26 e_x15 k) ?_
      refine Sx.o (fun _ _ _ k => ex_iload dX9_hasEnded_29 rfl k) ?_
      obtain ⟨x17, e_x17, hb18⟩ := ob2 hb16
      refine Sx.o (fun _ _ _ k => op_iald dX9_hasEnded_31 e_x17 k) ?_
      refine Sx.o (fun _ _ _ k => op_iconst (-1 : Int32) dX9_hasEnded_32 (by decide) k) ?_
      refine Sx.b (fun _ _ _ k1 k2 => ex_icmp_eq 52 dX9_hasEnded_33 (by decide) k1 k2) (fun q => ?_) (fun q => ?_)
      · have hb19 := ip q hb18
        refine Sx.o (fun _ _ _ k => op_iconst (1 : Int32) dX9_hasEnded_52 (by decide) k) ?_
        obtain rfl := Option.some.inj hb19
        exact Sx.r (fun _ _ _ k => ex_zret rfl rfl dX9_hasEnded_53 k)
      · have hb20 := iq q hb18
        refine Sx.o (fun _ _ _ k => ex_aload_n dX9_hasEnded_36 rfl rfl k) ?_
        refine Sx.o (fun _ _ _ k => ex_aload_n dX9_hasEnded_37 rfl rfl k) ?_
        obtain ⟨x21, e_x21, hb22⟩ := ob2 hb20
        refine Sx.o (fun _ _ _ k => op_getR fX9_23 dX9_hasEnded_38 e_x21 k) ?_
        refine Sx.o (fun _ _ _ k => ex_iload dX9_hasEnded_41 rfl k) ?_
        obtain ⟨x23, e_x23, hb24⟩ := ob2 hb22
        refine Sx.o (fun _ _ _ k => op_iald dX9_hasEnded_43 e_x23 k) ?_
        refine Sx.o (fun _ _ _ k => ex_aload_n dX9_hasEnded_44 rfl rfl k) ?_
        obtain ⟨r25, e_r25, hb26⟩ := ob2 hb24
        refine sx_callV (dc := 1) (as := [.int x23, .ref v1]) (stq := [.int r25.1]) (by omega) dX9_hasEnded_45 MX9_ask kX9_61 iX9_ask sX9_ask rfl rfl (Text_ask_o e_r25) rfl rfl (Nat.le_of_ble_eq_true rfl) (Nat.le_of_ble_eq_true rfl) (Text_ask_s e_r25) rfl ?_
        refine Sx.o (fun _ _ _ k => op_iconst (1 : Int32) dX9_hasEnded_48 (by decide) k) ?_
        refine Sx.bn (fun _ _ _ k1 k2 => ex_icmp_ne 54 dX9_hasEnded_49 (by decide) k1 k2) (fun q => ?_) (fun q => ?_)
        · have hb28 := iq q hb26
          refine Sx.o (fun _ _ _ k => op_iconst (0 : Int32) dX9_hasEnded_54 (by decide) k) ?_
          refine Sx.o (L' := [.ref v0, .ref v1, .int v2, .int (0 : Int32), .int v4]) (fun _ _ _ k => ex_istore_n dX9_hasEnded_55 (by decide) k) ?_
          exact (hg _ _ hb28).2.1 rfl
        · have hb29 := ip q hb26
          refine Sx.o (fun _ _ _ k => op_iconst (1 : Int32) dX9_hasEnded_52 (by decide) k) ?_
          obtain rfl := Option.some.inj hb29
          exact Sx.r (fun _ _ _ k => ex_zret rfl rfl dX9_hasEnded_53 k)
set_option maxHeartbeats 1000000 in
set_option maxRecDepth 100000 in
theorem Text_hasEnded_56_t {g : (Nat × Int32 × Int32 × Int32 × Nat × Nat × am_H) → Option (Int32 × am_H)} (hg : ∀ s r, g s = some r → Text_hasEnded_5_P s r) {v0 : Nat} {v1 : Nat} {v2 : Int32} {v3 : Int32} {v4 : Int32} {h : am_H} {r : (Int32 × am_H)} (hb : Text_hasEnded_56_b g v0 v1 v2 v3 v4 h = some r) : Sx 2 mX9_hasEnded 56 [.ref v0, .ref v1, .int v2, .int v3, .int v4] [] h (some (.int r.1)) r.2 := by
  unfold Text_hasEnded_56_b at hb
  refine Sx.o (L' := [.ref v0, .ref v1, .int v2, .int v3, .int (v4 + (1 : Int32))]) (fun _ _ _ k => op_iinc (1 : Int32) dX9_hasEnded_56 (by decide) rfl (by decide) k) ?_
  refine Sx.o (fun _ _ _ k => ex_goto 5 dX9_hasEnded_59 (by decide) k) ?_
  exact (hg _ _ hb).1 rfl
theorem Text_hasEnded_5_T : ∀ s r, fx Text_hasEnded_5_F Text_hasEnded_5_M s = some r → Text_hasEnded_5_P s r := fx_ind Text_hasEnded_5_M Text_hasEnded_5_P (fun g hg s r hb => by
  unfold Text_hasEnded_5_F at hb
  exact ⟨fun q => Text_hasEnded_5_t hg (ip q hb), fun q => Text_hasEnded_56_t hg (ip q (iq (by rw [q]; decide) hb)), trivial⟩)
set_option maxHeartbeats 1000000 in
set_option maxRecDepth 100000 in
theorem Text_hasEnded_5_r {g : (Nat × Int32 × Int32 × Int32 × Nat × Nat × am_H) → Option (Int32 × am_H)} (hg : ∀ s r, g s = some r → Eqs s.2.2.2.2.2.2 r.2) {v0 : Nat} {v1 : Nat} {v2 : Int32} {v3 : Int32} {v4 : Int32} {h : am_H} {r : (Int32 × am_H)} (hb : Text_hasEnded_5_b g v0 v1 v2 v3 v4 h = some r) : Eqs h r.2 := by
  unfold Text_hasEnded_5_b at hb
  have w0 := Eqs.rf h
  obtain ⟨x1, e_x1, hb2⟩ := ob2 hb
  by_cases q : x1 ≤ v4
  · have hb3 := ip q hb2
    by_cases q : v3 = (0 : Int32)
    · have hb5 := ip q hb3
      obtain rfl := Option.some.inj hb5
      exact w0
    · have hb6 := iq q hb3
      by_cases q : v2 = (0 : Int32)
      · have hb7 := ip q hb6
        obtain rfl := Option.some.inj hb7
        exact w0
      · have hb8 := iq q hb6
        obtain rfl := Option.some.inj hb8
        exact w0
  · have hb4 := iq q hb2
    obtain ⟨x9, e_x9, hb10⟩ := ob2 hb4
    obtain ⟨x11, e_x11, hb12⟩ := ob2 hb10
    by_cases q : x11 = (2 : Int32)
    · have hb14 := ip q hb12
      obtain ⟨x15, e_x15, hb16⟩ := ob2 hb14
      obtain ⟨x17, e_x17, hb18⟩ := ob2 hb16
      by_cases q : x17 = (-1 : Int32)
      · have hb19 := ip q hb18
        obtain rfl := Option.some.inj hb19
        exact w0
      · have hb20 := iq q hb18
        obtain ⟨x21, e_x21, hb22⟩ := ob2 hb20
        obtain ⟨x23, e_x23, hb24⟩ := ob2 hb22
        obtain ⟨r25, e_r25, hb26⟩ := ob2 hb24
        have w27 := w0.tr (Text_ask_q e_r25)
        by_cases q : r25.1 = (1 : Int32)
        · have hb29 := ip q hb26
          obtain rfl := Option.some.inj hb29
          exact w27
        · have hb28 := iq q hb26
          exact w27.tr (hg _ _ hb28)
    · have hb13 := iq q hb12
      exact w0.tr (hg _ _ hb13)
set_option maxHeartbeats 1000000 in
set_option maxRecDepth 100000 in
theorem Text_hasEnded_56_r {g : (Nat × Int32 × Int32 × Int32 × Nat × Nat × am_H) → Option (Int32 × am_H)} (hg : ∀ s r, g s = some r → Eqs s.2.2.2.2.2.2 r.2) {v0 : Nat} {v1 : Nat} {v2 : Int32} {v3 : Int32} {v4 : Int32} {h : am_H} {r : (Int32 × am_H)} (hb : Text_hasEnded_56_b g v0 v1 v2 v3 v4 h = some r) : Eqs h r.2 := by
  unfold Text_hasEnded_56_b at hb
  have w0 := Eqs.rf h
  exact w0.tr (hg _ _ hb)
theorem Text_hasEnded_5_Q : ∀ s r, fx Text_hasEnded_5_F Text_hasEnded_5_M s = some r → Eqs s.2.2.2.2.2.2 r.2 := fx_ind Text_hasEnded_5_M (fun s r => Eqs s.2.2.2.2.2.2 r.2) (fun g hg s r hb => by
  unfold Text_hasEnded_5_F at hb
  by_cases q0 : s.1 = 5
  · exact Text_hasEnded_5_r hg (ip q0 hb)
  · have hb0 := iq q0 hb
    by_cases q1 : s.1 = 56
    · exact Text_hasEnded_56_r hg (ip q1 hb0)
    · have hb1 := iq q1 hb0
      exact nomatch hb1)
noncomputable def Text_hasEnded_5 (v0 : Nat) (v1 : Nat) (v2 : Int32) (v3 : Int32) (v4 : Int32) (h : am_H) : Option (Int32 × am_H) := fx Text_hasEnded_5_F Text_hasEnded_5_M (5, v2, v3, v4, v0, v1, h)
noncomputable def Text_hasEnded_56 (v0 : Nat) (v1 : Nat) (v2 : Int32) (v3 : Int32) (v4 : Int32) (h : am_H) : Option (Int32 × am_H) := fx Text_hasEnded_5_F Text_hasEnded_5_M (56, v2, v3, v4, v0, v1, h)
set_option maxHeartbeats 1000000 in
set_option maxRecDepth 100000 in
theorem Text_hasEnded_5_e (v0 : Nat) (v1 : Nat) (v2 : Int32) (v3 : Int32) (v4 : Int32) (h : am_H) : Text_hasEnded_5 v0 v1 v2 v3 v4 h = ((gI h 9 v0 2).bind fun x1 => if x1 ≤ v4 then if v3 = (0 : Int32) then some ((0 : Int32), h) else if v2 = (0 : Int32) then some ((0 : Int32), h) else some ((1 : Int32), h) else (gR h 9 v0 3).bind fun x9 => (aI h 0 x9 v4).bind fun x11 => if x11 = (2 : Int32) then (gR h 9 v0 5).bind fun x15 => (aI h 0 x15 v4).bind fun x17 => if x17 = (-1 : Int32) then some ((1 : Int32), h) else (gR h 9 v0 5).bind fun x21 => (aI h 0 x21 v4).bind fun x23 => (Text_ask v0 x23 v1 h).bind fun r25 => if r25.1 = (1 : Int32) then some ((1 : Int32), r25.2) else Text_hasEnded_56 v0 v1 v2 (0 : Int32) v4 r25.2 else Text_hasEnded_56 v0 v1 v2 v3 v4 h) := (fx_eq Text_hasEnded_5_M (5, v2, v3, v4, v0, v1, h)).trans (if_pos rfl)
theorem Text_hasEnded_5_q {v0 : Nat} {v1 : Nat} {v2 : Int32} {v3 : Int32} {v4 : Int32} {h : am_H} {r : (Int32 × am_H)} (hb : Text_hasEnded_5 v0 v1 v2 v3 v4 h = some r) : Eqs h r.2 := Text_hasEnded_5_Q _ _ hb
theorem Text_hasEnded_5_s {v0 : Nat} {v1 : Nat} {v2 : Int32} {v3 : Int32} {v4 : Int32} {h : am_H} {r : (Int32 × am_H)} (hb : Text_hasEnded_5 v0 v1 v2 v3 v4 h = some r) : Sx 2 mX9_hasEnded 5 [.ref v0, .ref v1, .int v2, .int v3, .int v4] [] h (some (.int r.1)) r.2 := (Text_hasEnded_5_T _ _ hb).1 rfl
set_option maxHeartbeats 1000000 in
set_option maxRecDepth 100000 in
theorem Text_hasEnded_56_e (v0 : Nat) (v1 : Nat) (v2 : Int32) (v3 : Int32) (v4 : Int32) (h : am_H) : Text_hasEnded_56 v0 v1 v2 v3 v4 h = (Text_hasEnded_5 v0 v1 v2 v3 (v4 + (1 : Int32)) h) := (fx_eq Text_hasEnded_5_M (56, v2, v3, v4, v0, v1, h)).trans ((if_neg (show ¬ (56 : Nat) = 5 by decide)).trans (if_pos rfl))
theorem Text_hasEnded_56_q {v0 : Nat} {v1 : Nat} {v2 : Int32} {v3 : Int32} {v4 : Int32} {h : am_H} {r : (Int32 × am_H)} (hb : Text_hasEnded_56 v0 v1 v2 v3 v4 h = some r) : Eqs h r.2 := Text_hasEnded_5_Q _ _ hb
theorem Text_hasEnded_56_s {v0 : Nat} {v1 : Nat} {v2 : Int32} {v3 : Int32} {v4 : Int32} {h : am_H} {r : (Int32 × am_H)} (hb : Text_hasEnded_56 v0 v1 v2 v3 v4 h = some r) : Sx 2 mX9_hasEnded 56 [.ref v0, .ref v1, .int v2, .int v3, .int v4] [] h (some (.int r.1)) r.2 := (Text_hasEnded_5_T _ _ hb).2.1 rfl
set_option maxHeartbeats 1000000 in
set_option maxRecDepth 100000 in
noncomputable def Text_hasEnded (v0 : Nat) (v1 : Nat) (v2 : Int32) (h : am_H) : Option (Int32 × am_H) := if isO h 9 v0 = true then Text_hasEnded_5 v0 v1 v2 (1 : Int32) (0 : Int32) h else none
set_option maxHeartbeats 1000000 in
set_option maxRecDepth 100000 in
theorem Text_hasEnded_s {v0 : Nat} {v1 : Nat} {v2 : Int32} {h : am_H} {r : (Int32 × am_H)} (hb : Text_hasEnded v0 v1 v2 h = some r) : Sx 2 mX9_hasEnded 0 (am_en [.ref v0, .ref v1, .int v2] 5) [] h (some (.int r.1)) r.2 := by
  unfold Text_hasEnded at hb
  have hb := (iz hb).2
  show Sx 2 mX9_hasEnded 0 [.ref v0, .ref v1, .int v2, .retAddr 0, .retAddr 0] [] h (some (.int r.1)) r.2
  refine Sx.o (fun _ _ _ k => op_iconst (1 : Int32) dX9_hasEnded_0 (by decide) k) ?_
  refine Sx.o (L' := [.ref v0, .ref v1, .int v2, .int (1 : Int32), .retAddr 0]) (fun _ _ _ k => ex_istore_n dX9_hasEnded_1 (by decide) k) ?_
  refine Sx.o (fun _ _ _ k => op_iconst (0 : Int32) dX9_hasEnded_2 (by decide) k) ?_
  refine Sx.o (L' := [.ref v0, .ref v1, .int v2, .int (1 : Int32), .int (0 : Int32)]) (fun _ _ _ k => ex_istore dX9_hasEnded_3 (by decide) k) ?_
  exact Text_hasEnded_5_s hb
set_option maxHeartbeats 1000000 in
set_option maxRecDepth 100000 in
theorem Text_hasEnded_q {v0 : Nat} {v1 : Nat} {v2 : Int32} {h : am_H} {r : (Int32 × am_H)} (hb : Text_hasEnded v0 v1 v2 h = some r) : Eqs h r.2 := by
  unfold Text_hasEnded at hb
  have hb := (iz hb).2
  have w0 := Eqs.rf h
  exact w0.tr (Text_hasEnded_5_q hb)
theorem Text_hasEnded_o {v0 : Nat} {v1 : Nat} {v2 : Int32} {h : am_H} {r : (Int32 × am_H)} (hb : Text_hasEnded v0 v1 v2 h = some r) : isO h 9 v0 = true := by
  unfold Text_hasEnded at hb
  exact (iz hb).1
set_option maxHeartbeats 1000000 in
set_option maxRecDepth 100000 in
noncomputable def Text_latestOf_8_b (g : (Nat × Int32 × Int32 × Int32 × Nat × Nat × am_H) → Option (Int32 × am_H)) (v0 : Nat) (v1 : Int32) (v2 : Nat) (v3 : Int32) (v4 : Int32) (h : am_H) : Option (Int32 × am_H) := if v4 < (0 : Int32) then some (v3, h) else (gR h 9 v0 3).bind fun x3 => (aI h 0 x3 v4).bind fun x5 => if x5 = v1 then (gR h 9 v0 5).bind fun x9 => (aI h 0 x9 v4).bind fun x11 => if x11 = (-1 : Int32) then g (51, v1, v3, v4, v0, v2, h) else (gR h 9 v0 5).bind fun x15 => (aI h 0 x15 v4).bind fun x17 => (Text_ask v0 x17 v2 h).bind fun r19 => if r19.1 = (1 : Int32) then g (51, v1, v3, v4, v0, v2, r19.2) else g (77, v1, v3, v4, v0, v2, r19.2) else g (77, v1, v3, v4, v0, v2, h)
set_option maxHeartbeats 1000000 in
set_option maxRecDepth 100000 in
theorem Text_latestOf_8_m {g g2 : (Nat × Int32 × Int32 × Int32 × Nat × Nat × am_H) → Option (Int32 × am_H)} (hg : ∀ s, Le (g s) (g2 s)) (v0 : Nat) (v1 : Int32) (v2 : Nat) (v3 : Int32) (v4 : Int32) (h : am_H) : Le (Text_latestOf_8_b g v0 v1 v2 v3 v4 h) (Text_latestOf_8_b g2 v0 v1 v2 v3 v4 h) := by unfold Text_latestOf_8_b; exact le_i (le_r _) (le_b (le_r _) fun x3 => le_b (le_r _) fun x5 => le_i (le_b (le_r _) fun x9 => le_b (le_r _) fun x11 => le_i (hg _) (le_b (le_r _) fun x15 => le_b (le_r _) fun x17 => le_b (le_r _) fun r19 => le_i (hg _) (hg _))) (hg _))
set_option maxHeartbeats 1000000 in
set_option maxRecDepth 100000 in
noncomputable def Text_latestOf_51_b (g : (Nat × Int32 × Int32 × Int32 × Nat × Nat × am_H) → Option (Int32 × am_H)) (v0 : Nat) (v1 : Int32) (v2 : Nat) (v3 : Int32) (v4 : Int32) (h : am_H) : Option (Int32 × am_H) := (gR h 9 v0 4).bind fun x24 => (aI h 0 x24 (v4 * (3 : Int32))).bind fun x26 => (Text_ask v0 x26 v2 h).bind fun r28 => if r28.1 = (-2147483648 : Int32) then g (77, v1, v3, v4, v0, v2, r28.2) else some (r28.1, r28.2)
set_option maxHeartbeats 1000000 in
set_option maxRecDepth 100000 in
theorem Text_latestOf_51_m {g g2 : (Nat × Int32 × Int32 × Int32 × Nat × Nat × am_H) → Option (Int32 × am_H)} (hg : ∀ s, Le (g s) (g2 s)) (v0 : Nat) (v1 : Int32) (v2 : Nat) (v3 : Int32) (v4 : Int32) (h : am_H) : Le (Text_latestOf_51_b g v0 v1 v2 v3 v4 h) (Text_latestOf_51_b g2 v0 v1 v2 v3 v4 h) := by unfold Text_latestOf_51_b; exact le_b (le_r _) fun x24 => le_b (le_r _) fun x26 => le_b (le_r _) fun r28 => le_i (hg _) (le_r _)
set_option maxHeartbeats 1000000 in
set_option maxRecDepth 100000 in
noncomputable def Text_latestOf_77_b (g : (Nat × Int32 × Int32 × Int32 × Nat × Nat × am_H) → Option (Int32 × am_H)) (v0 : Nat) (v1 : Int32) (v2 : Nat) (v3 : Int32) (v4 : Int32) (h : am_H) : Option (Int32 × am_H) := g (8, v1, v3, (v4 + (-1 : Int32)), v0, v2, h)
set_option maxHeartbeats 1000000 in
set_option maxRecDepth 100000 in
theorem Text_latestOf_77_m {g g2 : (Nat × Int32 × Int32 × Int32 × Nat × Nat × am_H) → Option (Int32 × am_H)} (hg : ∀ s, Le (g s) (g2 s)) (v0 : Nat) (v1 : Int32) (v2 : Nat) (v3 : Int32) (v4 : Int32) (h : am_H) : Le (Text_latestOf_77_b g v0 v1 v2 v3 v4 h) (Text_latestOf_77_b g2 v0 v1 v2 v3 v4 h) := by unfold Text_latestOf_77_b; exact hg _
noncomputable def Text_latestOf_8_F (g : (Nat × Int32 × Int32 × Int32 × Nat × Nat × am_H) → Option (Int32 × am_H)) (s : (Nat × Int32 × Int32 × Int32 × Nat × Nat × am_H)) : Option (Int32 × am_H) := if s.1 = 8 then Text_latestOf_8_b g s.2.2.2.2.1 s.2.1 s.2.2.2.2.2.1 s.2.2.1 s.2.2.2.1 s.2.2.2.2.2.2 else if s.1 = 51 then Text_latestOf_51_b g s.2.2.2.2.1 s.2.1 s.2.2.2.2.2.1 s.2.2.1 s.2.2.2.1 s.2.2.2.2.2.2 else if s.1 = 77 then Text_latestOf_77_b g s.2.2.2.2.1 s.2.1 s.2.2.2.2.2.1 s.2.2.1 s.2.2.2.1 s.2.2.2.2.2.2 else none
theorem Text_latestOf_8_M : Mn Text_latestOf_8_F := fun g g2 hg s => by unfold Text_latestOf_8_F; exact le_i (Text_latestOf_8_m hg s.2.2.2.2.1 s.2.1 s.2.2.2.2.2.1 s.2.2.1 s.2.2.2.1 s.2.2.2.2.2.2) (le_i (Text_latestOf_51_m hg s.2.2.2.2.1 s.2.1 s.2.2.2.2.2.1 s.2.2.1 s.2.2.2.1 s.2.2.2.2.2.2) (le_i (Text_latestOf_77_m hg s.2.2.2.2.1 s.2.1 s.2.2.2.2.2.1 s.2.2.1 s.2.2.2.1 s.2.2.2.2.2.2) (le_r _)))
def Text_latestOf_8_P (s : (Nat × Int32 × Int32 × Int32 × Nat × Nat × am_H)) (r : (Int32 × am_H)) : Prop := (s.1 = 8 → Sx 2 mX9_latestOf 8 [.ref s.2.2.2.2.1, .int s.2.1, .ref s.2.2.2.2.2.1, .int s.2.2.1, .int s.2.2.2.1, .retAddr 0] [] s.2.2.2.2.2.2 (some (.int r.1)) r.2) ∧ (s.1 = 51 → Sx 2 mX9_latestOf 51 [.ref s.2.2.2.2.1, .int s.2.1, .ref s.2.2.2.2.2.1, .int s.2.2.1, .int s.2.2.2.1, .retAddr 0] [] s.2.2.2.2.2.2 (some (.int r.1)) r.2) ∧ (s.1 = 77 → Sx 2 mX9_latestOf 77 [.ref s.2.2.2.2.1, .int s.2.1, .ref s.2.2.2.2.2.1, .int s.2.2.1, .int s.2.2.2.1, .retAddr 0] [] s.2.2.2.2.2.2 (some (.int r.1)) r.2) ∧ True
set_option maxHeartbeats 1000000 in
set_option maxRecDepth 100000 in
theorem Text_latestOf_8_t {g : (Nat × Int32 × Int32 × Int32 × Nat × Nat × am_H) → Option (Int32 × am_H)} (hg : ∀ s r, g s = some r → Text_latestOf_8_P s r) {v0 : Nat} {v1 : Int32} {v2 : Nat} {v3 : Int32} {v4 : Int32} {h : am_H} {r : (Int32 × am_H)} (hb : Text_latestOf_8_b g v0 v1 v2 v3 v4 h = some r) : Sx 2 mX9_latestOf 8 [.ref v0, .int v1, .ref v2, .int v3, .int v4, .retAddr 0] [] h (some (.int r.1)) r.2 := by
  unfold Text_latestOf_8_b at hb
  refine Sx.o (fun _ _ _ k => ex_iload dX9_latestOf_8 rfl k) ?_
  refine Sx.b (fun _ _ _ k1 k2 => ex_if_lt 83 dX9_latestOf_10 (by decide) k1 k2) (fun q => ?_) (fun q => ?_)
  · have hb1 := ip q hb
    refine Sx.o (fun _ _ _ k => ex_iload_n dX9_latestOf_83 rfl k) ?_
    obtain rfl := Option.some.inj hb1
    exact Sx.r (fun _ _ _ k => ex_iret rfl dX9_latestOf_84 k)
  · have hb2 := iq q hb
    refine Sx.o (fun _ _ _ k => ex_aload_n dX9_latestOf_13 rfl rfl k) ?_
    obtain ⟨x3, e_x3, hb4⟩ := ob2 hb2
    refine Sx.o (fun _ _ _ k => op_getR fX9_17 dX9_latestOf_14 e_x3 k) ?_
    refine Sx.o (fun _ _ _ k => ex_iload dX9_latestOf_17 rfl k) ?_
    obtain ⟨x5, e_x5, hb6⟩ := ob2 hb4
    refine Sx.o (fun _ _ _ k => op_iald dX9_latestOf_19 e_x5 k) ?_
    refine Sx.o (fun _ _ _ k => ex_iload_n dX9_latestOf_20 rfl k) ?_
    refine Sx.bn (fun _ _ _ k1 k2 => ex_icmp_ne 77 dX9_latestOf_21 (by decide) k1 k2) (fun q => ?_) (fun q => ?_)
    · have hb7 := iq q hb6
      exact (hg _ _ hb7).2.2.1 rfl
    · have hb8 := ip q hb6
      refine Sx.o (fun _ _ _ k => ex_aload_n dX9_latestOf_24 rfl rfl k) ?_
      obtain ⟨x9, e_x9, hb10⟩ := ob2 hb8
      refine Sx.o (fun _ _ _ k => op_getR fX9_23 dX9_latestOf_25 e_x9 k) ?_
      refine Sx.o (fun _ _ _ k => ex_iload dX9_latestOf_28 rfl k) ?_
      obtain ⟨x11, e_x11, hb12⟩ := ob2 hb10
      refine Sx.o (fun _ _ _ k => op_iald dX9_latestOf_30 e_x11 k) ?_
      refine Sx.o (fun _ _ _ k => op_iconst (-1 : Int32) dX9_latestOf_31 (by decide) k) ?_
      refine Sx.b (fun _ _ _ k1 k2 => ex_icmp_eq 51 dX9_latestOf_32 (by decide) k1 k2) (fun q => ?_) (fun q => ?_)
      · have hb13 := ip q hb12
        exact (hg _ _ hb13).2.1 rfl
      · have hb14 := iq q hb12
        refine Sx.o (fun _ _ _ k => ex_aload_n dX9_latestOf_35 rfl rfl k) ?_
        refine Sx.o (fun _ _ _ k => ex_aload_n dX9_latestOf_36 rfl rfl k) ?_
        obtain ⟨x15, e_x15, hb16⟩ := ob2 hb14
        refine Sx.o (fun _ _ _ k => op_getR fX9_23 dX9_latestOf_37 e_x15 k) ?_
        refine Sx.o (fun _ _ _ k => ex_iload dX9_latestOf_40 rfl k) ?_
        obtain ⟨x17, e_x17, hb18⟩ := ob2 hb16
        refine Sx.o (fun _ _ _ k => op_iald dX9_latestOf_42 e_x17 k) ?_
        refine Sx.o (fun _ _ _ k => ex_aload_n dX9_latestOf_43 rfl rfl k) ?_
        obtain ⟨r19, e_r19, hb20⟩ := ob2 hb18
        refine sx_callV (dc := 1) (as := [.int x17, .ref v2]) (stq := [.int r19.1]) (by omega) dX9_latestOf_44 MX9_ask kX9_61 iX9_ask sX9_ask rfl rfl (Text_ask_o e_r19) rfl rfl (Nat.le_of_ble_eq_true rfl) (Nat.le_of_ble_eq_true rfl) (Text_ask_s e_r19) rfl ?_
        refine Sx.o (fun _ _ _ k => op_iconst (1 : Int32) dX9_latestOf_47 (by decide) k) ?_
        refine Sx.bn (fun _ _ _ k1 k2 => ex_icmp_ne 77 dX9_latestOf_48 (by decide) k1 k2) (fun q => ?_) (fun q => ?_)
        · have hb22 := iq q hb20
          exact (hg _ _ hb22).2.2.1 rfl
        · have hb23 := ip q hb20
          exact (hg _ _ hb23).2.1 rfl
set_option maxHeartbeats 1000000 in
set_option maxRecDepth 100000 in
theorem Text_latestOf_51_t {g : (Nat × Int32 × Int32 × Int32 × Nat × Nat × am_H) → Option (Int32 × am_H)} (hg : ∀ s r, g s = some r → Text_latestOf_8_P s r) {v0 : Nat} {v1 : Int32} {v2 : Nat} {v3 : Int32} {v4 : Int32} {h : am_H} {r : (Int32 × am_H)} (hb : Text_latestOf_51_b g v0 v1 v2 v3 v4 h = some r) : Sx 2 mX9_latestOf 51 [.ref v0, .int v1, .ref v2, .int v3, .int v4, .retAddr 0] [] h (some (.int r.1)) r.2 := by
  unfold Text_latestOf_51_b at hb
  refine Sx.o (fun _ _ _ k => ex_aload_n dX9_latestOf_51 rfl rfl k) ?_
  refine Sx.o (fun _ _ _ k => ex_aload_n dX9_latestOf_52 rfl rfl k) ?_
  obtain ⟨x24, e_x24, hb25⟩ := ob2 hb
  refine Sx.o (fun _ _ _ k => op_getR fX9_20 dX9_latestOf_53 e_x24 k) ?_
  refine Sx.o (fun _ _ _ k => ex_iload dX9_latestOf_56 rfl k) ?_
  refine Sx.o (fun _ _ _ k => op_iconst (3 : Int32) dX9_latestOf_58 (by decide) k) ?_
  refine Sx.o (fun _ _ _ k => ex_imul dX9_latestOf_59 k) ?_
  obtain ⟨x26, e_x26, hb27⟩ := ob2 hb25
  refine Sx.o (fun _ _ _ k => op_iald dX9_latestOf_60 e_x26 k) ?_
  refine Sx.o (fun _ _ _ k => ex_aload_n dX9_latestOf_61 rfl rfl k) ?_
  obtain ⟨r28, e_r28, hb29⟩ := ob2 hb27
  refine sx_callV (dc := 1) (as := [.int x26, .ref v2]) (stq := [.int r28.1]) (by omega) dX9_latestOf_62 MX9_ask kX9_61 iX9_ask sX9_ask rfl rfl (Text_ask_o e_r28) rfl rfl (Nat.le_of_ble_eq_true rfl) (Nat.le_of_ble_eq_true rfl) (Text_ask_s e_r28) rfl ?_
  refine Sx.o (L' := [.ref v0, .int v1, .ref v2, .int v3, .int v4, .int r28.1]) (fun _ _ _ k => ex_istore dX9_latestOf_65 (by decide) k) ?_
  refine Sx.o (fun _ _ _ k => ex_iload dX9_latestOf_67 rfl k) ?_
  refine Sx.o (fun _ _ _ k => ex_ldc dX9_latestOf_69 qX9_65 k) ?_
  refine Sx.b (fun _ _ _ k1 k2 => ex_icmp_eq 77 dX9_latestOf_71 (by decide) k1 k2) (fun q => ?_) (fun q => ?_)
  · have hb31 := ip q hb29
    refine Sx.fg [true, true, true, true, true, false] ?_
    exact (hg _ _ hb31).2.2.1 rfl
  · have hb32 := iq q hb29
    refine Sx.o (fun _ _ _ k => ex_iload dX9_latestOf_74 rfl k) ?_
    obtain rfl := Option.some.inj hb32
    exact Sx.r (fun _ _ _ k => ex_iret rfl dX9_latestOf_76 k)
set_option maxHeartbeats 1000000 in
set_option maxRecDepth 100000 in
theorem Text_latestOf_77_t {g : (Nat × Int32 × Int32 × Int32 × Nat × Nat × am_H) → Option (Int32 × am_H)} (hg : ∀ s r, g s = some r → Text_latestOf_8_P s r) {v0 : Nat} {v1 : Int32} {v2 : Nat} {v3 : Int32} {v4 : Int32} {h : am_H} {r : (Int32 × am_H)} (hb : Text_latestOf_77_b g v0 v1 v2 v3 v4 h = some r) : Sx 2 mX9_latestOf 77 [.ref v0, .int v1, .ref v2, .int v3, .int v4, .retAddr 0] [] h (some (.int r.1)) r.2 := by
  unfold Text_latestOf_77_b at hb
  refine Sx.o (L' := [.ref v0, .int v1, .ref v2, .int v3, .int (v4 + (-1 : Int32)), .retAddr 0]) (fun _ _ _ k => op_iinc (-1 : Int32) dX9_latestOf_77 (by decide) rfl (by decide) k) ?_
  refine Sx.o (fun _ _ _ k => ex_goto 8 dX9_latestOf_80 (by decide) k) ?_
  exact (hg _ _ hb).1 rfl
theorem Text_latestOf_8_T : ∀ s r, fx Text_latestOf_8_F Text_latestOf_8_M s = some r → Text_latestOf_8_P s r := fx_ind Text_latestOf_8_M Text_latestOf_8_P (fun g hg s r hb => by
  unfold Text_latestOf_8_F at hb
  exact ⟨fun q => Text_latestOf_8_t hg (ip q hb), fun q => Text_latestOf_51_t hg (ip q (iq (by rw [q]; decide) hb)), fun q => Text_latestOf_77_t hg (ip q (iq (by rw [q]; decide) (iq (by rw [q]; decide) hb))), trivial⟩)
set_option maxHeartbeats 1000000 in
set_option maxRecDepth 100000 in
theorem Text_latestOf_8_r {g : (Nat × Int32 × Int32 × Int32 × Nat × Nat × am_H) → Option (Int32 × am_H)} (hg : ∀ s r, g s = some r → Eqs s.2.2.2.2.2.2 r.2) {v0 : Nat} {v1 : Int32} {v2 : Nat} {v3 : Int32} {v4 : Int32} {h : am_H} {r : (Int32 × am_H)} (hb : Text_latestOf_8_b g v0 v1 v2 v3 v4 h = some r) : Eqs h r.2 := by
  unfold Text_latestOf_8_b at hb
  have w0 := Eqs.rf h
  by_cases q : v4 < (0 : Int32)
  · have hb1 := ip q hb
    obtain rfl := Option.some.inj hb1
    exact w0
  · have hb2 := iq q hb
    obtain ⟨x3, e_x3, hb4⟩ := ob2 hb2
    obtain ⟨x5, e_x5, hb6⟩ := ob2 hb4
    by_cases q : x5 = v1
    · have hb8 := ip q hb6
      obtain ⟨x9, e_x9, hb10⟩ := ob2 hb8
      obtain ⟨x11, e_x11, hb12⟩ := ob2 hb10
      by_cases q : x11 = (-1 : Int32)
      · have hb13 := ip q hb12
        exact w0.tr (hg _ _ hb13)
      · have hb14 := iq q hb12
        obtain ⟨x15, e_x15, hb16⟩ := ob2 hb14
        obtain ⟨x17, e_x17, hb18⟩ := ob2 hb16
        obtain ⟨r19, e_r19, hb20⟩ := ob2 hb18
        have w21 := w0.tr (Text_ask_q e_r19)
        by_cases q : r19.1 = (1 : Int32)
        · have hb23 := ip q hb20
          exact w21.tr (hg _ _ hb23)
        · have hb22 := iq q hb20
          exact w21.tr (hg _ _ hb22)
    · have hb7 := iq q hb6
      exact w0.tr (hg _ _ hb7)
set_option maxHeartbeats 1000000 in
set_option maxRecDepth 100000 in
theorem Text_latestOf_51_r {g : (Nat × Int32 × Int32 × Int32 × Nat × Nat × am_H) → Option (Int32 × am_H)} (hg : ∀ s r, g s = some r → Eqs s.2.2.2.2.2.2 r.2) {v0 : Nat} {v1 : Int32} {v2 : Nat} {v3 : Int32} {v4 : Int32} {h : am_H} {r : (Int32 × am_H)} (hb : Text_latestOf_51_b g v0 v1 v2 v3 v4 h = some r) : Eqs h r.2 := by
  unfold Text_latestOf_51_b at hb
  have w0 := Eqs.rf h
  obtain ⟨x24, e_x24, hb25⟩ := ob2 hb
  obtain ⟨x26, e_x26, hb27⟩ := ob2 hb25
  obtain ⟨r28, e_r28, hb29⟩ := ob2 hb27
  have w30 := w0.tr (Text_ask_q e_r28)
  by_cases q : r28.1 = (-2147483648 : Int32)
  · have hb31 := ip q hb29
    exact w30.tr (hg _ _ hb31)
  · have hb32 := iq q hb29
    obtain rfl := Option.some.inj hb32
    exact w30
set_option maxHeartbeats 1000000 in
set_option maxRecDepth 100000 in
theorem Text_latestOf_77_r {g : (Nat × Int32 × Int32 × Int32 × Nat × Nat × am_H) → Option (Int32 × am_H)} (hg : ∀ s r, g s = some r → Eqs s.2.2.2.2.2.2 r.2) {v0 : Nat} {v1 : Int32} {v2 : Nat} {v3 : Int32} {v4 : Int32} {h : am_H} {r : (Int32 × am_H)} (hb : Text_latestOf_77_b g v0 v1 v2 v3 v4 h = some r) : Eqs h r.2 := by
  unfold Text_latestOf_77_b at hb
  have w0 := Eqs.rf h
  exact w0.tr (hg _ _ hb)
theorem Text_latestOf_8_Q : ∀ s r, fx Text_latestOf_8_F Text_latestOf_8_M s = some r → Eqs s.2.2.2.2.2.2 r.2 := fx_ind Text_latestOf_8_M (fun s r => Eqs s.2.2.2.2.2.2 r.2) (fun g hg s r hb => by
  unfold Text_latestOf_8_F at hb
  by_cases q0 : s.1 = 8
  · exact Text_latestOf_8_r hg (ip q0 hb)
  · have hb0 := iq q0 hb
    by_cases q1 : s.1 = 51
    · exact Text_latestOf_51_r hg (ip q1 hb0)
    · have hb1 := iq q1 hb0
      by_cases q2 : s.1 = 77
      · exact Text_latestOf_77_r hg (ip q2 hb1)
      · have hb2 := iq q2 hb1
        exact nomatch hb2)
noncomputable def Text_latestOf_8 (v0 : Nat) (v1 : Int32) (v2 : Nat) (v3 : Int32) (v4 : Int32) (h : am_H) : Option (Int32 × am_H) := fx Text_latestOf_8_F Text_latestOf_8_M (8, v1, v3, v4, v0, v2, h)
noncomputable def Text_latestOf_51 (v0 : Nat) (v1 : Int32) (v2 : Nat) (v3 : Int32) (v4 : Int32) (h : am_H) : Option (Int32 × am_H) := fx Text_latestOf_8_F Text_latestOf_8_M (51, v1, v3, v4, v0, v2, h)
noncomputable def Text_latestOf_77 (v0 : Nat) (v1 : Int32) (v2 : Nat) (v3 : Int32) (v4 : Int32) (h : am_H) : Option (Int32 × am_H) := fx Text_latestOf_8_F Text_latestOf_8_M (77, v1, v3, v4, v0, v2, h)
set_option maxHeartbeats 1000000 in
set_option maxRecDepth 100000 in
theorem Text_latestOf_8_e (v0 : Nat) (v1 : Int32) (v2 : Nat) (v3 : Int32) (v4 : Int32) (h : am_H) : Text_latestOf_8 v0 v1 v2 v3 v4 h = (if v4 < (0 : Int32) then some (v3, h) else (gR h 9 v0 3).bind fun x3 => (aI h 0 x3 v4).bind fun x5 => if x5 = v1 then (gR h 9 v0 5).bind fun x9 => (aI h 0 x9 v4).bind fun x11 => if x11 = (-1 : Int32) then Text_latestOf_51 v0 v1 v2 v3 v4 h else (gR h 9 v0 5).bind fun x15 => (aI h 0 x15 v4).bind fun x17 => (Text_ask v0 x17 v2 h).bind fun r19 => if r19.1 = (1 : Int32) then Text_latestOf_51 v0 v1 v2 v3 v4 r19.2 else Text_latestOf_77 v0 v1 v2 v3 v4 r19.2 else Text_latestOf_77 v0 v1 v2 v3 v4 h) := (fx_eq Text_latestOf_8_M (8, v1, v3, v4, v0, v2, h)).trans (if_pos rfl)
theorem Text_latestOf_8_q {v0 : Nat} {v1 : Int32} {v2 : Nat} {v3 : Int32} {v4 : Int32} {h : am_H} {r : (Int32 × am_H)} (hb : Text_latestOf_8 v0 v1 v2 v3 v4 h = some r) : Eqs h r.2 := Text_latestOf_8_Q _ _ hb
theorem Text_latestOf_8_s {v0 : Nat} {v1 : Int32} {v2 : Nat} {v3 : Int32} {v4 : Int32} {h : am_H} {r : (Int32 × am_H)} (hb : Text_latestOf_8 v0 v1 v2 v3 v4 h = some r) : Sx 2 mX9_latestOf 8 [.ref v0, .int v1, .ref v2, .int v3, .int v4, .retAddr 0] [] h (some (.int r.1)) r.2 := (Text_latestOf_8_T _ _ hb).1 rfl
set_option maxHeartbeats 1000000 in
set_option maxRecDepth 100000 in
theorem Text_latestOf_51_e (v0 : Nat) (v1 : Int32) (v2 : Nat) (v3 : Int32) (v4 : Int32) (h : am_H) : Text_latestOf_51 v0 v1 v2 v3 v4 h = ((gR h 9 v0 4).bind fun x24 => (aI h 0 x24 (v4 * (3 : Int32))).bind fun x26 => (Text_ask v0 x26 v2 h).bind fun r28 => if r28.1 = (-2147483648 : Int32) then Text_latestOf_77 v0 v1 v2 v3 v4 r28.2 else some (r28.1, r28.2)) := (fx_eq Text_latestOf_8_M (51, v1, v3, v4, v0, v2, h)).trans ((if_neg (show ¬ (51 : Nat) = 8 by decide)).trans (if_pos rfl))
theorem Text_latestOf_51_q {v0 : Nat} {v1 : Int32} {v2 : Nat} {v3 : Int32} {v4 : Int32} {h : am_H} {r : (Int32 × am_H)} (hb : Text_latestOf_51 v0 v1 v2 v3 v4 h = some r) : Eqs h r.2 := Text_latestOf_8_Q _ _ hb
theorem Text_latestOf_51_s {v0 : Nat} {v1 : Int32} {v2 : Nat} {v3 : Int32} {v4 : Int32} {h : am_H} {r : (Int32 × am_H)} (hb : Text_latestOf_51 v0 v1 v2 v3 v4 h = some r) : Sx 2 mX9_latestOf 51 [.ref v0, .int v1, .ref v2, .int v3, .int v4, .retAddr 0] [] h (some (.int r.1)) r.2 := (Text_latestOf_8_T _ _ hb).2.1 rfl
set_option maxHeartbeats 1000000 in
set_option maxRecDepth 100000 in
theorem Text_latestOf_77_e (v0 : Nat) (v1 : Int32) (v2 : Nat) (v3 : Int32) (v4 : Int32) (h : am_H) : Text_latestOf_77 v0 v1 v2 v3 v4 h = (Text_latestOf_8 v0 v1 v2 v3 (v4 + (-1 : Int32)) h) := (fx_eq Text_latestOf_8_M (77, v1, v3, v4, v0, v2, h)).trans ((if_neg (show ¬ (77 : Nat) = 8 by decide)).trans ((if_neg (show ¬ (77 : Nat) = 51 by decide)).trans (if_pos rfl)))
theorem Text_latestOf_77_q {v0 : Nat} {v1 : Int32} {v2 : Nat} {v3 : Int32} {v4 : Int32} {h : am_H} {r : (Int32 × am_H)} (hb : Text_latestOf_77 v0 v1 v2 v3 v4 h = some r) : Eqs h r.2 := Text_latestOf_8_Q _ _ hb
theorem Text_latestOf_77_s {v0 : Nat} {v1 : Int32} {v2 : Nat} {v3 : Int32} {v4 : Int32} {h : am_H} {r : (Int32 × am_H)} (hb : Text_latestOf_77 v0 v1 v2 v3 v4 h = some r) : Sx 2 mX9_latestOf 77 [.ref v0, .int v1, .ref v2, .int v3, .int v4, .retAddr 0] [] h (some (.int r.1)) r.2 := (Text_latestOf_8_T _ _ hb).2.2.1 rfl
set_option maxHeartbeats 1000000 in
set_option maxRecDepth 100000 in
noncomputable def Text_latestOf (v0 : Nat) (v1 : Int32) (v2 : Nat) (v3 : Int32) (h : am_H) : Option (Int32 × am_H) := if isO h 9 v0 = true then (gI h 9 v0 2).bind fun x33 => Text_latestOf_8 v0 v1 v2 v3 (x33 - (1 : Int32)) h else none
set_option maxHeartbeats 1000000 in
set_option maxRecDepth 100000 in
theorem Text_latestOf_s {v0 : Nat} {v1 : Int32} {v2 : Nat} {v3 : Int32} {h : am_H} {r : (Int32 × am_H)} (hb : Text_latestOf v0 v1 v2 v3 h = some r) : Sx 2 mX9_latestOf 0 (am_en [.ref v0, .int v1, .ref v2, .int v3] 6) [] h (some (.int r.1)) r.2 := by
  unfold Text_latestOf at hb
  have hb := (iz hb).2
  show Sx 2 mX9_latestOf 0 [.ref v0, .int v1, .ref v2, .int v3, .retAddr 0, .retAddr 0] [] h (some (.int r.1)) r.2
  refine Sx.o (fun _ _ _ k => ex_aload_n dX9_latestOf_0 rfl rfl k) ?_
  obtain ⟨x33, e_x33, hb34⟩ := ob2 hb
  refine Sx.o (fun _ _ _ k => op_getI fX9_45 dX9_latestOf_1 e_x33 k) ?_
  refine Sx.o (fun _ _ _ k => op_iconst (1 : Int32) dX9_latestOf_4 (by decide) k) ?_
  refine Sx.o (fun _ _ _ k => ex_isub dX9_latestOf_5 k) ?_
  refine Sx.o (L' := [.ref v0, .int v1, .ref v2, .int v3, .int (x33 - (1 : Int32)), .retAddr 0]) (fun _ _ _ k => ex_istore dX9_latestOf_6 (by decide) k) ?_
  exact Text_latestOf_8_s hb34
set_option maxHeartbeats 1000000 in
set_option maxRecDepth 100000 in
theorem Text_latestOf_q {v0 : Nat} {v1 : Int32} {v2 : Nat} {v3 : Int32} {h : am_H} {r : (Int32 × am_H)} (hb : Text_latestOf v0 v1 v2 v3 h = some r) : Eqs h r.2 := by
  unfold Text_latestOf at hb
  have hb := (iz hb).2
  have w0 := Eqs.rf h
  obtain ⟨x33, e_x33, hb34⟩ := ob2 hb
  exact w0.tr (Text_latestOf_8_q hb34)
theorem Text_latestOf_o {v0 : Nat} {v1 : Int32} {v2 : Nat} {v3 : Int32} {h : am_H} {r : (Int32 × am_H)} (hb : Text_latestOf v0 v1 v2 v3 h = some r) : isO h 9 v0 = true := by
  unfold Text_latestOf at hb
  exact (iz hb).1
set_option maxHeartbeats 1000000 in
set_option maxRecDepth 100000 in
noncomputable def Text_init (v0 : Nat) (h : am_H) : Option am_H := if isO h 9 v0 = true then (nA h 0 (512 : Int32)).bind fun h1 => (pV h1 9 v0 0 (.ref (List.length h))).bind fun h3 => (nA h3 0 (12 : Int32)).bind fun h6 => (pV h6 9 v0 3 (.ref (List.length h3))).bind fun h8 => (nA h8 0 (36 : Int32)).bind fun h11 => (pV h11 9 v0 4 (.ref (List.length h8))).bind fun h13 => (nA h13 0 (12 : Int32)).bind fun h16 => (pV h16 9 v0 5 (.ref (List.length h13))).bind fun h18 => (nA h18 0 (12 : Int32)).bind fun h21 => (pV h21 9 v0 6 (.ref (List.length h18))).bind fun h23 => (nA h23 0 (64 : Int32)).bind fun h26 => (pV h26 9 v0 7 (.ref (List.length h23))).bind fun h28 => some h28 else none
set_option maxHeartbeats 1000000 in
set_option maxRecDepth 100000 in
theorem Text_init_s {v0 : Nat} {h : am_H} {r : am_H} (hb : Text_init v0 h = some r) : Sx 1 mX9_init 0 (am_en [.ref v0] 1) [] h none r := by
  unfold Text_init at hb
  have hb := (iz hb).2
  show Sx 1 mX9_init 0 [.ref v0] [] h none r
  refine Sx.o (fun _ _ _ k => ex_aload_n dX9_init_0 rfl rfl k) ?_
  refine Sx.o (fun _ _ _ k => op_obj (by omega) dX9_init_1 kX9_5 (Nat.le_of_ble_eq_true rfl) k) ?_
  refine Sx.o (fun _ _ _ k => ex_aload_n dX9_init_4 rfl rfl k) ?_
  refine Sx.o (fun _ _ _ k => op_sipush (512 : Int32) dX9_init_5 (by decide) k) ?_
  obtain ⟨h1, e_h1, hb2⟩ := ob2 hb
  refine sx_newa (t := 0) (fun _ _ _ N c1 c2 c3 kk => ex_newa0 a_int dX9_init_8 c1 c2 c3 kk) e_h1 ?_
  obtain ⟨h3, e_h3, hb4⟩ := ob2 hb2
  refine Sx.p (pV_q e_h3) (fun _ _ _ k => op_put pX9_13 dX9_init_10 e_h3 (fun _ => rfl) (fun _ => rfl) k) ?_
  refine Sx.o (fun _ _ _ k => ex_aload_n dX9_init_13 rfl rfl k) ?_
  refine Sx.o (fun _ _ _ k => op_bipush (12 : Int32) dX9_init_14 (by decide) k) ?_
  obtain ⟨h6, e_h6, hb7⟩ := ob2 hb4
  refine sx_newa (t := 0) (fun _ _ _ N c1 c2 c3 kk => ex_newa0 a_int dX9_init_16 c1 c2 c3 kk) e_h6 ?_
  obtain ⟨h8, e_h8, hb9⟩ := ob2 hb7
  refine Sx.p (pV_q e_h8) (fun _ _ _ k => op_put pX9_17 dX9_init_18 e_h8 (fun _ => rfl) (fun _ => rfl) k) ?_
  refine Sx.o (fun _ _ _ k => ex_aload_n dX9_init_21 rfl rfl k) ?_
  refine Sx.o (fun _ _ _ k => op_bipush (36 : Int32) dX9_init_22 (by decide) k) ?_
  obtain ⟨h11, e_h11, hb12⟩ := ob2 hb9
  refine sx_newa (t := 0) (fun _ _ _ N c1 c2 c3 kk => ex_newa0 a_int dX9_init_24 c1 c2 c3 kk) e_h11 ?_
  obtain ⟨h13, e_h13, hb14⟩ := ob2 hb12
  refine Sx.p (pV_q e_h13) (fun _ _ _ k => op_put pX9_20 dX9_init_26 e_h13 (fun _ => rfl) (fun _ => rfl) k) ?_
  refine Sx.o (fun _ _ _ k => ex_aload_n dX9_init_29 rfl rfl k) ?_
  refine Sx.o (fun _ _ _ k => op_bipush (12 : Int32) dX9_init_30 (by decide) k) ?_
  obtain ⟨h16, e_h16, hb17⟩ := ob2 hb14
  refine sx_newa (t := 0) (fun _ _ _ N c1 c2 c3 kk => ex_newa0 a_int dX9_init_32 c1 c2 c3 kk) e_h16 ?_
  obtain ⟨h18, e_h18, hb19⟩ := ob2 hb17
  refine Sx.p (pV_q e_h18) (fun _ _ _ k => op_put pX9_23 dX9_init_34 e_h18 (fun _ => rfl) (fun _ => rfl) k) ?_
  refine Sx.o (fun _ _ _ k => ex_aload_n dX9_init_37 rfl rfl k) ?_
  refine Sx.o (fun _ _ _ k => op_bipush (12 : Int32) dX9_init_38 (by decide) k) ?_
  obtain ⟨h21, e_h21, hb22⟩ := ob2 hb19
  refine sx_newa (t := 0) (fun _ _ _ N c1 c2 c3 kk => ex_newa0 a_int dX9_init_40 c1 c2 c3 kk) e_h21 ?_
  obtain ⟨h23, e_h23, hb24⟩ := ob2 hb22
  refine Sx.p (pV_q e_h23) (fun _ _ _ k => op_put pX9_26 dX9_init_42 e_h23 (fun _ => rfl) (fun _ => rfl) k) ?_
  refine Sx.o (fun _ _ _ k => ex_aload_n dX9_init_45 rfl rfl k) ?_
  refine Sx.o (fun _ _ _ k => op_bipush (64 : Int32) dX9_init_46 (by decide) k) ?_
  obtain ⟨h26, e_h26, hb27⟩ := ob2 hb24
  refine sx_newa (t := 0) (fun _ _ _ N c1 c2 c3 kk => ex_newa0 a_int dX9_init_48 c1 c2 c3 kk) e_h26 ?_
  obtain ⟨h28, e_h28, hb29⟩ := ob2 hb27
  refine Sx.p (pV_q e_h28) (fun _ _ _ k => op_put pX9_29 dX9_init_50 e_h28 (fun _ => rfl) (fun _ => rfl) k) ?_
  obtain rfl := Option.some.inj hb29
  exact Sx.r (fun _ _ _ k => ex_vret rfl dX9_init_53 k)
theorem Text_init_o {v0 : Nat} {h : am_H} {r : am_H} (hb : Text_init v0 h = some r) : isO h 9 v0 = true := by
  unfold Text_init at hb
  exact (iz hb).1
set_option maxHeartbeats 1000000 in
set_option maxRecDepth 100000 in
noncomputable def Text_add (v0 : Nat) (v1 : Int32) (v2 : Int32) (h : am_H) : Option (Int32 × am_H) := if isO h 9 v0 = true then (gI h 9 v0 1).bind fun x1 => (gR h 9 v0 0).bind fun x3 => (aL h x3).bind fun x5 => if x5 ≤ x1 then (gI h 9 v0 1).bind fun x9 => some (x9 - (1 : Int32), h) else (gR h 9 v0 0).bind fun x11 => (gI h 9 v0 1).bind fun x13 => (sI h x11 x13 (v1 ||| (v2 <<< ((4 : Int32) &&& 31)))).bind fun h15 => (gI h15 9 v0 1).bind fun x18 => (pV h15 9 v0 1 (.int (x18 + (1 : Int32)))).bind fun h20 => (gI h20 9 v0 1).bind fun x23 => some (x23 - (1 : Int32), h20) else none
set_option maxHeartbeats 1000000 in
set_option maxRecDepth 100000 in
theorem Text_add_s {v0 : Nat} {v1 : Int32} {v2 : Int32} {h : am_H} {r : (Int32 × am_H)} (hb : Text_add v0 v1 v2 h = some r) : Sx 0 mX9_add 0 (am_en [.ref v0, .int v1, .int v2] 3) [] h (some (.int r.1)) r.2 := by
  unfold Text_add at hb
  have hb := (iz hb).2
  show Sx 0 mX9_add 0 [.ref v0, .int v1, .int v2] [] h (some (.int r.1)) r.2
  refine Sx.o (fun _ _ _ k => ex_aload_n dX9_add_0 rfl rfl k) ?_
  obtain ⟨x1, e_x1, hb2⟩ := ob2 hb
  refine Sx.o (fun _ _ _ k => op_getI fX9_32 dX9_add_1 e_x1 k) ?_
  refine Sx.o (fun _ _ _ k => ex_aload_n dX9_add_4 rfl rfl k) ?_
  obtain ⟨x3, e_x3, hb4⟩ := ob2 hb2
  refine Sx.o (fun _ _ _ k => op_getR fX9_13 dX9_add_5 e_x3 k) ?_
  obtain ⟨x5, e_x5, hb6⟩ := ob2 hb4
  refine Sx.o (fun _ _ _ k => op_alen dX9_add_8 e_x5 k) ?_
  refine Sx.b (fun _ _ _ k1 k2 => ex_icmp_ge 36 dX9_add_9 (by decide) k1 k2) (fun q => ?_) (fun q => ?_)
  · have hb7 := ip q hb6
    refine Sx.o (fun _ _ _ k => ex_aload_n dX9_add_36 rfl rfl k) ?_
    obtain ⟨x9, e_x9, hb10⟩ := ob2 hb7
    refine Sx.o (fun _ _ _ k => op_getI fX9_32 dX9_add_37 e_x9 k) ?_
    refine Sx.o (fun _ _ _ k => op_iconst (1 : Int32) dX9_add_40 (by decide) k) ?_
    refine Sx.o (fun _ _ _ k => ex_isub dX9_add_41 k) ?_
    obtain rfl := Option.some.inj hb10
    exact Sx.r (fun _ _ _ k => ex_iret rfl dX9_add_42 k)
  · have hb8 := iq q hb6
    refine Sx.o (fun _ _ _ k => ex_aload_n dX9_add_12 rfl rfl k) ?_
    obtain ⟨x11, e_x11, hb12⟩ := ob2 hb8
    refine Sx.o (fun _ _ _ k => op_getR fX9_13 dX9_add_13 e_x11 k) ?_
    refine Sx.o (fun _ _ _ k => ex_aload_n dX9_add_16 rfl rfl k) ?_
    obtain ⟨x13, e_x13, hb14⟩ := ob2 hb12
    refine Sx.o (fun _ _ _ k => op_getI fX9_32 dX9_add_17 e_x13 k) ?_
    refine Sx.o (fun _ _ _ k => ex_iload_n dX9_add_20 rfl k) ?_
    refine Sx.o (fun _ _ _ k => ex_iload_n dX9_add_21 rfl k) ?_
    refine Sx.o (fun _ _ _ k => op_iconst (4 : Int32) dX9_add_22 (by decide) k) ?_
    refine Sx.o (fun _ _ _ k => ex_ishl dX9_add_23 k) ?_
    refine Sx.o (fun _ _ _ k => ex_ior dX9_add_24 k) ?_
    obtain ⟨h15, e_h15, hb16⟩ := ob2 hb14
    refine Sx.p (sI_q e_h15) (fun _ _ _ k => op_iast dX9_add_25 e_h15 k) ?_
    refine Sx.o (fun _ _ _ k => ex_aload_n dX9_add_26 rfl rfl k) ?_
    refine Sx.o (fun _ _ _ k => ex_dup dX9_add_27 rfl k) ?_
    obtain ⟨x18, e_x18, hb19⟩ := ob2 hb16
    refine Sx.o (fun _ _ _ k => op_getI fX9_32 dX9_add_28 e_x18 k) ?_
    refine Sx.o (fun _ _ _ k => op_iconst (1 : Int32) dX9_add_31 (by decide) k) ?_
    refine Sx.o (fun _ _ _ k => ex_iadd dX9_add_32 k) ?_
    obtain ⟨h20, e_h20, hb21⟩ := ob2 hb19
    refine Sx.p (pV_q e_h20) (fun _ _ _ k => op_put pX9_32 dX9_add_33 e_h20 (fun _ => rfl) (fun _ => rfl) k) ?_
    refine Sx.o (fun _ _ _ k => ex_aload_n dX9_add_36 rfl rfl k) ?_
    obtain ⟨x23, e_x23, hb24⟩ := ob2 hb21
    refine Sx.o (fun _ _ _ k => op_getI fX9_32 dX9_add_37 e_x23 k) ?_
    refine Sx.o (fun _ _ _ k => op_iconst (1 : Int32) dX9_add_40 (by decide) k) ?_
    refine Sx.o (fun _ _ _ k => ex_isub dX9_add_41 k) ?_
    obtain rfl := Option.some.inj hb24
    exact Sx.r (fun _ _ _ k => ex_iret rfl dX9_add_42 k)
set_option maxHeartbeats 1000000 in
set_option maxRecDepth 100000 in
theorem Text_add_q {v0 : Nat} {v1 : Int32} {v2 : Int32} {h : am_H} {r : (Int32 × am_H)} (hb : Text_add v0 v1 v2 h = some r) : Eqs h r.2 := by
  unfold Text_add at hb
  have hb := (iz hb).2
  have w0 := Eqs.rf h
  obtain ⟨x1, e_x1, hb2⟩ := ob2 hb
  obtain ⟨x3, e_x3, hb4⟩ := ob2 hb2
  obtain ⟨x5, e_x5, hb6⟩ := ob2 hb4
  by_cases q : x5 ≤ x1
  · have hb7 := ip q hb6
    obtain ⟨x9, e_x9, hb10⟩ := ob2 hb7
    obtain rfl := Option.some.inj hb10
    exact w0
  · have hb8 := iq q hb6
    obtain ⟨x11, e_x11, hb12⟩ := ob2 hb8
    obtain ⟨x13, e_x13, hb14⟩ := ob2 hb12
    obtain ⟨h15, e_h15, hb16⟩ := ob2 hb14
    have w17 := w0.tr (sI_q e_h15)
    obtain ⟨x18, e_x18, hb19⟩ := ob2 hb16
    obtain ⟨h20, e_h20, hb21⟩ := ob2 hb19
    have w22 := w17.tr (pV_q e_h20)
    obtain ⟨x23, e_x23, hb24⟩ := ob2 hb21
    obtain rfl := Option.some.inj hb24
    exact w22
theorem Text_add_o {v0 : Nat} {v1 : Int32} {v2 : Int32} {h : am_H} {r : (Int32 × am_H)} (hb : Text_add v0 v1 v2 h = some r) : isO h 9 v0 = true := by
  unfold Text_add at hb
  exact (iz hb).1
set_option maxHeartbeats 1000000 in
set_option maxRecDepth 100000 in
noncomputable def Text_land (v0 : Nat) (v1 : Int32) (h : am_H) : Option am_H := if isO h 9 v0 = true then if v1 < (0 : Int32) then some h else (gI h 9 v0 1).bind fun x3 => if x3 ≤ v1 then some h else (gR h 9 v0 0).bind fun x7 => (gR h 9 v0 0).bind fun x9 => (aI h 0 x9 v1).bind fun x11 => (gI h 9 v0 1).bind fun x13 => (sI h x7 v1 ((x11 &&& (15 : Int32)) ||| (x13 <<< ((4 : Int32) &&& 31)))).bind fun h15 => some h15 else none
set_option maxHeartbeats 1000000 in
set_option maxRecDepth 100000 in
theorem Text_land_s {v0 : Nat} {v1 : Int32} {h : am_H} {r : am_H} (hb : Text_land v0 v1 h = some r) : Sx 0 mX9_land 0 (am_en [.ref v0, .int v1] 2) [] h none r := by
  unfold Text_land at hb
  have hb := (iz hb).2
  show Sx 0 mX9_land 0 [.ref v0, .int v1] [] h none r
  refine Sx.o (fun _ _ _ k => ex_iload_n dX9_land_0 rfl k) ?_
  refine Sx.b (fun _ _ _ k1 k2 => ex_if_lt 34 dX9_land_1 (by decide) k1 k2) (fun q => ?_) (fun q => ?_)
  · have hb1 := ip q hb
    obtain rfl := Option.some.inj hb1
    exact Sx.r (fun _ _ _ k => ex_vret rfl dX9_land_34 k)
  · have hb2 := iq q hb
    refine Sx.o (fun _ _ _ k => ex_iload_n dX9_land_4 rfl k) ?_
    refine Sx.o (fun _ _ _ k => ex_aload_n dX9_land_5 rfl rfl k) ?_
    obtain ⟨x3, e_x3, hb4⟩ := ob2 hb2
    refine Sx.o (fun _ _ _ k => op_getI fX9_32 dX9_land_6 e_x3 k) ?_
    refine Sx.b (fun _ _ _ k1 k2 => ex_icmp_ge 34 dX9_land_9 (by decide) k1 k2) (fun q => ?_) (fun q => ?_)
    · have hb5 := ip q hb4
      obtain rfl := Option.some.inj hb5
      exact Sx.r (fun _ _ _ k => ex_vret rfl dX9_land_34 k)
    · have hb6 := iq q hb4
      refine Sx.o (fun _ _ _ k => ex_aload_n dX9_land_12 rfl rfl k) ?_
      obtain ⟨x7, e_x7, hb8⟩ := ob2 hb6
      refine Sx.o (fun _ _ _ k => op_getR fX9_13 dX9_land_13 e_x7 k) ?_
      refine Sx.o (fun _ _ _ k => ex_iload_n dX9_land_16 rfl k) ?_
      refine Sx.o (fun _ _ _ k => ex_aload_n dX9_land_17 rfl rfl k) ?_
      obtain ⟨x9, e_x9, hb10⟩ := ob2 hb8
      refine Sx.o (fun _ _ _ k => op_getR fX9_13 dX9_land_18 e_x9 k) ?_
      refine Sx.o (fun _ _ _ k => ex_iload_n dX9_land_21 rfl k) ?_
      obtain ⟨x11, e_x11, hb12⟩ := ob2 hb10
      refine Sx.o (fun _ _ _ k => op_iald dX9_land_22 e_x11 k) ?_
      refine Sx.o (fun _ _ _ k => op_bipush (15 : Int32) dX9_land_23 (by decide) k) ?_
      refine Sx.o (fun _ _ _ k => ex_iand dX9_land_25 k) ?_
      refine Sx.o (fun _ _ _ k => ex_aload_n dX9_land_26 rfl rfl k) ?_
      obtain ⟨x13, e_x13, hb14⟩ := ob2 hb12
      refine Sx.o (fun _ _ _ k => op_getI fX9_32 dX9_land_27 e_x13 k) ?_
      refine Sx.o (fun _ _ _ k => op_iconst (4 : Int32) dX9_land_30 (by decide) k) ?_
      refine Sx.o (fun _ _ _ k => ex_ishl dX9_land_31 k) ?_
      refine Sx.o (fun _ _ _ k => ex_ior dX9_land_32 k) ?_
      obtain ⟨h15, e_h15, hb16⟩ := ob2 hb14
      refine Sx.p (sI_q e_h15) (fun _ _ _ k => op_iast dX9_land_33 e_h15 k) ?_
      obtain rfl := Option.some.inj hb16
      exact Sx.r (fun _ _ _ k => ex_vret rfl dX9_land_34 k)
set_option maxHeartbeats 1000000 in
set_option maxRecDepth 100000 in
theorem Text_land_q {v0 : Nat} {v1 : Int32} {h : am_H} {r : am_H} (hb : Text_land v0 v1 h = some r) : Eqs h r := by
  unfold Text_land at hb
  have hb := (iz hb).2
  have w0 := Eqs.rf h
  by_cases q : v1 < (0 : Int32)
  · have hb1 := ip q hb
    obtain rfl := Option.some.inj hb1
    exact w0
  · have hb2 := iq q hb
    obtain ⟨x3, e_x3, hb4⟩ := ob2 hb2
    by_cases q : x3 ≤ v1
    · have hb5 := ip q hb4
      obtain rfl := Option.some.inj hb5
      exact w0
    · have hb6 := iq q hb4
      obtain ⟨x7, e_x7, hb8⟩ := ob2 hb6
      obtain ⟨x9, e_x9, hb10⟩ := ob2 hb8
      obtain ⟨x11, e_x11, hb12⟩ := ob2 hb10
      obtain ⟨x13, e_x13, hb14⟩ := ob2 hb12
      obtain ⟨h15, e_h15, hb16⟩ := ob2 hb14
      have w17 := w0.tr (sI_q e_h15)
      obtain rfl := Option.some.inj hb16
      exact w17
theorem Text_land_o {v0 : Nat} {v1 : Int32} {h : am_H} {r : am_H} (hb : Text_land v0 v1 h = some r) : isO h 9 v0 = true := by
  unfold Text_land at hb
  exact (iz hb).1
set_option maxHeartbeats 1000000 in
set_option maxRecDepth 100000 in
noncomputable def Text_setTest (v0 : Nat) (h : am_H) : Option am_H := if isO h 9 v0 = true then (gI h 9 v0 2).bind fun x1 => if x1 ≤ (0 : Int32) then some h else (gR h 9 v0 5).bind fun x5 => (gI h 9 v0 2).bind fun x7 => (gI h 9 v0 1).bind fun x9 => (sI h x5 (x7 - (1 : Int32)) x9).bind fun h11 => some h11 else none
set_option maxHeartbeats 1000000 in
set_option maxRecDepth 100000 in
theorem Text_setTest_s {v0 : Nat} {h : am_H} {r : am_H} (hb : Text_setTest v0 h = some r) : Sx 0 mX9_setTest 0 (am_en [.ref v0] 1) [] h none r := by
  unfold Text_setTest at hb
  have hb := (iz hb).2
  show Sx 0 mX9_setTest 0 [.ref v0] [] h none r
  refine Sx.o (fun _ _ _ k => ex_aload_n dX9_setTest_0 rfl rfl k) ?_
  obtain ⟨x1, e_x1, hb2⟩ := ob2 hb
  refine Sx.o (fun _ _ _ k => op_getI fX9_45 dX9_setTest_1 e_x1 k) ?_
  refine Sx.b (fun _ _ _ k1 k2 => ex_if_le 22 dX9_setTest_4 (by decide) k1 k2) (fun q => ?_) (fun q => ?_)
  · have hb3 := ip q hb2
    obtain rfl := Option.some.inj hb3
    exact Sx.r (fun _ _ _ k => ex_vret rfl dX9_setTest_22 k)
  · have hb4 := iq q hb2
    refine Sx.o (fun _ _ _ k => ex_aload_n dX9_setTest_7 rfl rfl k) ?_
    obtain ⟨x5, e_x5, hb6⟩ := ob2 hb4
    refine Sx.o (fun _ _ _ k => op_getR fX9_23 dX9_setTest_8 e_x5 k) ?_
    refine Sx.o (fun _ _ _ k => ex_aload_n dX9_setTest_11 rfl rfl k) ?_
    obtain ⟨x7, e_x7, hb8⟩ := ob2 hb6
    refine Sx.o (fun _ _ _ k => op_getI fX9_45 dX9_setTest_12 e_x7 k) ?_
    refine Sx.o (fun _ _ _ k => op_iconst (1 : Int32) dX9_setTest_15 (by decide) k) ?_
    refine Sx.o (fun _ _ _ k => ex_isub dX9_setTest_16 k) ?_
    refine Sx.o (fun _ _ _ k => ex_aload_n dX9_setTest_17 rfl rfl k) ?_
    obtain ⟨x9, e_x9, hb10⟩ := ob2 hb8
    refine Sx.o (fun _ _ _ k => op_getI fX9_32 dX9_setTest_18 e_x9 k) ?_
    obtain ⟨h11, e_h11, hb12⟩ := ob2 hb10
    refine Sx.p (sI_q e_h11) (fun _ _ _ k => op_iast dX9_setTest_21 e_h11 k) ?_
    obtain rfl := Option.some.inj hb12
    exact Sx.r (fun _ _ _ k => ex_vret rfl dX9_setTest_22 k)
set_option maxHeartbeats 1000000 in
set_option maxRecDepth 100000 in
theorem Text_setTest_q {v0 : Nat} {h : am_H} {r : am_H} (hb : Text_setTest v0 h = some r) : Eqs h r := by
  unfold Text_setTest at hb
  have hb := (iz hb).2
  have w0 := Eqs.rf h
  obtain ⟨x1, e_x1, hb2⟩ := ob2 hb
  by_cases q : x1 ≤ (0 : Int32)
  · have hb3 := ip q hb2
    obtain rfl := Option.some.inj hb3
    exact w0
  · have hb4 := iq q hb2
    obtain ⟨x5, e_x5, hb6⟩ := ob2 hb4
    obtain ⟨x7, e_x7, hb8⟩ := ob2 hb6
    obtain ⟨x9, e_x9, hb10⟩ := ob2 hb8
    obtain ⟨h11, e_h11, hb12⟩ := ob2 hb10
    have w13 := w0.tr (sI_q e_h11)
    obtain rfl := Option.some.inj hb12
    exact w13
theorem Text_setTest_o {v0 : Nat} {h : am_H} {r : am_H} (hb : Text_setTest v0 h = some r) : isO h 9 v0 = true := by
  unfold Text_setTest at hb
  exact (iz hb).1
set_option maxHeartbeats 1000000 in
set_option maxRecDepth 100000 in
noncomputable def Text_setSum (v0 : Nat) (v1 : Int32) (h : am_H) : Option am_H := if isO h 9 v0 = true then (gI h 9 v0 2).bind fun x1 => if x1 ≤ (0 : Int32) then some h else if v1 < (0 : Int32) then some h else if (3 : Int32) ≤ v1 then some h else (gR h 9 v0 4).bind fun x9 => (gI h 9 v0 2).bind fun x11 => (gI h 9 v0 1).bind fun x13 => (sI h x9 (((x11 - (1 : Int32)) * (3 : Int32)) + v1) x13).bind fun h15 => some h15 else none
set_option maxHeartbeats 1000000 in
set_option maxRecDepth 100000 in
theorem Text_setSum_s {v0 : Nat} {v1 : Int32} {h : am_H} {r : am_H} (hb : Text_setSum v0 v1 h = some r) : Sx 0 mX9_setSum 0 (am_en [.ref v0, .int v1] 2) [] h none r := by
  unfold Text_setSum at hb
  have hb := (iz hb).2
  show Sx 0 mX9_setSum 0 [.ref v0, .int v1] [] h none r
  refine Sx.o (fun _ _ _ k => ex_aload_n dX9_setSum_0 rfl rfl k) ?_
  obtain ⟨x1, e_x1, hb2⟩ := ob2 hb
  refine Sx.o (fun _ _ _ k => op_getI fX9_45 dX9_setSum_1 e_x1 k) ?_
  refine Sx.b (fun _ _ _ k1 k2 => ex_if_le 35 dX9_setSum_4 (by decide) k1 k2) (fun q => ?_) (fun q => ?_)
  · have hb3 := ip q hb2
    obtain rfl := Option.some.inj hb3
    exact Sx.r (fun _ _ _ k => ex_vret rfl dX9_setSum_35 k)
  · have hb4 := iq q hb2
    refine Sx.o (fun _ _ _ k => ex_iload_n dX9_setSum_7 rfl k) ?_
    refine Sx.b (fun _ _ _ k1 k2 => ex_if_lt 35 dX9_setSum_8 (by decide) k1 k2) (fun q => ?_) (fun q => ?_)
    · have hb5 := ip q hb4
      obtain rfl := Option.some.inj hb5
      exact Sx.r (fun _ _ _ k => ex_vret rfl dX9_setSum_35 k)
    · have hb6 := iq q hb4
      refine Sx.o (fun _ _ _ k => ex_iload_n dX9_setSum_11 rfl k) ?_
      refine Sx.o (fun _ _ _ k => op_iconst (3 : Int32) dX9_setSum_12 (by decide) k) ?_
      refine Sx.b (fun _ _ _ k1 k2 => ex_icmp_ge 35 dX9_setSum_13 (by decide) k1 k2) (fun q => ?_) (fun q => ?_)
      · have hb7 := ip q hb6
        obtain rfl := Option.some.inj hb7
        exact Sx.r (fun _ _ _ k => ex_vret rfl dX9_setSum_35 k)
      · have hb8 := iq q hb6
        refine Sx.o (fun _ _ _ k => ex_aload_n dX9_setSum_16 rfl rfl k) ?_
        obtain ⟨x9, e_x9, hb10⟩ := ob2 hb8
        refine Sx.o (fun _ _ _ k => op_getR fX9_20 dX9_setSum_17 e_x9 k) ?_
        refine Sx.o (fun _ _ _ k => ex_aload_n dX9_setSum_20 rfl rfl k) ?_
        obtain ⟨x11, e_x11, hb12⟩ := ob2 hb10
        refine Sx.o (fun _ _ _ k => op_getI fX9_45 dX9_setSum_21 e_x11 k) ?_
        refine Sx.o (fun _ _ _ k => op_iconst (1 : Int32) dX9_setSum_24 (by decide) k) ?_
        refine Sx.o (fun _ _ _ k => ex_isub dX9_setSum_25 k) ?_
        refine Sx.o (fun _ _ _ k => op_iconst (3 : Int32) dX9_setSum_26 (by decide) k) ?_
        refine Sx.o (fun _ _ _ k => ex_imul dX9_setSum_27 k) ?_
        refine Sx.o (fun _ _ _ k => ex_iload_n dX9_setSum_28 rfl k) ?_
        refine Sx.o (fun _ _ _ k => ex_iadd dX9_setSum_29 k) ?_
        refine Sx.o (fun _ _ _ k => ex_aload_n dX9_setSum_30 rfl rfl k) ?_
        obtain ⟨x13, e_x13, hb14⟩ := ob2 hb12
        refine Sx.o (fun _ _ _ k => op_getI fX9_32 dX9_setSum_31 e_x13 k) ?_
        obtain ⟨h15, e_h15, hb16⟩ := ob2 hb14
        refine Sx.p (sI_q e_h15) (fun _ _ _ k => op_iast dX9_setSum_34 e_h15 k) ?_
        obtain rfl := Option.some.inj hb16
        exact Sx.r (fun _ _ _ k => ex_vret rfl dX9_setSum_35 k)
set_option maxHeartbeats 1000000 in
set_option maxRecDepth 100000 in
theorem Text_setSum_q {v0 : Nat} {v1 : Int32} {h : am_H} {r : am_H} (hb : Text_setSum v0 v1 h = some r) : Eqs h r := by
  unfold Text_setSum at hb
  have hb := (iz hb).2
  have w0 := Eqs.rf h
  obtain ⟨x1, e_x1, hb2⟩ := ob2 hb
  by_cases q : x1 ≤ (0 : Int32)
  · have hb3 := ip q hb2
    obtain rfl := Option.some.inj hb3
    exact w0
  · have hb4 := iq q hb2
    by_cases q : v1 < (0 : Int32)
    · have hb5 := ip q hb4
      obtain rfl := Option.some.inj hb5
      exact w0
    · have hb6 := iq q hb4
      by_cases q : (3 : Int32) ≤ v1
      · have hb7 := ip q hb6
        obtain rfl := Option.some.inj hb7
        exact w0
      · have hb8 := iq q hb6
        obtain ⟨x9, e_x9, hb10⟩ := ob2 hb8
        obtain ⟨x11, e_x11, hb12⟩ := ob2 hb10
        obtain ⟨x13, e_x13, hb14⟩ := ob2 hb12
        obtain ⟨h15, e_h15, hb16⟩ := ob2 hb14
        have w17 := w0.tr (sI_q e_h15)
        obtain rfl := Option.some.inj hb16
        exact w17
theorem Text_setSum_o {v0 : Nat} {v1 : Int32} {h : am_H} {r : am_H} (hb : Text_setSum v0 v1 h = some r) : isO h 9 v0 = true := by
  unfold Text_setSum at hb
  exact (iz hb).1
set_option maxHeartbeats 1000000 in
set_option maxRecDepth 100000 in
noncomputable def Text_setTimes (v0 : Nat) (v1 : Int32) (h : am_H) : Option am_H := if isO h 9 v0 = true then (gI h 9 v0 2).bind fun x1 => if x1 ≤ (0 : Int32) then some h else (gR h 9 v0 6).bind fun x5 => (gI h 9 v0 2).bind fun x7 => (sI h x5 (x7 - (1 : Int32)) v1).bind fun h9 => some h9 else none
set_option maxHeartbeats 1000000 in
set_option maxRecDepth 100000 in
theorem Text_setTimes_s {v0 : Nat} {v1 : Int32} {h : am_H} {r : am_H} (hb : Text_setTimes v0 v1 h = some r) : Sx 0 mX9_setTimes 0 (am_en [.ref v0, .int v1] 2) [] h none r := by
  unfold Text_setTimes at hb
  have hb := (iz hb).2
  show Sx 0 mX9_setTimes 0 [.ref v0, .int v1] [] h none r
  refine Sx.o (fun _ _ _ k => ex_aload_n dX9_setTimes_0 rfl rfl k) ?_
  obtain ⟨x1, e_x1, hb2⟩ := ob2 hb
  refine Sx.o (fun _ _ _ k => op_getI fX9_45 dX9_setTimes_1 e_x1 k) ?_
  refine Sx.b (fun _ _ _ k1 k2 => ex_if_le 19 dX9_setTimes_4 (by decide) k1 k2) (fun q => ?_) (fun q => ?_)
  · have hb3 := ip q hb2
    obtain rfl := Option.some.inj hb3
    exact Sx.r (fun _ _ _ k => ex_vret rfl dX9_setTimes_19 k)
  · have hb4 := iq q hb2
    refine Sx.o (fun _ _ _ k => ex_aload_n dX9_setTimes_7 rfl rfl k) ?_
    obtain ⟨x5, e_x5, hb6⟩ := ob2 hb4
    refine Sx.o (fun _ _ _ k => op_getR fX9_26 dX9_setTimes_8 e_x5 k) ?_
    refine Sx.o (fun _ _ _ k => ex_aload_n dX9_setTimes_11 rfl rfl k) ?_
    obtain ⟨x7, e_x7, hb8⟩ := ob2 hb6
    refine Sx.o (fun _ _ _ k => op_getI fX9_45 dX9_setTimes_12 e_x7 k) ?_
    refine Sx.o (fun _ _ _ k => op_iconst (1 : Int32) dX9_setTimes_15 (by decide) k) ?_
    refine Sx.o (fun _ _ _ k => ex_isub dX9_setTimes_16 k) ?_
    refine Sx.o (fun _ _ _ k => ex_iload_n dX9_setTimes_17 rfl k) ?_
    obtain ⟨h9, e_h9, hb10⟩ := ob2 hb8
    refine Sx.p (sI_q e_h9) (fun _ _ _ k => op_iast dX9_setTimes_18 e_h9 k) ?_
    obtain rfl := Option.some.inj hb10
    exact Sx.r (fun _ _ _ k => ex_vret rfl dX9_setTimes_19 k)
set_option maxHeartbeats 1000000 in
set_option maxRecDepth 100000 in
theorem Text_setTimes_q {v0 : Nat} {v1 : Int32} {h : am_H} {r : am_H} (hb : Text_setTimes v0 v1 h = some r) : Eqs h r := by
  unfold Text_setTimes at hb
  have hb := (iz hb).2
  have w0 := Eqs.rf h
  obtain ⟨x1, e_x1, hb2⟩ := ob2 hb
  by_cases q : x1 ≤ (0 : Int32)
  · have hb3 := ip q hb2
    obtain rfl := Option.some.inj hb3
    exact w0
  · have hb4 := iq q hb2
    obtain ⟨x5, e_x5, hb6⟩ := ob2 hb4
    obtain ⟨x7, e_x7, hb8⟩ := ob2 hb6
    obtain ⟨h9, e_h9, hb10⟩ := ob2 hb8
    have w11 := w0.tr (sI_q e_h9)
    obtain rfl := Option.some.inj hb10
    exact w11
theorem Text_setTimes_o {v0 : Nat} {v1 : Int32} {h : am_H} {r : am_H} (hb : Text_setTimes v0 v1 h = some r) : isO h 9 v0 = true := by
  unfold Text_setTimes at hb
  exact (iz hb).1
set_option maxHeartbeats 1000000 in
set_option maxRecDepth 100000 in
noncomputable def Text_begin (v0 : Nat) (v1 : Int32) (h : am_H) : Option am_H := if isO h 9 v0 = true then (gI h 9 v0 2).bind fun x1 => (gR h 9 v0 3).bind fun x3 => (aL h x3).bind fun x5 => if x5 ≤ x1 then some h else (gR h 9 v0 3).bind fun x9 => (gI h 9 v0 2).bind fun x11 => (sI h x9 x11 v1).bind fun h13 => (gR h13 9 v0 5).bind fun x16 => (gI h13 9 v0 2).bind fun x18 => (sI h13 x16 x18 (-1 : Int32)).bind fun h20 => (gR h20 9 v0 6).bind fun x23 => (gI h20 9 v0 2).bind fun x25 => (sI h20 x23 x25 (1 : Int32)).bind fun h27 => (gI h27 9 v0 2).bind fun x30 => (pV h27 9 v0 2 (.int (x30 + (1 : Int32)))).bind fun h32 => some h32 else none
set_option maxHeartbeats 1000000 in
set_option maxRecDepth 100000 in
theorem Text_begin_s {v0 : Nat} {v1 : Int32} {h : am_H} {r : am_H} (hb : Text_begin v0 v1 h = some r) : Sx 0 mX9_begin 0 (am_en [.ref v0, .int v1] 2) [] h none r := by
  unfold Text_begin at hb
  have hb := (iz hb).2
  show Sx 0 mX9_begin 0 [.ref v0, .int v1] [] h none r
  refine Sx.o (fun _ _ _ k => ex_aload_n dX9_begin_0 rfl rfl k) ?_
  obtain ⟨x1, e_x1, hb2⟩ := ob2 hb
  refine Sx.o (fun _ _ _ k => op_getI fX9_45 dX9_begin_1 e_x1 k) ?_
  refine Sx.o (fun _ _ _ k => ex_aload_n dX9_begin_4 rfl rfl k) ?_
  obtain ⟨x3, e_x3, hb4⟩ := ob2 hb2
  refine Sx.o (fun _ _ _ k => op_getR fX9_17 dX9_begin_5 e_x3 k) ?_
  obtain ⟨x5, e_x5, hb6⟩ := ob2 hb4
  refine Sx.o (fun _ _ _ k => op_alen dX9_begin_8 e_x5 k) ?_
  refine Sx.b (fun _ _ _ k1 k2 => ex_icmp_ge 52 dX9_begin_9 (by decide) k1 k2) (fun q => ?_) (fun q => ?_)
  · have hb7 := ip q hb6
    obtain rfl := Option.some.inj hb7
    exact Sx.r (fun _ _ _ k => ex_vret rfl dX9_begin_52 k)
  · have hb8 := iq q hb6
    refine Sx.o (fun _ _ _ k => ex_aload_n dX9_begin_12 rfl rfl k) ?_
    obtain ⟨x9, e_x9, hb10⟩ := ob2 hb8
    refine Sx.o (fun _ _ _ k => op_getR fX9_17 dX9_begin_13 e_x9 k) ?_
    refine Sx.o (fun _ _ _ k => ex_aload_n dX9_begin_16 rfl rfl k) ?_
    obtain ⟨x11, e_x11, hb12⟩ := ob2 hb10
    refine Sx.o (fun _ _ _ k => op_getI fX9_45 dX9_begin_17 e_x11 k) ?_
    refine Sx.o (fun _ _ _ k => ex_iload_n dX9_begin_20 rfl k) ?_
    obtain ⟨h13, e_h13, hb14⟩ := ob2 hb12
    refine Sx.p (sI_q e_h13) (fun _ _ _ k => op_iast dX9_begin_21 e_h13 k) ?_
    refine Sx.o (fun _ _ _ k => ex_aload_n dX9_begin_22 rfl rfl k) ?_
    obtain ⟨x16, e_x16, hb17⟩ := ob2 hb14
    refine Sx.o (fun _ _ _ k => op_getR fX9_23 dX9_begin_23 e_x16 k) ?_
    refine Sx.o (fun _ _ _ k => ex_aload_n dX9_begin_26 rfl rfl k) ?_
    obtain ⟨x18, e_x18, hb19⟩ := ob2 hb17
    refine Sx.o (fun _ _ _ k => op_getI fX9_45 dX9_begin_27 e_x18 k) ?_
    refine Sx.o (fun _ _ _ k => op_iconst (-1 : Int32) dX9_begin_30 (by decide) k) ?_
    obtain ⟨h20, e_h20, hb21⟩ := ob2 hb19
    refine Sx.p (sI_q e_h20) (fun _ _ _ k => op_iast dX9_begin_31 e_h20 k) ?_
    refine Sx.o (fun _ _ _ k => ex_aload_n dX9_begin_32 rfl rfl k) ?_
    obtain ⟨x23, e_x23, hb24⟩ := ob2 hb21
    refine Sx.o (fun _ _ _ k => op_getR fX9_26 dX9_begin_33 e_x23 k) ?_
    refine Sx.o (fun _ _ _ k => ex_aload_n dX9_begin_36 rfl rfl k) ?_
    obtain ⟨x25, e_x25, hb26⟩ := ob2 hb24
    refine Sx.o (fun _ _ _ k => op_getI fX9_45 dX9_begin_37 e_x25 k) ?_
    refine Sx.o (fun _ _ _ k => op_iconst (1 : Int32) dX9_begin_40 (by decide) k) ?_
    obtain ⟨h27, e_h27, hb28⟩ := ob2 hb26
    refine Sx.p (sI_q e_h27) (fun _ _ _ k => op_iast dX9_begin_41 e_h27 k) ?_
    refine Sx.o (fun _ _ _ k => ex_aload_n dX9_begin_42 rfl rfl k) ?_
    refine Sx.o (fun _ _ _ k => ex_dup dX9_begin_43 rfl k) ?_
    obtain ⟨x30, e_x30, hb31⟩ := ob2 hb28
    refine Sx.o (fun _ _ _ k => op_getI fX9_45 dX9_begin_44 e_x30 k) ?_
    refine Sx.o (fun _ _ _ k => op_iconst (1 : Int32) dX9_begin_47 (by decide) k) ?_
    refine Sx.o (fun _ _ _ k => ex_iadd dX9_begin_48 k) ?_
    obtain ⟨h32, e_h32, hb33⟩ := ob2 hb31
    refine Sx.p (pV_q e_h32) (fun _ _ _ k => op_put pX9_45 dX9_begin_49 e_h32 (fun _ => rfl) (fun _ => rfl) k) ?_
    obtain rfl := Option.some.inj hb33
    exact Sx.r (fun _ _ _ k => ex_vret rfl dX9_begin_52 k)
set_option maxHeartbeats 1000000 in
set_option maxRecDepth 100000 in
theorem Text_begin_q {v0 : Nat} {v1 : Int32} {h : am_H} {r : am_H} (hb : Text_begin v0 v1 h = some r) : Eqs h r := by
  unfold Text_begin at hb
  have hb := (iz hb).2
  have w0 := Eqs.rf h
  obtain ⟨x1, e_x1, hb2⟩ := ob2 hb
  obtain ⟨x3, e_x3, hb4⟩ := ob2 hb2
  obtain ⟨x5, e_x5, hb6⟩ := ob2 hb4
  by_cases q : x5 ≤ x1
  · have hb7 := ip q hb6
    obtain rfl := Option.some.inj hb7
    exact w0
  · have hb8 := iq q hb6
    obtain ⟨x9, e_x9, hb10⟩ := ob2 hb8
    obtain ⟨x11, e_x11, hb12⟩ := ob2 hb10
    obtain ⟨h13, e_h13, hb14⟩ := ob2 hb12
    have w15 := w0.tr (sI_q e_h13)
    obtain ⟨x16, e_x16, hb17⟩ := ob2 hb14
    obtain ⟨x18, e_x18, hb19⟩ := ob2 hb17
    obtain ⟨h20, e_h20, hb21⟩ := ob2 hb19
    have w22 := w15.tr (sI_q e_h20)
    obtain ⟨x23, e_x23, hb24⟩ := ob2 hb21
    obtain ⟨x25, e_x25, hb26⟩ := ob2 hb24
    obtain ⟨h27, e_h27, hb28⟩ := ob2 hb26
    have w29 := w22.tr (sI_q e_h27)
    obtain ⟨x30, e_x30, hb31⟩ := ob2 hb28
    obtain ⟨h32, e_h32, hb33⟩ := ob2 hb31
    have w34 := w29.tr (pV_q e_h32)
    obtain rfl := Option.some.inj hb33
    exact w34
theorem Text_begin_o {v0 : Nat} {v1 : Int32} {h : am_H} {r : am_H} (hb : Text_begin v0 v1 h = some r) : isO h 9 v0 = true := by
  unfold Text_begin at hb
  exact (iz hb).1
set_option maxHeartbeats 1000000 in
set_option maxRecDepth 100000 in
noncomputable def Text_clear (v0 : Nat) (h : am_H) : Option am_H := if isO h 9 v0 = true then (pV h 9 v0 1 (.int (0 : Int32))).bind fun h1 => (pV h1 9 v0 2 (.int (0 : Int32))).bind fun h4 => (pV h4 9 v0 8 (.int (0 : Int32))).bind fun h7 => some h7 else none
set_option maxHeartbeats 1000000 in
set_option maxRecDepth 100000 in
theorem Text_clear_s {v0 : Nat} {h : am_H} {r : am_H} (hb : Text_clear v0 h = some r) : Sx 0 mX9_clear 0 (am_en [.ref v0] 1) [] h none r := by
  unfold Text_clear at hb
  have hb := (iz hb).2
  show Sx 0 mX9_clear 0 [.ref v0] [] h none r
  refine Sx.o (fun _ _ _ k => ex_aload_n dX9_clear_0 rfl rfl k) ?_
  refine Sx.o (fun _ _ _ k => op_iconst (0 : Int32) dX9_clear_1 (by decide) k) ?_
  obtain ⟨h1, e_h1, hb2⟩ := ob2 hb
  refine Sx.p (pV_q e_h1) (fun _ _ _ k => op_put pX9_32 dX9_clear_2 e_h1 (fun _ => rfl) (fun _ => rfl) k) ?_
  refine Sx.o (fun _ _ _ k => ex_aload_n dX9_clear_5 rfl rfl k) ?_
  refine Sx.o (fun _ _ _ k => op_iconst (0 : Int32) dX9_clear_6 (by decide) k) ?_
  obtain ⟨h4, e_h4, hb5⟩ := ob2 hb2
  refine Sx.p (pV_q e_h4) (fun _ _ _ k => op_put pX9_45 dX9_clear_7 e_h4 (fun _ => rfl) (fun _ => rfl) k) ?_
  refine Sx.o (fun _ _ _ k => ex_aload_n dX9_clear_10 rfl rfl k) ?_
  refine Sx.o (fun _ _ _ k => op_iconst (0 : Int32) dX9_clear_11 (by decide) k) ?_
  obtain ⟨h7, e_h7, hb8⟩ := ob2 hb5
  refine Sx.p (pV_q e_h7) (fun _ _ _ k => op_put pX9_54 dX9_clear_12 e_h7 (fun _ => rfl) (fun _ => rfl) k) ?_
  obtain rfl := Option.some.inj hb8
  exact Sx.r (fun _ _ _ k => ex_vret rfl dX9_clear_15 k)
set_option maxHeartbeats 1000000 in
set_option maxRecDepth 100000 in
theorem Text_clear_q {v0 : Nat} {h : am_H} {r : am_H} (hb : Text_clear v0 h = some r) : Eqs h r := by
  unfold Text_clear at hb
  have hb := (iz hb).2
  have w0 := Eqs.rf h
  obtain ⟨h1, e_h1, hb2⟩ := ob2 hb
  have w3 := w0.tr (pV_q e_h1)
  obtain ⟨h4, e_h4, hb5⟩ := ob2 hb2
  have w6 := w3.tr (pV_q e_h4)
  obtain ⟨h7, e_h7, hb8⟩ := ob2 hb5
  have w9 := w6.tr (pV_q e_h7)
  obtain rfl := Option.some.inj hb8
  exact w9
theorem Text_clear_o {v0 : Nat} {h : am_H} {r : am_H} (hb : Text_clear v0 h = some r) : isO h 9 v0 = true := by
  unfold Text_clear at hb
  exact (iz hb).1
set_option maxHeartbeats 1000000 in
set_option maxRecDepth 100000 in
noncomputable def Text_init_ (v0 : Nat) (v1 : Nat) (h : am_H) : Option am_H := if isO h 9 v0 = true then (gI h 9 v1 1).bind fun x1 => (gR h 9 v1 0).bind fun x3 => (aL h x3).bind fun x5 => (pV h 9 v0 1 (.int (if (0 : Int32) < (if x5 < x1 then x5 else x1) then (if x5 < x1 then x5 else x1) else (0 : Int32)))).bind fun h7 => (gI h7 9 v1 2).bind fun x10 => (pV h7 9 v0 2 (.int (if (0 : Int32) < (if (12 : Int32) < x10 then (12 : Int32) else x10) then (if (12 : Int32) < x10 then (12 : Int32) else x10) else (0 : Int32)))).bind fun h12 => (gI h12 9 v0 1).bind fun x15 => (nA h12 0 x15).bind fun h17 => (pV h17 9 v0 0 (.ref (List.length h12))).bind fun h19 => (gR h19 9 v1 0).bind fun x22 => (gR h19 9 v0 0).bind fun x24 => (gI h19 9 v0 1).bind fun x26 => (cpy h19 x22 (0 : Int32) x24 (0 : Int32) x26).bind fun h28 => (gI h28 9 v0 2).bind fun x31 => (nA h28 0 x31).bind fun h33 => (pV h33 9 v0 3 (.ref (List.length h28))).bind fun h35 => (gR h35 9 v1 3).bind fun x38 => (gR h35 9 v0 3).bind fun x40 => (gI h35 9 v0 2).bind fun x42 => (cpy h35 x38 (0 : Int32) x40 (0 : Int32) x42).bind fun h44 => (gI h44 9 v0 2).bind fun x47 => (nA h44 0 (x47 * (3 : Int32))).bind fun h49 => (pV h49 9 v0 4 (.ref (List.length h44))).bind fun h51 => (gR h51 9 v1 4).bind fun x54 => (gR h51 9 v0 4).bind fun x56 => (gI h51 9 v0 2).bind fun x58 => (cpy h51 x54 (0 : Int32) x56 (0 : Int32) (x58 * (3 : Int32))).bind fun h60 => (gI h60 9 v0 2).bind fun x63 => (nA h60 0 x63).bind fun h65 => (pV h65 9 v0 5 (.ref (List.length h60))).bind fun h67 => (gR h67 9 v1 5).bind fun x70 => (gR h67 9 v0 5).bind fun x72 => (gI h67 9 v0 2).bind fun x74 => (cpy h67 x70 (0 : Int32) x72 (0 : Int32) x74).bind fun h76 => (gI h76 9 v0 2).bind fun x79 => (nA h76 0 x79).bind fun h81 => (pV h81 9 v0 6 (.ref (List.length h76))).bind fun h83 => (gR h83 9 v1 6).bind fun x86 => (gR h83 9 v0 6).bind fun x88 => (gI h83 9 v0 2).bind fun x90 => (cpy h83 x86 (0 : Int32) x88 (0 : Int32) x90).bind fun h92 => (gR h92 9 v1 7).bind fun x95 => (pV h92 9 v0 7 (.ref x95)).bind fun h97 => (gI h97 9 v1 8).bind fun x100 => (nrZ x100).bind fun u102 => (pV h97 9 v0 8 (.int x100)).bind fun h104 => some h104 else none
set_option maxHeartbeats 1000000 in
set_option maxRecDepth 100000 in
theorem Text_init__s {v0 : Nat} {v1 : Nat} {h : am_H} {r : am_H} (hb : Text_init_ v0 v1 h = some r) : Sx 1 mX9_init_ 0 (am_en [.ref v0, .ref v1] 2) [] h none r := by
  unfold Text_init_ at hb
  have hb := (iz hb).2
  show Sx 1 mX9_init_ 0 [.ref v0, .ref v1] [] h none r
  refine Sx.o (fun _ _ _ k => ex_aload_n dX9_init__0 rfl rfl k) ?_
  refine Sx.o (fun _ _ _ k => op_obj (by omega) dX9_init__1 kX9_5 (Nat.le_of_ble_eq_true rfl) k) ?_
  refine Sx.o (fun _ _ _ k => ex_aload_n dX9_init__4 rfl rfl k) ?_
  refine Sx.o (fun _ _ _ k => op_iconst (0 : Int32) dX9_init__5 (by decide) k) ?_
  refine Sx.o (fun _ _ _ k => ex_aload_n dX9_init__6 rfl rfl k) ?_
  obtain ⟨x1, e_x1, hb2⟩ := ob2 hb
  refine Sx.o (fun _ _ _ k => op_getI fX9_32 dX9_init__7 e_x1 k) ?_
  refine Sx.o (fun _ _ _ k => ex_aload_n dX9_init__10 rfl rfl k) ?_
  obtain ⟨x3, e_x3, hb4⟩ := ob2 hb2
  refine Sx.o (fun _ _ _ k => op_getR fX9_13 dX9_init__11 e_x3 k) ?_
  obtain ⟨x5, e_x5, hb6⟩ := ob2 hb4
  refine Sx.o (fun _ _ _ k => op_alen dX9_init__14 e_x5 k) ?_
  refine Sx.o (fun _ _ _ k => op_mmin (by omega) dX9_init__15 kX9_36 (Nat.le_of_ble_eq_true rfl) k) ?_
  refine Sx.o (fun _ _ _ k => op_mmax (by omega) dX9_init__18 kX9_42 (Nat.le_of_ble_eq_true rfl) k) ?_
  obtain ⟨h7, e_h7, hb8⟩ := ob2 hb6
  refine Sx.p (pV_q e_h7) (fun _ _ _ k => op_put pX9_32 dX9_init__21 e_h7 (fun _ => rfl) (fun _ => rfl) k) ?_
  refine Sx.o (fun _ _ _ k => ex_aload_n dX9_init__24 rfl rfl k) ?_
  refine Sx.o (fun _ _ _ k => op_iconst (0 : Int32) dX9_init__25 (by decide) k) ?_
  refine Sx.o (fun _ _ _ k => ex_aload_n dX9_init__26 rfl rfl k) ?_
  obtain ⟨x10, e_x10, hb11⟩ := ob2 hb8
  refine Sx.o (fun _ _ _ k => op_getI fX9_45 dX9_init__27 e_x10 k) ?_
  refine Sx.o (fun _ _ _ k => op_bipush (12 : Int32) dX9_init__30 (by decide) k) ?_
  refine Sx.o (fun _ _ _ k => op_mmin (by omega) dX9_init__32 kX9_36 (Nat.le_of_ble_eq_true rfl) k) ?_
  refine Sx.o (fun _ _ _ k => op_mmax (by omega) dX9_init__35 kX9_42 (Nat.le_of_ble_eq_true rfl) k) ?_
  obtain ⟨h12, e_h12, hb13⟩ := ob2 hb11
  refine Sx.p (pV_q e_h12) (fun _ _ _ k => op_put pX9_45 dX9_init__38 e_h12 (fun _ => rfl) (fun _ => rfl) k) ?_
  refine Sx.o (fun _ _ _ k => ex_aload_n dX9_init__41 rfl rfl k) ?_
  refine Sx.o (fun _ _ _ k => ex_aload_n dX9_init__42 rfl rfl k) ?_
  obtain ⟨x15, e_x15, hb16⟩ := ob2 hb13
  refine Sx.o (fun _ _ _ k => op_getI fX9_32 dX9_init__43 e_x15 k) ?_
  obtain ⟨h17, e_h17, hb18⟩ := ob2 hb16
  refine sx_newa (t := 0) (fun _ _ _ N c1 c2 c3 kk => ex_newa0 a_int dX9_init__46 c1 c2 c3 kk) e_h17 ?_
  obtain ⟨h19, e_h19, hb20⟩ := ob2 hb18
  refine Sx.p (pV_q e_h19) (fun _ _ _ k => op_put pX9_13 dX9_init__48 e_h19 (fun _ => rfl) (fun _ => rfl) k) ?_
  refine Sx.o (fun _ _ _ k => ex_aload_n dX9_init__51 rfl rfl k) ?_
  obtain ⟨x22, e_x22, hb23⟩ := ob2 hb20
  refine Sx.o (fun _ _ _ k => op_getR fX9_13 dX9_init__52 e_x22 k) ?_
  refine Sx.o (fun _ _ _ k => op_iconst (0 : Int32) dX9_init__55 (by decide) k) ?_
  refine Sx.o (fun _ _ _ k => ex_aload_n dX9_init__56 rfl rfl k) ?_
  obtain ⟨x24, e_x24, hb25⟩ := ob2 hb23
  refine Sx.o (fun _ _ _ k => op_getR fX9_13 dX9_init__57 e_x24 k) ?_
  refine Sx.o (fun _ _ _ k => op_iconst (0 : Int32) dX9_init__60 (by decide) k) ?_
  refine Sx.o (fun _ _ _ k => ex_aload_n dX9_init__61 rfl rfl k) ?_
  obtain ⟨x26, e_x26, hb27⟩ := ob2 hb25
  refine Sx.o (fun _ _ _ k => op_getI fX9_32 dX9_init__62 e_x26 k) ?_
  obtain ⟨h28, e_h28, hb29⟩ := ob2 hb27
  refine Sx.p (cpy_q e_h28) (fun _ _ _ k => op_cpy (by omega) dX9_init__65 kX9_48 (Nat.le_of_ble_eq_true rfl) e_h28 k) ?_
  refine Sx.o (fun _ _ _ k => ex_aload_n dX9_init__68 rfl rfl k) ?_
  refine Sx.o (fun _ _ _ k => ex_aload_n dX9_init__69 rfl rfl k) ?_
  obtain ⟨x31, e_x31, hb32⟩ := ob2 hb29
  refine Sx.o (fun _ _ _ k => op_getI fX9_45 dX9_init__70 e_x31 k) ?_
  obtain ⟨h33, e_h33, hb34⟩ := ob2 hb32
  refine sx_newa (t := 0) (fun _ _ _ N c1 c2 c3 kk => ex_newa0 a_int dX9_init__73 c1 c2 c3 kk) e_h33 ?_
  obtain ⟨h35, e_h35, hb36⟩ := ob2 hb34
  refine Sx.p (pV_q e_h35) (fun _ _ _ k => op_put pX9_17 dX9_init__75 e_h35 (fun _ => rfl) (fun _ => rfl) k) ?_
  refine Sx.o (fun _ _ _ k => ex_aload_n dX9_init__78 rfl rfl k) ?_
  obtain ⟨x38, e_x38, hb39⟩ := ob2 hb36
  refine Sx.o (fun _ _ _ k => op_getR fX9_17 dX9_init__79 e_x38 k) ?_
  refine Sx.o (fun _ _ _ k => op_iconst (0 : Int32) dX9_init__82 (by decide) k) ?_
  refine Sx.o (fun _ _ _ k => ex_aload_n dX9_init__83 rfl rfl k) ?_
  obtain ⟨x40, e_x40, hb41⟩ := ob2 hb39
  refine Sx.o (fun _ _ _ k => op_getR fX9_17 dX9_init__84 e_x40 k) ?_
  refine Sx.o (fun _ _ _ k => op_iconst (0 : Int32) dX9_init__87 (by decide) k) ?_
  refine Sx.o (fun _ _ _ k => ex_aload_n dX9_init__88 rfl rfl k) ?_
  obtain ⟨x42, e_x42, hb43⟩ := ob2 hb41
  refine Sx.o (fun _ _ _ k => op_getI fX9_45 dX9_init__89 e_x42 k) ?_
  obtain ⟨h44, e_h44, hb45⟩ := ob2 hb43
  refine Sx.p (cpy_q e_h44) (fun _ _ _ k => op_cpy (by omega) dX9_init__92 kX9_48 (Nat.le_of_ble_eq_true rfl) e_h44 k) ?_
  refine Sx.o (fun _ _ _ k => ex_aload_n dX9_init__95 rfl rfl k) ?_
  refine Sx.o (fun _ _ _ k => ex_aload_n dX9_init__96 rfl rfl k) ?_
  obtain ⟨x47, e_x47, hb48⟩ := ob2 hb45
  refine Sx.o (fun _ _ _ k => op_getI fX9_45 dX9_init__97 e_x47 k) ?_
  refine Sx.o (fun _ _ _ k => op_iconst (3 : Int32) dX9_init__100 (by decide) k) ?_
  refine Sx.o (fun _ _ _ k => ex_imul dX9_init__101 k) ?_
  obtain ⟨h49, e_h49, hb50⟩ := ob2 hb48
  refine sx_newa (t := 0) (fun _ _ _ N c1 c2 c3 kk => ex_newa0 a_int dX9_init__102 c1 c2 c3 kk) e_h49 ?_
  obtain ⟨h51, e_h51, hb52⟩ := ob2 hb50
  refine Sx.p (pV_q e_h51) (fun _ _ _ k => op_put pX9_20 dX9_init__104 e_h51 (fun _ => rfl) (fun _ => rfl) k) ?_
  refine Sx.o (fun _ _ _ k => ex_aload_n dX9_init__107 rfl rfl k) ?_
  obtain ⟨x54, e_x54, hb55⟩ := ob2 hb52
  refine Sx.o (fun _ _ _ k => op_getR fX9_20 dX9_init__108 e_x54 k) ?_
  refine Sx.o (fun _ _ _ k => op_iconst (0 : Int32) dX9_init__111 (by decide) k) ?_
  refine Sx.o (fun _ _ _ k => ex_aload_n dX9_init__112 rfl rfl k) ?_
  obtain ⟨x56, e_x56, hb57⟩ := ob2 hb55
  refine Sx.o (fun _ _ _ k => op_getR fX9_20 dX9_init__113 e_x56 k) ?_
  refine Sx.o (fun _ _ _ k => op_iconst (0 : Int32) dX9_init__116 (by decide) k) ?_
  refine Sx.o (fun _ _ _ k => ex_aload_n dX9_init__117 rfl rfl k) ?_
  obtain ⟨x58, e_x58, hb59⟩ := ob2 hb57
  refine Sx.o (fun _ _ _ k => op_getI fX9_45 dX9_init__118 e_x58 k) ?_
  refine Sx.o (fun _ _ _ k => op_iconst (3 : Int32) dX9_init__121 (by decide) k) ?_
  refine Sx.o (fun _ _ _ k => ex_imul dX9_init__122 k) ?_
  obtain ⟨h60, e_h60, hb61⟩ := ob2 hb59
  refine Sx.p (cpy_q e_h60) (fun _ _ _ k => op_cpy (by omega) dX9_init__123 kX9_48 (Nat.le_of_ble_eq_true rfl) e_h60 k) ?_
  refine Sx.o (fun _ _ _ k => ex_aload_n dX9_init__126 rfl rfl k) ?_
  refine Sx.o (fun _ _ _ k => ex_aload_n dX9_init__127 rfl rfl k) ?_
  obtain ⟨x63, e_x63, hb64⟩ := ob2 hb61
  refine Sx.o (fun _ _ _ k => op_getI fX9_45 dX9_init__128 e_x63 k) ?_
  obtain ⟨h65, e_h65, hb66⟩ := ob2 hb64
  refine sx_newa (t := 0) (fun _ _ _ N c1 c2 c3 kk => ex_newa0 a_int dX9_init__131 c1 c2 c3 kk) e_h65 ?_
  obtain ⟨h67, e_h67, hb68⟩ := ob2 hb66
  refine Sx.p (pV_q e_h67) (fun _ _ _ k => op_put pX9_23 dX9_init__133 e_h67 (fun _ => rfl) (fun _ => rfl) k) ?_
  refine Sx.o (fun _ _ _ k => ex_aload_n dX9_init__136 rfl rfl k) ?_
  obtain ⟨x70, e_x70, hb71⟩ := ob2 hb68
  refine Sx.o (fun _ _ _ k => op_getR fX9_23 dX9_init__137 e_x70 k) ?_
  refine Sx.o (fun _ _ _ k => op_iconst (0 : Int32) dX9_init__140 (by decide) k) ?_
  refine Sx.o (fun _ _ _ k => ex_aload_n dX9_init__141 rfl rfl k) ?_
  obtain ⟨x72, e_x72, hb73⟩ := ob2 hb71
  refine Sx.o (fun _ _ _ k => op_getR fX9_23 dX9_init__142 e_x72 k) ?_
  refine Sx.o (fun _ _ _ k => op_iconst (0 : Int32) dX9_init__145 (by decide) k) ?_
  refine Sx.o (fun _ _ _ k => ex_aload_n dX9_init__146 rfl rfl k) ?_
  obtain ⟨x74, e_x74, hb75⟩ := ob2 hb73
  refine Sx.o (fun _ _ _ k => op_getI fX9_45 dX9_init__147 e_x74 k) ?_
  obtain ⟨h76, e_h76, hb77⟩ := ob2 hb75
  refine Sx.p (cpy_q e_h76) (fun _ _ _ k => op_cpy (by omega) dX9_init__150 kX9_48 (Nat.le_of_ble_eq_true rfl) e_h76 k) ?_
  refine Sx.o (fun _ _ _ k => ex_aload_n dX9_init__153 rfl rfl k) ?_
  refine Sx.o (fun _ _ _ k => ex_aload_n dX9_init__154 rfl rfl k) ?_
  obtain ⟨x79, e_x79, hb80⟩ := ob2 hb77
  refine Sx.o (fun _ _ _ k => op_getI fX9_45 dX9_init__155 e_x79 k) ?_
  obtain ⟨h81, e_h81, hb82⟩ := ob2 hb80
  refine sx_newa (t := 0) (fun _ _ _ N c1 c2 c3 kk => ex_newa0 a_int dX9_init__158 c1 c2 c3 kk) e_h81 ?_
  obtain ⟨h83, e_h83, hb84⟩ := ob2 hb82
  refine Sx.p (pV_q e_h83) (fun _ _ _ k => op_put pX9_26 dX9_init__160 e_h83 (fun _ => rfl) (fun _ => rfl) k) ?_
  refine Sx.o (fun _ _ _ k => ex_aload_n dX9_init__163 rfl rfl k) ?_
  obtain ⟨x86, e_x86, hb87⟩ := ob2 hb84
  refine Sx.o (fun _ _ _ k => op_getR fX9_26 dX9_init__164 e_x86 k) ?_
  refine Sx.o (fun _ _ _ k => op_iconst (0 : Int32) dX9_init__167 (by decide) k) ?_
  refine Sx.o (fun _ _ _ k => ex_aload_n dX9_init__168 rfl rfl k) ?_
  obtain ⟨x88, e_x88, hb89⟩ := ob2 hb87
  refine Sx.o (fun _ _ _ k => op_getR fX9_26 dX9_init__169 e_x88 k) ?_
  refine Sx.o (fun _ _ _ k => op_iconst (0 : Int32) dX9_init__172 (by decide) k) ?_
  refine Sx.o (fun _ _ _ k => ex_aload_n dX9_init__173 rfl rfl k) ?_
  obtain ⟨x90, e_x90, hb91⟩ := ob2 hb89
  refine Sx.o (fun _ _ _ k => op_getI fX9_45 dX9_init__174 e_x90 k) ?_
  obtain ⟨h92, e_h92, hb93⟩ := ob2 hb91
  refine Sx.p (cpy_q e_h92) (fun _ _ _ k => op_cpy (by omega) dX9_init__177 kX9_48 (Nat.le_of_ble_eq_true rfl) e_h92 k) ?_
  refine Sx.o (fun _ _ _ k => ex_aload_n dX9_init__180 rfl rfl k) ?_
  refine Sx.o (fun _ _ _ k => ex_aload_n dX9_init__181 rfl rfl k) ?_
  obtain ⟨x95, e_x95, hb96⟩ := ob2 hb93
  refine Sx.o (fun _ _ _ k => op_getR fX9_29 dX9_init__182 e_x95 k) ?_
  obtain ⟨h97, e_h97, hb98⟩ := ob2 hb96
  refine Sx.p (pV_q e_h97) (fun _ _ _ k => op_put pX9_29 dX9_init__185 e_h97 (fun _ => rfl) (fun _ => rfl) k) ?_
  refine Sx.o (fun _ _ _ k => ex_aload_n dX9_init__188 rfl rfl k) ?_
  refine Sx.o (fun _ _ _ k => ex_aload_n dX9_init__189 rfl rfl k) ?_
  obtain ⟨x100, e_x100, hb101⟩ := ob2 hb98
  refine Sx.o (fun _ _ _ k => op_getI fX9_54 dX9_init__190 e_x100 k) ?_
  obtain ⟨u102, e_u102, hb103⟩ := ob2 hb101
  obtain ⟨h104, e_h104, hb105⟩ := ob2 hb103
  refine Sx.p (pV_q e_h104) (fun _ _ _ k => op_put pX9_54 dX9_init__193 e_h104 (fun _ => nrZ_n e_u102) (fun _ => nrZ_f e_u102) k) ?_
  obtain rfl := Option.some.inj hb105
  exact Sx.r (fun _ _ _ k => ex_vret rfl dX9_init__196 k)
theorem Text_init__o {v0 : Nat} {v1 : Nat} {h : am_H} {r : am_H} (hb : Text_init_ v0 v1 h = some r) : isO h 9 v0 = true := by
  unfold Text_init_ at hb
  exact (iz hb).1
set_option maxHeartbeats 1000000 in
set_option maxRecDepth 100000 in
noncomputable def Text_trimmed (v0 : Nat) (h : am_H) : Option (Nat × am_H) := if isO h 9 v0 = true then (some (h ++ [.inr (9, [.null, .int 0, .int 0, .null, .null, .null, .null, .null, .int 0])])).bind fun h1 => (Text_init_ (List.length h) v0 h1).bind fun h3 => some ((List.length h), h3) else none
set_option maxHeartbeats 1000000 in
set_option maxRecDepth 100000 in
theorem Text_trimmed_s {v0 : Nat} {h : am_H} {r : (Nat × am_H)} (hb : Text_trimmed v0 h = some r) : Sx 2 mX9_trimmed 0 (am_en [.ref v0] 1) [] h (some (.ref r.1)) r.2 := by
  unfold Text_trimmed at hb
  have hb := (iz hb).2
  show Sx 2 mX9_trimmed 0 [.ref v0] [] h (some (.ref r.1)) r.2
  obtain ⟨h1, e_h1, hb2⟩ := ob2 hb
  have e2_h1 := Option.some.inj e_h1
  refine Sx.nw (N := 9) rfl (fun _ _ _ k => ex_new nX9_11 dX9_trimmed_0 k) ?_
  rw [e2_h1]
  refine Sx.o (fun _ _ _ k => ex_dup dX9_trimmed_3 rfl k) ?_
  refine Sx.o (fun _ _ _ k => ex_aload_n dX9_trimmed_4 rfl rfl k) ?_
  obtain ⟨h3, e_h3, hb4⟩ := ob2 hb2
  refine sx_callI (as := [.ref v0]) (by omega) dX9_trimmed_5 MX9_init_ rfl rfl kX9_58 iX9_init_ rfl rfl (Nat.le_of_ble_eq_true rfl) (Nat.le_of_ble_eq_true rfl) (Text_init__s e_h3) ?_
  obtain rfl := Option.some.inj hb4
  exact Sx.r (fun _ _ _ k => ex_aret rfl rfl dX9_trimmed_8 k)
theorem Text_trimmed_o {v0 : Nat} {h : am_H} {r : (Nat × am_H)} (hb : Text_trimmed v0 h = some r) : isO h 9 v0 = true := by
  unfold Text_trimmed at hb
  exact (iz hb).1
set_option maxHeartbeats 1000000 in
set_option maxRecDepth 100000 in
noncomputable def Text_isSo (v0 : Nat) (v1 : Int32) (v2 : Nat) (h : am_H) : Option (Int32 × am_H) := if isO h 9 v0 = true then if v1 < (0 : Int32) then some ((0 : Int32), h) else (gI h 9 v0 2).bind fun x3 => if v1 < x3 then (gR h 9 v0 5).bind fun x7 => (aI h 0 x7 v1).bind fun x9 => if x9 = (-1 : Int32) then some ((1 : Int32), h) else (gR h 9 v0 5).bind fun x13 => (aI h 0 x13 v1).bind fun x15 => (Text_ask v0 x15 v2 h).bind fun r17 => if r17.1 = (1 : Int32) then some ((1 : Int32), r17.2) else some ((0 : Int32), r17.2) else some ((0 : Int32), h) else none
set_option maxHeartbeats 1000000 in
set_option maxRecDepth 100000 in
theorem Text_isSo_s {v0 : Nat} {v1 : Int32} {v2 : Nat} {h : am_H} {r : (Int32 × am_H)} (hb : Text_isSo v0 v1 v2 h = some r) : Sx 2 mX9_isSo 0 (am_en [.ref v0, .int v1, .ref v2] 3) [] h (some (.int r.1)) r.2 := by
  unfold Text_isSo at hb
  have hb := (iz hb).2
  show Sx 2 mX9_isSo 0 [.ref v0, .int v1, .ref v2] [] h (some (.int r.1)) r.2
  refine Sx.o (fun _ _ _ k => ex_iload_n dX9_isSo_0 rfl k) ?_
  refine Sx.b (fun _ _ _ k1 k2 => ex_if_lt 12 dX9_isSo_1 (by decide) k1 k2) (fun q => ?_) (fun q => ?_)
  · have hb1 := ip q hb
    refine Sx.o (fun _ _ _ k => op_iconst (0 : Int32) dX9_isSo_12 (by decide) k) ?_
    obtain rfl := Option.some.inj hb1
    exact Sx.r (fun _ _ _ k => ex_zret rfl rfl dX9_isSo_13 k)
  · have hb2 := iq q hb
    refine Sx.o (fun _ _ _ k => ex_iload_n dX9_isSo_4 rfl k) ?_
    refine Sx.o (fun _ _ _ k => ex_aload_n dX9_isSo_5 rfl rfl k) ?_
    obtain ⟨x3, e_x3, hb4⟩ := ob2 hb2
    refine Sx.o (fun _ _ _ k => op_getI fX9_45 dX9_isSo_6 e_x3 k) ?_
    refine Sx.b (fun _ _ _ k1 k2 => ex_icmp_lt 14 dX9_isSo_9 (by decide) k1 k2) (fun q => ?_) (fun q => ?_)
    · have hb5 := ip q hb4
      refine Sx.o (fun _ _ _ k => ex_aload_n dX9_isSo_14 rfl rfl k) ?_
      obtain ⟨x7, e_x7, hb8⟩ := ob2 hb5
      refine Sx.o (fun _ _ _ k => op_getR fX9_23 dX9_isSo_15 e_x7 k) ?_
      refine Sx.o (fun _ _ _ k => ex_iload_n dX9_isSo_18 rfl k) ?_
      obtain ⟨x9, e_x9, hb10⟩ := ob2 hb8
      refine Sx.o (fun _ _ _ k => op_iald dX9_isSo_19 e_x9 k) ?_
      refine Sx.o (fun _ _ _ k => op_iconst (-1 : Int32) dX9_isSo_20 (by decide) k) ?_
      refine Sx.b (fun _ _ _ k1 k2 => ex_icmp_eq 39 dX9_isSo_21 (by decide) k1 k2) (fun q => ?_) (fun q => ?_)
      · have hb11 := ip q hb10
        refine Sx.o (fun _ _ _ k => op_iconst (1 : Int32) dX9_isSo_39 (by decide) k) ?_
        refine Sx.o (fun _ _ _ k => ex_goto 44 dX9_isSo_40 (by decide) k) ?_
        obtain rfl := Option.some.inj hb11
        exact Sx.r (fun _ _ _ k => ex_zret rfl rfl dX9_isSo_44 k)
      · have hb12 := iq q hb10
        refine Sx.o (fun _ _ _ k => ex_aload_n dX9_isSo_24 rfl rfl k) ?_
        refine Sx.o (fun _ _ _ k => ex_aload_n dX9_isSo_25 rfl rfl k) ?_
        obtain ⟨x13, e_x13, hb14⟩ := ob2 hb12
        refine Sx.o (fun _ _ _ k => op_getR fX9_23 dX9_isSo_26 e_x13 k) ?_
        refine Sx.o (fun _ _ _ k => ex_iload_n dX9_isSo_29 rfl k) ?_
        obtain ⟨x15, e_x15, hb16⟩ := ob2 hb14
        refine Sx.o (fun _ _ _ k => op_iald dX9_isSo_30 e_x15 k) ?_
        refine Sx.o (fun _ _ _ k => ex_aload_n dX9_isSo_31 rfl rfl k) ?_
        obtain ⟨r17, e_r17, hb18⟩ := ob2 hb16
        refine sx_callV (dc := 1) (as := [.int x15, .ref v2]) (stq := [.int r17.1]) (by omega) dX9_isSo_32 MX9_ask kX9_61 iX9_ask sX9_ask rfl rfl (Text_ask_o e_r17) rfl rfl (Nat.le_of_ble_eq_true rfl) (Nat.le_of_ble_eq_true rfl) (Text_ask_s e_r17) rfl ?_
        refine Sx.o (fun _ _ _ k => op_iconst (1 : Int32) dX9_isSo_35 (by decide) k) ?_
        refine Sx.bn (fun _ _ _ k1 k2 => ex_icmp_ne 43 dX9_isSo_36 (by decide) k1 k2) (fun q => ?_) (fun q => ?_)
        · have hb20 := iq q hb18
          refine Sx.o (fun _ _ _ k => op_iconst (0 : Int32) dX9_isSo_43 (by decide) k) ?_
          obtain rfl := Option.some.inj hb20
          exact Sx.r (fun _ _ _ k => ex_zret rfl rfl dX9_isSo_44 k)
        · have hb21 := ip q hb18
          refine Sx.o (fun _ _ _ k => op_iconst (1 : Int32) dX9_isSo_39 (by decide) k) ?_
          refine Sx.o (fun _ _ _ k => ex_goto 44 dX9_isSo_40 (by decide) k) ?_
          obtain rfl := Option.some.inj hb21
          exact Sx.r (fun _ _ _ k => ex_zret rfl rfl dX9_isSo_44 k)
    · have hb6 := iq q hb4
      refine Sx.o (fun _ _ _ k => op_iconst (0 : Int32) dX9_isSo_12 (by decide) k) ?_
      obtain rfl := Option.some.inj hb6
      exact Sx.r (fun _ _ _ k => ex_zret rfl rfl dX9_isSo_13 k)
set_option maxHeartbeats 1000000 in
set_option maxRecDepth 100000 in
theorem Text_isSo_q {v0 : Nat} {v1 : Int32} {v2 : Nat} {h : am_H} {r : (Int32 × am_H)} (hb : Text_isSo v0 v1 v2 h = some r) : Eqs h r.2 := by
  unfold Text_isSo at hb
  have hb := (iz hb).2
  have w0 := Eqs.rf h
  by_cases q : v1 < (0 : Int32)
  · have hb1 := ip q hb
    obtain rfl := Option.some.inj hb1
    exact w0
  · have hb2 := iq q hb
    obtain ⟨x3, e_x3, hb4⟩ := ob2 hb2
    by_cases q : v1 < x3
    · have hb5 := ip q hb4
      obtain ⟨x7, e_x7, hb8⟩ := ob2 hb5
      obtain ⟨x9, e_x9, hb10⟩ := ob2 hb8
      by_cases q : x9 = (-1 : Int32)
      · have hb11 := ip q hb10
        obtain rfl := Option.some.inj hb11
        exact w0
      · have hb12 := iq q hb10
        obtain ⟨x13, e_x13, hb14⟩ := ob2 hb12
        obtain ⟨x15, e_x15, hb16⟩ := ob2 hb14
        obtain ⟨r17, e_r17, hb18⟩ := ob2 hb16
        have w19 := w0.tr (Text_ask_q e_r17)
        by_cases q : r17.1 = (1 : Int32)
        · have hb21 := ip q hb18
          obtain rfl := Option.some.inj hb21
          exact w19
        · have hb20 := iq q hb18
          obtain rfl := Option.some.inj hb20
          exact w19
    · have hb6 := iq q hb4
      obtain rfl := Option.some.inj hb6
      exact w0
theorem Text_isSo_o {v0 : Nat} {v1 : Int32} {v2 : Nat} {h : am_H} {r : (Int32 × am_H)} (hb : Text_isSo v0 v1 v2 h = some r) : isO h 9 v0 = true := by
  unfold Text_isSo at hb
  exact (iz hb).1
set_option maxHeartbeats 1000000 in
set_option maxRecDepth 100000 in
noncomputable def Text_kindOf (v0 : Nat) (v1 : Int32) (h : am_H) : Option Int32 := if isO h 9 v0 = true then if v1 < (0 : Int32) then some (-1 : Int32) else (gI h 9 v0 2).bind fun x3 => if x3 ≤ v1 then some (-1 : Int32) else (gR h 9 v0 3).bind fun x7 => (aI h 0 x7 v1).bind fun x9 => some x9 else none
set_option maxHeartbeats 1000000 in
set_option maxRecDepth 100000 in
theorem Text_kindOf_s {v0 : Nat} {v1 : Int32} {h : am_H} {r : Int32} (hb : Text_kindOf v0 v1 h = some r) : Sx 0 mX9_kindOf 0 (am_en [.ref v0, .int v1] 2) [] h (some (.int r)) h := by
  unfold Text_kindOf at hb
  have hb := (iz hb).2
  show Sx 0 mX9_kindOf 0 [.ref v0, .int v1] [] h (some (.int r)) h
  refine Sx.o (fun _ _ _ k => ex_iload_n dX9_kindOf_0 rfl k) ?_
  refine Sx.b (fun _ _ _ k1 k2 => ex_if_lt 21 dX9_kindOf_1 (by decide) k1 k2) (fun q => ?_) (fun q => ?_)
  · have hb1 := ip q hb
    refine Sx.o (fun _ _ _ k => op_iconst (-1 : Int32) dX9_kindOf_21 (by decide) k) ?_
    obtain rfl := Option.some.inj hb1
    exact Sx.r (fun _ _ _ k => ex_iret rfl dX9_kindOf_22 k)
  · have hb2 := iq q hb
    refine Sx.o (fun _ _ _ k => ex_iload_n dX9_kindOf_4 rfl k) ?_
    refine Sx.o (fun _ _ _ k => ex_aload_n dX9_kindOf_5 rfl rfl k) ?_
    obtain ⟨x3, e_x3, hb4⟩ := ob2 hb2
    refine Sx.o (fun _ _ _ k => op_getI fX9_45 dX9_kindOf_6 e_x3 k) ?_
    refine Sx.b (fun _ _ _ k1 k2 => ex_icmp_ge 21 dX9_kindOf_9 (by decide) k1 k2) (fun q => ?_) (fun q => ?_)
    · have hb5 := ip q hb4
      refine Sx.o (fun _ _ _ k => op_iconst (-1 : Int32) dX9_kindOf_21 (by decide) k) ?_
      obtain rfl := Option.some.inj hb5
      exact Sx.r (fun _ _ _ k => ex_iret rfl dX9_kindOf_22 k)
    · have hb6 := iq q hb4
      refine Sx.o (fun _ _ _ k => ex_aload_n dX9_kindOf_12 rfl rfl k) ?_
      obtain ⟨x7, e_x7, hb8⟩ := ob2 hb6
      refine Sx.o (fun _ _ _ k => op_getR fX9_17 dX9_kindOf_13 e_x7 k) ?_
      refine Sx.o (fun _ _ _ k => ex_iload_n dX9_kindOf_16 rfl k) ?_
      obtain ⟨x9, e_x9, hb10⟩ := ob2 hb8
      refine Sx.o (fun _ _ _ k => op_iald dX9_kindOf_17 e_x9 k) ?_
      refine Sx.o (fun _ _ _ k => ex_goto 22 dX9_kindOf_18 (by decide) k) ?_
      obtain rfl := Option.some.inj hb10
      exact Sx.r (fun _ _ _ k => ex_iret rfl dX9_kindOf_22 k)
theorem Text_kindOf_o {v0 : Nat} {v1 : Int32} {h : am_H} {r : Int32} (hb : Text_kindOf v0 v1 h = some r) : isO h 9 v0 = true := by
  unfold Text_kindOf at hb
  exact (iz hb).1
set_option maxHeartbeats 1000000 in
set_option maxRecDepth 100000 in
noncomputable def Text_sumOf (v0 : Nat) (v1 : Int32) (v2 : Int32) (v3 : Nat) (h : am_H) : Option (Int32 × am_H) := if isO h 9 v0 = true then if v1 < (0 : Int32) then some ((-2147483648 : Int32), h) else (gI h 9 v0 2).bind fun x3 => if x3 ≤ v1 then some ((-2147483648 : Int32), h) else if v2 < (0 : Int32) then some ((-2147483648 : Int32), h) else if v2 < (3 : Int32) then (gR h 9 v0 4).bind fun x11 => (aI h 0 x11 ((v1 * (3 : Int32)) + v2)).bind fun x13 => (Text_ask v0 x13 v3 h).bind fun r15 => some (r15.1, r15.2) else some ((-2147483648 : Int32), h) else none
set_option maxHeartbeats 1000000 in
set_option maxRecDepth 100000 in
theorem Text_sumOf_s {v0 : Nat} {v1 : Int32} {v2 : Int32} {v3 : Nat} {h : am_H} {r : (Int32 × am_H)} (hb : Text_sumOf v0 v1 v2 v3 h = some r) : Sx 2 mX9_sumOf 0 (am_en [.ref v0, .int v1, .int v2, .ref v3] 4) [] h (some (.int r.1)) r.2 := by
  unfold Text_sumOf at hb
  have hb := (iz hb).2
  show Sx 2 mX9_sumOf 0 [.ref v0, .int v1, .int v2, .ref v3] [] h (some (.int r.1)) r.2
  refine Sx.o (fun _ _ _ k => ex_iload_n dX9_sumOf_0 rfl k) ?_
  refine Sx.b (fun _ _ _ k1 k2 => ex_if_lt 21 dX9_sumOf_1 (by decide) k1 k2) (fun q => ?_) (fun q => ?_)
  · have hb1 := ip q hb
    refine Sx.o (fun _ _ _ k => ex_ldc dX9_sumOf_21 qX9_65 k) ?_
    obtain rfl := Option.some.inj hb1
    exact Sx.r (fun _ _ _ k => ex_iret rfl dX9_sumOf_23 k)
  · have hb2 := iq q hb
    refine Sx.o (fun _ _ _ k => ex_iload_n dX9_sumOf_4 rfl k) ?_
    refine Sx.o (fun _ _ _ k => ex_aload_n dX9_sumOf_5 rfl rfl k) ?_
    obtain ⟨x3, e_x3, hb4⟩ := ob2 hb2
    refine Sx.o (fun _ _ _ k => op_getI fX9_45 dX9_sumOf_6 e_x3 k) ?_
    refine Sx.b (fun _ _ _ k1 k2 => ex_icmp_ge 21 dX9_sumOf_9 (by decide) k1 k2) (fun q => ?_) (fun q => ?_)
    · have hb5 := ip q hb4
      refine Sx.o (fun _ _ _ k => ex_ldc dX9_sumOf_21 qX9_65 k) ?_
      obtain rfl := Option.some.inj hb5
      exact Sx.r (fun _ _ _ k => ex_iret rfl dX9_sumOf_23 k)
    · have hb6 := iq q hb4
      refine Sx.o (fun _ _ _ k => ex_iload_n dX9_sumOf_12 rfl k) ?_
      refine Sx.b (fun _ _ _ k1 k2 => ex_if_lt 21 dX9_sumOf_13 (by decide) k1 k2) (fun q => ?_) (fun q => ?_)
      · have hb7 := ip q hb6
        refine Sx.o (fun _ _ _ k => ex_ldc dX9_sumOf_21 qX9_65 k) ?_
        obtain rfl := Option.some.inj hb7
        exact Sx.r (fun _ _ _ k => ex_iret rfl dX9_sumOf_23 k)
      · have hb8 := iq q hb6
        refine Sx.o (fun _ _ _ k => ex_iload_n dX9_sumOf_16 rfl k) ?_
        refine Sx.o (fun _ _ _ k => op_iconst (3 : Int32) dX9_sumOf_17 (by decide) k) ?_
        refine Sx.b (fun _ _ _ k1 k2 => ex_icmp_lt 24 dX9_sumOf_18 (by decide) k1 k2) (fun q => ?_) (fun q => ?_)
        · have hb9 := ip q hb8
          refine Sx.o (fun _ _ _ k => ex_aload_n dX9_sumOf_24 rfl rfl k) ?_
          refine Sx.o (fun _ _ _ k => ex_aload_n dX9_sumOf_25 rfl rfl k) ?_
          obtain ⟨x11, e_x11, hb12⟩ := ob2 hb9
          refine Sx.o (fun _ _ _ k => op_getR fX9_20 dX9_sumOf_26 e_x11 k) ?_
          refine Sx.o (fun _ _ _ k => ex_iload_n dX9_sumOf_29 rfl k) ?_
          refine Sx.o (fun _ _ _ k => op_iconst (3 : Int32) dX9_sumOf_30 (by decide) k) ?_
          refine Sx.o (fun _ _ _ k => ex_imul dX9_sumOf_31 k) ?_
          refine Sx.o (fun _ _ _ k => ex_iload_n dX9_sumOf_32 rfl k) ?_
          refine Sx.o (fun _ _ _ k => ex_iadd dX9_sumOf_33 k) ?_
          obtain ⟨x13, e_x13, hb14⟩ := ob2 hb12
          refine Sx.o (fun _ _ _ k => op_iald dX9_sumOf_34 e_x13 k) ?_
          refine Sx.o (fun _ _ _ k => ex_aload_n dX9_sumOf_35 rfl rfl k) ?_
          obtain ⟨r15, e_r15, hb16⟩ := ob2 hb14
          refine sx_callV (dc := 1) (as := [.int x13, .ref v3]) (stq := [.int r15.1]) (by omega) dX9_sumOf_36 MX9_ask kX9_61 iX9_ask sX9_ask rfl rfl (Text_ask_o e_r15) rfl rfl (Nat.le_of_ble_eq_true rfl) (Nat.le_of_ble_eq_true rfl) (Text_ask_s e_r15) rfl ?_
          obtain rfl := Option.some.inj hb16
          exact Sx.r (fun _ _ _ k => ex_iret rfl dX9_sumOf_39 k)
        · have hb10 := iq q hb8
          refine Sx.o (fun _ _ _ k => ex_ldc dX9_sumOf_21 qX9_65 k) ?_
          obtain rfl := Option.some.inj hb10
          exact Sx.r (fun _ _ _ k => ex_iret rfl dX9_sumOf_23 k)
set_option maxHeartbeats 1000000 in
set_option maxRecDepth 100000 in
theorem Text_sumOf_q {v0 : Nat} {v1 : Int32} {v2 : Int32} {v3 : Nat} {h : am_H} {r : (Int32 × am_H)} (hb : Text_sumOf v0 v1 v2 v3 h = some r) : Eqs h r.2 := by
  unfold Text_sumOf at hb
  have hb := (iz hb).2
  have w0 := Eqs.rf h
  by_cases q : v1 < (0 : Int32)
  · have hb1 := ip q hb
    obtain rfl := Option.some.inj hb1
    exact w0
  · have hb2 := iq q hb
    obtain ⟨x3, e_x3, hb4⟩ := ob2 hb2
    by_cases q : x3 ≤ v1
    · have hb5 := ip q hb4
      obtain rfl := Option.some.inj hb5
      exact w0
    · have hb6 := iq q hb4
      by_cases q : v2 < (0 : Int32)
      · have hb7 := ip q hb6
        obtain rfl := Option.some.inj hb7
        exact w0
      · have hb8 := iq q hb6
        by_cases q : v2 < (3 : Int32)
        · have hb9 := ip q hb8
          obtain ⟨x11, e_x11, hb12⟩ := ob2 hb9
          obtain ⟨x13, e_x13, hb14⟩ := ob2 hb12
          obtain ⟨r15, e_r15, hb16⟩ := ob2 hb14
          have w17 := w0.tr (Text_ask_q e_r15)
          obtain rfl := Option.some.inj hb16
          exact w17
        · have hb10 := iq q hb8
          obtain rfl := Option.some.inj hb10
          exact w0
theorem Text_sumOf_o {v0 : Nat} {v1 : Int32} {v2 : Int32} {v3 : Nat} {h : am_H} {r : (Int32 × am_H)} (hb : Text_sumOf v0 v1 v2 v3 h = some r) : isO h 9 v0 = true := by
  unfold Text_sumOf at hb
  exact (iz hb).1
set_option maxHeartbeats 1000000 in
set_option maxRecDepth 100000 in
noncomputable def Text_timesOf (v0 : Nat) (v1 : Int32) (h : am_H) : Option Int32 := if isO h 9 v0 = true then if v1 < (0 : Int32) then some (0 : Int32) else (gI h 9 v0 2).bind fun x3 => if x3 ≤ v1 then some (0 : Int32) else (gR h 9 v0 6).bind fun x7 => (aI h 0 x7 v1).bind fun x9 => some x9 else none
set_option maxHeartbeats 1000000 in
set_option maxRecDepth 100000 in
theorem Text_timesOf_s {v0 : Nat} {v1 : Int32} {h : am_H} {r : Int32} (hb : Text_timesOf v0 v1 h = some r) : Sx 0 mX9_timesOf 0 (am_en [.ref v0, .int v1] 2) [] h (some (.int r)) h := by
  unfold Text_timesOf at hb
  have hb := (iz hb).2
  show Sx 0 mX9_timesOf 0 [.ref v0, .int v1] [] h (some (.int r)) h
  refine Sx.o (fun _ _ _ k => ex_iload_n dX9_timesOf_0 rfl k) ?_
  refine Sx.b (fun _ _ _ k1 k2 => ex_if_lt 21 dX9_timesOf_1 (by decide) k1 k2) (fun q => ?_) (fun q => ?_)
  · have hb1 := ip q hb
    refine Sx.o (fun _ _ _ k => op_iconst (0 : Int32) dX9_timesOf_21 (by decide) k) ?_
    obtain rfl := Option.some.inj hb1
    exact Sx.r (fun _ _ _ k => ex_iret rfl dX9_timesOf_22 k)
  · have hb2 := iq q hb
    refine Sx.o (fun _ _ _ k => ex_iload_n dX9_timesOf_4 rfl k) ?_
    refine Sx.o (fun _ _ _ k => ex_aload_n dX9_timesOf_5 rfl rfl k) ?_
    obtain ⟨x3, e_x3, hb4⟩ := ob2 hb2
    refine Sx.o (fun _ _ _ k => op_getI fX9_45 dX9_timesOf_6 e_x3 k) ?_
    refine Sx.b (fun _ _ _ k1 k2 => ex_icmp_ge 21 dX9_timesOf_9 (by decide) k1 k2) (fun q => ?_) (fun q => ?_)
    · have hb5 := ip q hb4
      refine Sx.o (fun _ _ _ k => op_iconst (0 : Int32) dX9_timesOf_21 (by decide) k) ?_
      obtain rfl := Option.some.inj hb5
      exact Sx.r (fun _ _ _ k => ex_iret rfl dX9_timesOf_22 k)
    · have hb6 := iq q hb4
      refine Sx.o (fun _ _ _ k => ex_aload_n dX9_timesOf_12 rfl rfl k) ?_
      obtain ⟨x7, e_x7, hb8⟩ := ob2 hb6
      refine Sx.o (fun _ _ _ k => op_getR fX9_26 dX9_timesOf_13 e_x7 k) ?_
      refine Sx.o (fun _ _ _ k => ex_iload_n dX9_timesOf_16 rfl k) ?_
      obtain ⟨x9, e_x9, hb10⟩ := ob2 hb8
      refine Sx.o (fun _ _ _ k => op_iald dX9_timesOf_17 e_x9 k) ?_
      refine Sx.o (fun _ _ _ k => ex_goto 22 dX9_timesOf_18 (by decide) k) ?_
      obtain rfl := Option.some.inj hb10
      exact Sx.r (fun _ _ _ k => ex_iret rfl dX9_timesOf_22 k)
theorem Text_timesOf_o {v0 : Nat} {v1 : Int32} {h : am_H} {r : Int32} (hb : Text_timesOf v0 v1 h = some r) : isO h 9 v0 = true := by
  unfold Text_timesOf at hb
  exact (iz hb).1
