/-! the reference: its methods as functions (by wip/whole/dec.py) -/
set_option maxHeartbeats 1000000 in
set_option maxRecDepth 100000 in
noncomputable def Ref_tells_192_b (g : (Nat × Int32 × Int32 × Int32 × Int32 × Int64 × Int64 × Nat × Nat × am_H) → Option (Int64 × am_H)) (v0 : Nat) (v1 : Int32) (v4 : Int64) (h : am_H) : Option (Int64 × am_H) := (gI h 12 v0 21).bind fun x1 => (gI h 12 v0 22).bind fun x3 => if x3 ≤ x1 then some (v4, h) else (gI h 12 v0 21).bind fun x7 => (Ref_codeAt v0 x7 h).bind fun x9 => (pV h 12 v0 23 (.int (0 : Int32))).bind fun h11 => (gI h11 12 v0 21).bind fun x14 => (pV h11 12 v0 21 (.int (x14 + (1 : Int32)))).bind fun h16 => if x9 = (3 : Int32) then g (243, v1, x9, 0, 0, v4, (1 : Int64), v0, 0, h16) else (Ref_sumOf 40 v0 (1 : Int32) h16).bind fun r21 => g (243, v1, x9, 0, 0, v4, r21.1, v0, 0, r21.2)
set_option maxHeartbeats 1000000 in
set_option maxRecDepth 100000 in
theorem Ref_tells_192_m {g g2 : (Nat × Int32 × Int32 × Int32 × Int32 × Int64 × Int64 × Nat × Nat × am_H) → Option (Int64 × am_H)} (hg : ∀ s, Le (g s) (g2 s)) (v0 : Nat) (v1 : Int32) (v4 : Int64) (h : am_H) : Le (Ref_tells_192_b g v0 v1 v4 h) (Ref_tells_192_b g2 v0 v1 v4 h) := by unfold Ref_tells_192_b; exact le_b (le_r _) fun x1 => le_b (le_r _) fun x3 => le_i (le_r _) (le_b (le_r _) fun x7 => le_b (le_r _) fun x9 => le_b (le_r _) fun h11 => le_b (le_r _) fun x14 => le_b (le_r _) fun h16 => le_i (hg _) (le_b (le_r _) fun r21 => hg _))
set_option maxHeartbeats 1000000 in
set_option maxRecDepth 100000 in
noncomputable def Ref_tells_243_b (g : (Nat × Int32 × Int32 × Int32 × Int32 × Int64 × Int64 × Nat × Nat × am_H) → Option (Int64 × am_H)) (v0 : Nat) (v1 : Int32) (v4 : Int64) (v6 : Int32) (s0 : Int64) (h : am_H) : Option (Int64 × am_H) := (gI h 12 v0 23).bind fun x24 => (pV h 12 v0 23 (.int (0 : Int32))).bind fun h26 => (Ref_passes0 v0 (4 : Int32) h26).bind fun r29 => if r29.1 = (0 : Int32) then g (272, v1, v6, x24, 0, v4, s0, v0, 0, r29.2) else (Ref_testOf 40 v0 (1 : Int32) r29.2).bind fun r34 => if r34.1 = (0 : Int32) then g (277, v1, v6, x24, (0 : Int32), v4, s0, v0, 0, r34.2) else g (272, v1, v6, x24, 0, v4, s0, v0, 0, r34.2)
set_option maxHeartbeats 1000000 in
set_option maxRecDepth 100000 in
theorem Ref_tells_243_m {g g2 : (Nat × Int32 × Int32 × Int32 × Int32 × Int64 × Int64 × Nat × Nat × am_H) → Option (Int64 × am_H)} (hg : ∀ s, Le (g s) (g2 s)) (v0 : Nat) (v1 : Int32) (v4 : Int64) (v6 : Int32) (s0 : Int64) (h : am_H) : Le (Ref_tells_243_b g v0 v1 v4 v6 s0 h) (Ref_tells_243_b g2 v0 v1 v4 v6 s0 h) := by unfold Ref_tells_243_b; exact le_b (le_r _) fun x24 => le_b (le_r _) fun h26 => le_b (le_r _) fun r29 => le_i (hg _) (le_b (le_r _) fun r34 => le_i (hg _) (hg _))
set_option maxHeartbeats 1000000 in
set_option maxRecDepth 100000 in
noncomputable def Ref_tells_272_b (g : (Nat × Int32 × Int32 × Int32 × Int32 × Int64 × Int64 × Nat × Nat × am_H) → Option (Int64 × am_H)) (v0 : Nat) (v1 : Int32) (v4 : Int64) (v6 : Int32) (v7 : Int64) (v9 : Int32) (h : am_H) : Option (Int64 × am_H) := g (277, v1, v6, v9, (1 : Int32), v4, v7, v0, 0, h)
set_option maxHeartbeats 1000000 in
set_option maxRecDepth 100000 in
theorem Ref_tells_272_m {g g2 : (Nat × Int32 × Int32 × Int32 × Int32 × Int64 × Int64 × Nat × Nat × am_H) → Option (Int64 × am_H)} (hg : ∀ s, Le (g s) (g2 s)) (v0 : Nat) (v1 : Int32) (v4 : Int64) (v6 : Int32) (v7 : Int64) (v9 : Int32) (h : am_H) : Le (Ref_tells_272_b g v0 v1 v4 v6 v7 v9 h) (Ref_tells_272_b g2 v0 v1 v4 v6 v7 v9 h) := by unfold Ref_tells_272_b; exact hg _
set_option maxHeartbeats 1000000 in
set_option maxRecDepth 100000 in
noncomputable def Ref_tells_277_b (g : (Nat × Int32 × Int32 × Int32 × Int32 × Int64 × Int64 × Nat × Nat × am_H) → Option (Int64 × am_H)) (v0 : Nat) (v1 : Int32) (v4 : Int64) (v6 : Int32) (v7 : Int64) (v9 : Int32) (s0 : Int32) (h : am_H) : Option (Int64 × am_H) := if s0 = (0 : Int32) then g (300, v1, v6, 0, 0, v4, v7, v0, 0, h) else (gI h 12 v0 23).bind fun x41 => if x41 = (0 : Int32) then if v9 = (0 : Int32) then g (301, v1, v6, (1 : Int32), 0, v4, v7, v0, 0, h) else g (300, v1, v6, 0, 0, v4, v7, v0, 0, h) else g (300, v1, v6, 0, 0, v4, v7, v0, 0, h)
set_option maxHeartbeats 1000000 in
set_option maxRecDepth 100000 in
theorem Ref_tells_277_m {g g2 : (Nat × Int32 × Int32 × Int32 × Int32 × Int64 × Int64 × Nat × Nat × am_H) → Option (Int64 × am_H)} (hg : ∀ s, Le (g s) (g2 s)) (v0 : Nat) (v1 : Int32) (v4 : Int64) (v6 : Int32) (v7 : Int64) (v9 : Int32) (s0 : Int32) (h : am_H) : Le (Ref_tells_277_b g v0 v1 v4 v6 v7 v9 s0 h) (Ref_tells_277_b g2 v0 v1 v4 v6 v7 v9 s0 h) := by unfold Ref_tells_277_b; exact le_i (hg _) (le_b (le_r _) fun x41 => le_i (le_i (hg _) (hg _)) (hg _))
set_option maxHeartbeats 1000000 in
set_option maxRecDepth 100000 in
noncomputable def Ref_tells_300_b (g : (Nat × Int32 × Int32 × Int32 × Int32 × Int64 × Int64 × Nat × Nat × am_H) → Option (Int64 × am_H)) (v0 : Nat) (v1 : Int32) (v4 : Int64) (v6 : Int32) (v7 : Int64) (h : am_H) : Option (Int64 × am_H) := g (301, v1, v6, (0 : Int32), 0, v4, v7, v0, 0, h)
set_option maxHeartbeats 1000000 in
set_option maxRecDepth 100000 in
theorem Ref_tells_300_m {g g2 : (Nat × Int32 × Int32 × Int32 × Int32 × Int64 × Int64 × Nat × Nat × am_H) → Option (Int64 × am_H)} (hg : ∀ s, Le (g s) (g2 s)) (v0 : Nat) (v1 : Int32) (v4 : Int64) (v6 : Int32) (v7 : Int64) (h : am_H) : Le (Ref_tells_300_b g v0 v1 v4 v6 v7 h) (Ref_tells_300_b g2 v0 v1 v4 v6 v7 h) := by unfold Ref_tells_300_b; exact hg _
set_option maxHeartbeats 1000000 in
set_option maxRecDepth 100000 in
noncomputable def Ref_tells_301_b (g : (Nat × Int32 × Int32 × Int32 × Int32 × Int64 × Int64 × Nat × Nat × am_H) → Option (Int64 × am_H)) (v0 : Nat) (v1 : Int32) (v4 : Int64) (v6 : Int32) (v7 : Int64) (s0 : Int32) (h : am_H) : Option (Int64 × am_H) := (gI h 12 v0 25).bind fun x47 => if x47 = (0 : Int32) then if v6 = v1 then g (317, v1, v6, s0, 0, v4, v7, v0, v0, h) else g (322, v1, v6, s0, (0 : Int32), v4, v7, v0, v0, h) else g (317, v1, v6, s0, 0, v4, v7, v0, v0, h)
set_option maxHeartbeats 1000000 in
set_option maxRecDepth 100000 in
theorem Ref_tells_301_m {g g2 : (Nat × Int32 × Int32 × Int32 × Int32 × Int64 × Int64 × Nat × Nat × am_H) → Option (Int64 × am_H)} (hg : ∀ s, Le (g s) (g2 s)) (v0 : Nat) (v1 : Int32) (v4 : Int64) (v6 : Int32) (v7 : Int64) (s0 : Int32) (h : am_H) : Le (Ref_tells_301_b g v0 v1 v4 v6 v7 s0 h) (Ref_tells_301_b g2 v0 v1 v4 v6 v7 s0 h) := by unfold Ref_tells_301_b; exact le_b (le_r _) fun x47 => le_i (le_i (hg _) (hg _)) (hg _)
set_option maxHeartbeats 1000000 in
set_option maxRecDepth 100000 in
noncomputable def Ref_tells_317_b (g : (Nat × Int32 × Int32 × Int32 × Int32 × Int64 × Int64 × Nat × Nat × am_H) → Option (Int64 × am_H)) (v0 : Nat) (v1 : Int32) (v4 : Int64) (v6 : Int32) (v7 : Int64) (v10 : Int32) (s0 : Nat) (h : am_H) : Option (Int64 × am_H) := g (322, v1, v6, v10, (1 : Int32), v4, v7, v0, s0, h)
set_option maxHeartbeats 1000000 in
set_option maxRecDepth 100000 in
theorem Ref_tells_317_m {g g2 : (Nat × Int32 × Int32 × Int32 × Int32 × Int64 × Int64 × Nat × Nat × am_H) → Option (Int64 × am_H)} (hg : ∀ s, Le (g s) (g2 s)) (v0 : Nat) (v1 : Int32) (v4 : Int64) (v6 : Int32) (v7 : Int64) (v10 : Int32) (s0 : Nat) (h : am_H) : Le (Ref_tells_317_b g v0 v1 v4 v6 v7 v10 s0 h) (Ref_tells_317_b g2 v0 v1 v4 v6 v7 v10 s0 h) := by unfold Ref_tells_317_b; exact hg _
set_option maxHeartbeats 1000000 in
set_option maxRecDepth 100000 in
noncomputable def Ref_tells_322_b (g : (Nat × Int32 × Int32 × Int32 × Int32 × Int64 × Int64 × Nat × Nat × am_H) → Option (Int64 × am_H)) (v0 : Nat) (v1 : Int32) (v4 : Int64) (v6 : Int32) (v7 : Int64) (v10 : Int32) (s0 : Int32) (s1 : Nat) (h : am_H) : Option (Int64 × am_H) := (nrZ s0).bind fun u53 => (pV h 12 s1 25 (.int s0)).bind fun h55 => if v6 = v1 then if v10 = (0 : Int32) then g (345, v1, 0, 0, 0, v4, 0, v0, 0, h55) else (pV h55 12 v0 26 (.int (1 : Int32))).bind fun h62 => g (345, v1, 0, 0, 0, v7, 0, v0, 0, h62) else g (345, v1, 0, 0, 0, v4, 0, v0, 0, h55)
set_option maxHeartbeats 1000000 in
set_option maxRecDepth 100000 in
theorem Ref_tells_322_m {g g2 : (Nat × Int32 × Int32 × Int32 × Int32 × Int64 × Int64 × Nat × Nat × am_H) → Option (Int64 × am_H)} (hg : ∀ s, Le (g s) (g2 s)) (v0 : Nat) (v1 : Int32) (v4 : Int64) (v6 : Int32) (v7 : Int64) (v10 : Int32) (s0 : Int32) (s1 : Nat) (h : am_H) : Le (Ref_tells_322_b g v0 v1 v4 v6 v7 v10 s0 s1 h) (Ref_tells_322_b g2 v0 v1 v4 v6 v7 v10 s0 s1 h) := by unfold Ref_tells_322_b; exact le_b (le_r _) fun u53 => le_b (le_r _) fun h55 => le_i (le_i (hg _) (le_b (le_r _) fun h62 => hg _)) (hg _)
set_option maxHeartbeats 1000000 in
set_option maxRecDepth 100000 in
noncomputable def Ref_tells_345_b (g : (Nat × Int32 × Int32 × Int32 × Int32 × Int64 × Int64 × Nat × Nat × am_H) → Option (Int64 × am_H)) (v0 : Nat) (v1 : Int32) (v4 : Int64) (h : am_H) : Option (Int64 × am_H) := (gI h 12 v0 21).bind fun x65 => (pV h 12 v0 21 (.int (x65 + (1 : Int32)))).bind fun h67 => g (192, v1, 0, 0, 0, v4, 0, v0, 0, h67)
set_option maxHeartbeats 1000000 in
set_option maxRecDepth 100000 in
theorem Ref_tells_345_m {g g2 : (Nat × Int32 × Int32 × Int32 × Int32 × Int64 × Int64 × Nat × Nat × am_H) → Option (Int64 × am_H)} (hg : ∀ s, Le (g s) (g2 s)) (v0 : Nat) (v1 : Int32) (v4 : Int64) (h : am_H) : Le (Ref_tells_345_b g v0 v1 v4 h) (Ref_tells_345_b g2 v0 v1 v4 h) := by unfold Ref_tells_345_b; exact le_b (le_r _) fun x65 => le_b (le_r _) fun h67 => hg _
noncomputable def Ref_tells_192_F (g : (Nat × Int32 × Int32 × Int32 × Int32 × Int64 × Int64 × Nat × Nat × am_H) → Option (Int64 × am_H)) (s : (Nat × Int32 × Int32 × Int32 × Int32 × Int64 × Int64 × Nat × Nat × am_H)) : Option (Int64 × am_H) := if s.1 = 192 then Ref_tells_192_b g s.2.2.2.2.2.2.2.1 s.2.1 s.2.2.2.2.2.1 s.2.2.2.2.2.2.2.2.2 else if s.1 = 243 then Ref_tells_243_b g s.2.2.2.2.2.2.2.1 s.2.1 s.2.2.2.2.2.1 s.2.2.1 s.2.2.2.2.2.2.1 s.2.2.2.2.2.2.2.2.2 else if s.1 = 272 then Ref_tells_272_b g s.2.2.2.2.2.2.2.1 s.2.1 s.2.2.2.2.2.1 s.2.2.1 s.2.2.2.2.2.2.1 s.2.2.2.1 s.2.2.2.2.2.2.2.2.2 else if s.1 = 277 then Ref_tells_277_b g s.2.2.2.2.2.2.2.1 s.2.1 s.2.2.2.2.2.1 s.2.2.1 s.2.2.2.2.2.2.1 s.2.2.2.1 s.2.2.2.2.1 s.2.2.2.2.2.2.2.2.2 else if s.1 = 300 then Ref_tells_300_b g s.2.2.2.2.2.2.2.1 s.2.1 s.2.2.2.2.2.1 s.2.2.1 s.2.2.2.2.2.2.1 s.2.2.2.2.2.2.2.2.2 else if s.1 = 301 then Ref_tells_301_b g s.2.2.2.2.2.2.2.1 s.2.1 s.2.2.2.2.2.1 s.2.2.1 s.2.2.2.2.2.2.1 s.2.2.2.1 s.2.2.2.2.2.2.2.2.2 else if s.1 = 317 then Ref_tells_317_b g s.2.2.2.2.2.2.2.1 s.2.1 s.2.2.2.2.2.1 s.2.2.1 s.2.2.2.2.2.2.1 s.2.2.2.1 s.2.2.2.2.2.2.2.2.1 s.2.2.2.2.2.2.2.2.2 else if s.1 = 322 then Ref_tells_322_b g s.2.2.2.2.2.2.2.1 s.2.1 s.2.2.2.2.2.1 s.2.2.1 s.2.2.2.2.2.2.1 s.2.2.2.1 s.2.2.2.2.1 s.2.2.2.2.2.2.2.2.1 s.2.2.2.2.2.2.2.2.2 else if s.1 = 345 then Ref_tells_345_b g s.2.2.2.2.2.2.2.1 s.2.1 s.2.2.2.2.2.1 s.2.2.2.2.2.2.2.2.2 else none
theorem Ref_tells_192_M : Mn Ref_tells_192_F := fun g g2 hg s => by unfold Ref_tells_192_F; exact le_i (Ref_tells_192_m hg s.2.2.2.2.2.2.2.1 s.2.1 s.2.2.2.2.2.1 s.2.2.2.2.2.2.2.2.2) (le_i (Ref_tells_243_m hg s.2.2.2.2.2.2.2.1 s.2.1 s.2.2.2.2.2.1 s.2.2.1 s.2.2.2.2.2.2.1 s.2.2.2.2.2.2.2.2.2) (le_i (Ref_tells_272_m hg s.2.2.2.2.2.2.2.1 s.2.1 s.2.2.2.2.2.1 s.2.2.1 s.2.2.2.2.2.2.1 s.2.2.2.1 s.2.2.2.2.2.2.2.2.2) (le_i (Ref_tells_277_m hg s.2.2.2.2.2.2.2.1 s.2.1 s.2.2.2.2.2.1 s.2.2.1 s.2.2.2.2.2.2.1 s.2.2.2.1 s.2.2.2.2.1 s.2.2.2.2.2.2.2.2.2) (le_i (Ref_tells_300_m hg s.2.2.2.2.2.2.2.1 s.2.1 s.2.2.2.2.2.1 s.2.2.1 s.2.2.2.2.2.2.1 s.2.2.2.2.2.2.2.2.2) (le_i (Ref_tells_301_m hg s.2.2.2.2.2.2.2.1 s.2.1 s.2.2.2.2.2.1 s.2.2.1 s.2.2.2.2.2.2.1 s.2.2.2.1 s.2.2.2.2.2.2.2.2.2) (le_i (Ref_tells_317_m hg s.2.2.2.2.2.2.2.1 s.2.1 s.2.2.2.2.2.1 s.2.2.1 s.2.2.2.2.2.2.1 s.2.2.2.1 s.2.2.2.2.2.2.2.2.1 s.2.2.2.2.2.2.2.2.2) (le_i (Ref_tells_322_m hg s.2.2.2.2.2.2.2.1 s.2.1 s.2.2.2.2.2.1 s.2.2.1 s.2.2.2.2.2.2.1 s.2.2.2.1 s.2.2.2.2.1 s.2.2.2.2.2.2.2.2.1 s.2.2.2.2.2.2.2.2.2) (le_i (Ref_tells_345_m hg s.2.2.2.2.2.2.2.1 s.2.1 s.2.2.2.2.2.1 s.2.2.2.2.2.2.2.2.2) (le_r _)))))))))
def Ref_tells_192_P (s : (Nat × Int32 × Int32 × Int32 × Int32 × Int64 × Int64 × Nat × Nat × am_H)) (r : (Int64 × am_H)) : Prop := (s.1 = 192 → Sx 85 mX12_tells 192 [.ref s.2.2.2.2.2.2.2.1, .int s.2.1, .retAddr 0, .retAddr 0, .long s.2.2.2.2.2.1, .retAddr 0, .retAddr 0, .retAddr 0, .retAddr 0, .retAddr 0, .retAddr 0] [] s.2.2.2.2.2.2.2.2.2 (some (.long r.1)) r.2) ∧ (s.1 = 243 → Sx 85 mX12_tells 243 [.ref s.2.2.2.2.2.2.2.1, .int s.2.1, .retAddr 0, .retAddr 0, .long s.2.2.2.2.2.1, .retAddr 0, .int s.2.2.1, .retAddr 0, .retAddr 0, .retAddr 0, .retAddr 0] [.long s.2.2.2.2.2.2.1] s.2.2.2.2.2.2.2.2.2 (some (.long r.1)) r.2) ∧ (s.1 = 272 → Sx 85 mX12_tells 272 [.ref s.2.2.2.2.2.2.2.1, .int s.2.1, .retAddr 0, .retAddr 0, .long s.2.2.2.2.2.1, .retAddr 0, .int s.2.2.1, .long s.2.2.2.2.2.2.1, .retAddr 0, .int s.2.2.2.1, .retAddr 0] [] s.2.2.2.2.2.2.2.2.2 (some (.long r.1)) r.2) ∧ (s.1 = 277 → Sx 85 mX12_tells 277 [.ref s.2.2.2.2.2.2.2.1, .int s.2.1, .retAddr 0, .retAddr 0, .long s.2.2.2.2.2.1, .retAddr 0, .int s.2.2.1, .long s.2.2.2.2.2.2.1, .retAddr 0, .int s.2.2.2.1, .retAddr 0] [.int s.2.2.2.2.1] s.2.2.2.2.2.2.2.2.2 (some (.long r.1)) r.2) ∧ (s.1 = 300 → Sx 85 mX12_tells 300 [.ref s.2.2.2.2.2.2.2.1, .int s.2.1, .retAddr 0, .retAddr 0, .long s.2.2.2.2.2.1, .retAddr 0, .int s.2.2.1, .long s.2.2.2.2.2.2.1, .retAddr 0, .retAddr 0, .retAddr 0] [] s.2.2.2.2.2.2.2.2.2 (some (.long r.1)) r.2) ∧ (s.1 = 301 → Sx 85 mX12_tells 301 [.ref s.2.2.2.2.2.2.2.1, .int s.2.1, .retAddr 0, .retAddr 0, .long s.2.2.2.2.2.1, .retAddr 0, .int s.2.2.1, .long s.2.2.2.2.2.2.1, .retAddr 0, .retAddr 0, .retAddr 0] [.int s.2.2.2.1] s.2.2.2.2.2.2.2.2.2 (some (.long r.1)) r.2) ∧ (s.1 = 317 → Sx 85 mX12_tells 317 [.ref s.2.2.2.2.2.2.2.1, .int s.2.1, .retAddr 0, .retAddr 0, .long s.2.2.2.2.2.1, .retAddr 0, .int s.2.2.1, .long s.2.2.2.2.2.2.1, .retAddr 0, .retAddr 0, .int s.2.2.2.1] [.ref s.2.2.2.2.2.2.2.2.1] s.2.2.2.2.2.2.2.2.2 (some (.long r.1)) r.2) ∧ (s.1 = 322 → Sx 85 mX12_tells 322 [.ref s.2.2.2.2.2.2.2.1, .int s.2.1, .retAddr 0, .retAddr 0, .long s.2.2.2.2.2.1, .retAddr 0, .int s.2.2.1, .long s.2.2.2.2.2.2.1, .retAddr 0, .retAddr 0, .int s.2.2.2.1] [.int s.2.2.2.2.1, .ref s.2.2.2.2.2.2.2.2.1] s.2.2.2.2.2.2.2.2.2 (some (.long r.1)) r.2) ∧ (s.1 = 345 → Sx 85 mX12_tells 345 [.ref s.2.2.2.2.2.2.2.1, .int s.2.1, .retAddr 0, .retAddr 0, .long s.2.2.2.2.2.1, .retAddr 0, .retAddr 0, .retAddr 0, .retAddr 0, .retAddr 0, .retAddr 0] [] s.2.2.2.2.2.2.2.2.2 (some (.long r.1)) r.2) ∧ True
set_option maxHeartbeats 1000000 in
set_option maxRecDepth 100000 in
theorem Ref_tells_192_t {g : (Nat × Int32 × Int32 × Int32 × Int32 × Int64 × Int64 × Nat × Nat × am_H) → Option (Int64 × am_H)} (hg : ∀ s r, g s = some r → Ref_tells_192_P s r) {v0 : Nat} {v1 : Int32} {v4 : Int64} {h : am_H} {r : (Int64 × am_H)} (hb : Ref_tells_192_b g v0 v1 v4 h = some r) : Sx 85 mX12_tells 192 [.ref v0, .int v1, .retAddr 0, .retAddr 0, .long v4, .retAddr 0, .retAddr 0, .retAddr 0, .retAddr 0, .retAddr 0, .retAddr 0] [] h (some (.long r.1)) r.2 := by
  unfold Ref_tells_192_b at hb
  refine Sx.o (fun _ _ _ k => ex_aload_n dX12_tells_192 rfl rfl k) ?_
  obtain ⟨x1, e_x1, hb2⟩ := ob2 hb
  refine Sx.o (fun _ _ _ k => op_getI fX12_256 dX12_tells_193 e_x1 k) ?_
  refine Sx.o (fun _ _ _ k => ex_aload_n dX12_tells_196 rfl rfl k) ?_
  obtain ⟨x3, e_x3, hb4⟩ := ob2 hb2
  refine Sx.o (fun _ _ _ k => op_getI fX12_253 dX12_tells_197 e_x3 k) ?_
  refine Sx.b (fun _ _ _ k1 k2 => ex_icmp_ge 358 dX12_tells_200 (by decide) k1 k2) (fun q => ?_) (fun q => ?_)
  · have hb5 := ip q hb4
    refine Sx.o (fun _ _ _ k => ex_lload dX12_tells_358 rfl k) ?_
    obtain rfl := Option.some.inj hb5
    exact Sx.r (fun _ _ _ k => ex_lret rfl dX12_tells_360 k)
  · have hb6 := iq q hb4
    refine Sx.o (fun _ _ _ k => ex_aload_n dX12_tells_203 rfl rfl k) ?_
    refine Sx.o (fun _ _ _ k => ex_aload_n dX12_tells_204 rfl rfl k) ?_
    obtain ⟨x7, e_x7, hb8⟩ := ob2 hb6
    refine Sx.o (fun _ _ _ k => op_getI fX12_256 dX12_tells_205 e_x7 k) ?_
    obtain ⟨x9, e_x9, hb10⟩ := ob2 hb8
    refine sx_callV (dc := 0) (as := [.int x7]) (stq := [.int x9]) (by omega) dX12_tells_208 MX12_codeAt kX12_259 iX12_codeAt sX12_codeAt rfl rfl (Ref_codeAt_o e_x9) rfl rfl (Nat.le_of_ble_eq_true rfl) (Nat.le_of_ble_eq_true rfl) (Ref_codeAt_s e_x9) rfl ?_
    refine Sx.o (L' := [.ref v0, .int v1, .retAddr 0, .retAddr 0, .long v4, .retAddr 0, .int x9, .retAddr 0, .retAddr 0, .retAddr 0, .retAddr 0]) (fun _ _ _ k => ex_istore dX12_tells_211 (by decide) k) ?_
    refine Sx.o (fun _ _ _ k => ex_aload_n dX12_tells_213 rfl rfl k) ?_
    refine Sx.o (fun _ _ _ k => op_iconst (0 : Int32) dX12_tells_214 (by decide) k) ?_
    obtain ⟨h11, e_h11, hb12⟩ := ob2 hb10
    refine Sx.p (pV_q e_h11) (fun _ _ _ k => op_put pX12_266 dX12_tells_215 e_h11 (fun _ => rfl) (fun _ => rfl) k) ?_
    refine Sx.o (fun _ _ _ k => ex_aload_n dX12_tells_218 rfl rfl k) ?_
    refine Sx.o (fun _ _ _ k => ex_dup dX12_tells_219 rfl k) ?_
    obtain ⟨x14, e_x14, hb15⟩ := ob2 hb12
    refine Sx.o (fun _ _ _ k => op_getI fX12_256 dX12_tells_220 e_x14 k) ?_
    refine Sx.o (fun _ _ _ k => op_iconst (1 : Int32) dX12_tells_223 (by decide) k) ?_
    refine Sx.o (fun _ _ _ k => ex_iadd dX12_tells_224 k) ?_
    obtain ⟨h16, e_h16, hb17⟩ := ob2 hb15
    refine Sx.p (pV_q e_h16) (fun _ _ _ k => op_put pX12_256 dX12_tells_225 e_h16 (fun _ => rfl) (fun _ => rfl) k) ?_
    refine Sx.o (fun _ _ _ k => ex_iload dX12_tells_228 rfl k) ?_
    refine Sx.o (fun _ _ _ k => op_iconst (3 : Int32) dX12_tells_230 (by decide) k) ?_
    refine Sx.bn (fun _ _ _ k1 k2 => ex_icmp_ne 238 dX12_tells_231 (by decide) k1 k2) (fun q => ?_) (fun q => ?_)
    · have hb19 := iq q hb17
      refine Sx.o (fun _ _ _ k => ex_aload_n dX12_tells_238 rfl rfl k) ?_
      refine Sx.o (fun _ _ _ k => op_iconst (1 : Int32) dX12_tells_239 (by decide) k) ?_
      obtain ⟨r21, e_r21, hb22⟩ := ob2 hb19
      refine sx_callV (dc := (3 + 40)) (as := [.int (1 : Int32)]) (stq := [.long r21.1]) (by omega) dX12_tells_240 MX12_sumOf kX12_286 iX12_sumOf sX12_sumOf rfl rfl (Ref_sumOf_o e_r21) rfl rfl (Nat.le_of_ble_eq_true rfl) (Nat.le_of_ble_eq_true rfl) (Ref_sumOf_s e_r21) rfl ?_
      exact (hg _ _ hb22).2.1 rfl
    · have hb20 := ip q hb17
      refine Sx.o (fun _ _ _ k => op_lconst (1 : Int64) dX12_tells_234 (by decide) k) ?_
      refine Sx.o (fun _ _ _ k => ex_goto 243 dX12_tells_235 (by decide) k) ?_
      exact (hg _ _ hb20).2.1 rfl
set_option maxHeartbeats 1000000 in
set_option maxRecDepth 100000 in
theorem Ref_tells_243_t {g : (Nat × Int32 × Int32 × Int32 × Int32 × Int64 × Int64 × Nat × Nat × am_H) → Option (Int64 × am_H)} (hg : ∀ s r, g s = some r → Ref_tells_192_P s r) {v0 : Nat} {v1 : Int32} {v4 : Int64} {v6 : Int32} {s0 : Int64} {h : am_H} {r : (Int64 × am_H)} (hb : Ref_tells_243_b g v0 v1 v4 v6 s0 h = some r) : Sx 85 mX12_tells 243 [.ref v0, .int v1, .retAddr 0, .retAddr 0, .long v4, .retAddr 0, .int v6, .retAddr 0, .retAddr 0, .retAddr 0, .retAddr 0] [.long s0] h (some (.long r.1)) r.2 := by
  unfold Ref_tells_243_b at hb
  refine Sx.o (L' := [.ref v0, .int v1, .retAddr 0, .retAddr 0, .long v4, .retAddr 0, .int v6, .long s0, .retAddr 0, .retAddr 0, .retAddr 0]) (fun _ _ _ k => ex_lstore dX12_tells_243 (by decide) k) ?_
  refine Sx.o (fun _ _ _ k => ex_aload_n dX12_tells_245 rfl rfl k) ?_
  obtain ⟨x24, e_x24, hb25⟩ := ob2 hb
  refine Sx.o (fun _ _ _ k => op_getI fX12_266 dX12_tells_246 e_x24 k) ?_
  refine Sx.o (L' := [.ref v0, .int v1, .retAddr 0, .retAddr 0, .long v4, .retAddr 0, .int v6, .long s0, .retAddr 0, .int x24, .retAddr 0]) (fun _ _ _ k => ex_istore dX12_tells_249 (by decide) k) ?_
  refine Sx.o (fun _ _ _ k => ex_aload_n dX12_tells_251 rfl rfl k) ?_
  refine Sx.o (fun _ _ _ k => op_iconst (0 : Int32) dX12_tells_252 (by decide) k) ?_
  obtain ⟨h26, e_h26, hb27⟩ := ob2 hb25
  refine Sx.p (pV_q e_h26) (fun _ _ _ k => op_put pX12_266 dX12_tells_253 e_h26 (fun _ => rfl) (fun _ => rfl) k) ?_
  refine Sx.o (fun _ _ _ k => ex_aload_n dX12_tells_256 rfl rfl k) ?_
  refine Sx.o (fun _ _ _ k => op_iconst (4 : Int32) dX12_tells_257 (by decide) k) ?_
  obtain ⟨r29, e_r29, hb30⟩ := ob2 hb27
  refine sx_callV (dc := 1) (as := [.int (4 : Int32)]) (stq := [.int r29.1]) (by omega) dX12_tells_258 MX12_passes0 kX12_283 iX12_passes0 sX12_passes0 rfl rfl (Ref_passes0_o e_r29) rfl rfl (Nat.le_of_ble_eq_true rfl) (Nat.le_of_ble_eq_true rfl) (Ref_passes0_s e_r29) rfl ?_
  refine Sx.b (fun _ _ _ k1 k2 => ex_if_eq 272 dX12_tells_261 (by decide) k1 k2) (fun q => ?_) (fun q => ?_)
  · have hb32 := ip q hb30
    exact (hg _ _ hb32).2.2.1 rfl
  · have hb33 := iq q hb30
    refine Sx.o (fun _ _ _ k => ex_aload_n dX12_tells_264 rfl rfl k) ?_
    refine Sx.o (fun _ _ _ k => op_iconst (1 : Int32) dX12_tells_265 (by decide) k) ?_
    obtain ⟨r34, e_r34, hb35⟩ := ob2 hb33
    refine sx_callV (dc := (44 + 40)) (as := [.int (1 : Int32)]) (stq := [.int r34.1]) (by omega) dX12_tells_266 MX12_testOf kX12_304 iX12_testOf sX12_testOf rfl rfl (Ref_testOf_o e_r34) rfl rfl (Nat.le_of_ble_eq_true rfl) (Nat.le_of_ble_eq_true rfl) (Ref_testOf_s e_r34) rfl ?_
    refine Sx.b (fun _ _ _ k1 k2 => ex_if_eq 276 dX12_tells_269 (by decide) k1 k2) (fun q => ?_) (fun q => ?_)
    · have hb37 := ip q hb35
      refine Sx.o (fun _ _ _ k => op_iconst (0 : Int32) dX12_tells_276 (by decide) k) ?_
      exact (hg _ _ hb37).2.2.2.1 rfl
    · have hb38 := iq q hb35
      exact (hg _ _ hb38).2.2.1 rfl
set_option maxHeartbeats 1000000 in
set_option maxRecDepth 100000 in
theorem Ref_tells_272_t {g : (Nat × Int32 × Int32 × Int32 × Int32 × Int64 × Int64 × Nat × Nat × am_H) → Option (Int64 × am_H)} (hg : ∀ s r, g s = some r → Ref_tells_192_P s r) {v0 : Nat} {v1 : Int32} {v4 : Int64} {v6 : Int32} {v7 : Int64} {v9 : Int32} {h : am_H} {r : (Int64 × am_H)} (hb : Ref_tells_272_b g v0 v1 v4 v6 v7 v9 h = some r) : Sx 85 mX12_tells 272 [.ref v0, .int v1, .retAddr 0, .retAddr 0, .long v4, .retAddr 0, .int v6, .long v7, .retAddr 0, .int v9, .retAddr 0] [] h (some (.long r.1)) r.2 := by
  unfold Ref_tells_272_b at hb
  refine Sx.o (fun _ _ _ k => op_iconst (1 : Int32) dX12_tells_272 (by decide) k) ?_
  refine Sx.o (fun _ _ _ k => ex_goto 277 dX12_tells_273 (by decide) k) ?_
  exact (hg _ _ hb).2.2.2.1 rfl
set_option maxHeartbeats 1000000 in
set_option maxRecDepth 100000 in
theorem Ref_tells_277_t {g : (Nat × Int32 × Int32 × Int32 × Int32 × Int64 × Int64 × Nat × Nat × am_H) → Option (Int64 × am_H)} (hg : ∀ s r, g s = some r → Ref_tells_192_P s r) {v0 : Nat} {v1 : Int32} {v4 : Int64} {v6 : Int32} {v7 : Int64} {v9 : Int32} {s0 : Int32} {h : am_H} {r : (Int64 × am_H)} (hb : Ref_tells_277_b g v0 v1 v4 v6 v7 v9 s0 h = some r) : Sx 85 mX12_tells 277 [.ref v0, .int v1, .retAddr 0, .retAddr 0, .long v4, .retAddr 0, .int v6, .long v7, .retAddr 0, .int v9, .retAddr 0] [.int s0] h (some (.long r.1)) r.2 := by
  unfold Ref_tells_277_b at hb
  refine Sx.o (L' := [.ref v0, .int v1, .retAddr 0, .retAddr 0, .long v4, .retAddr 0, .int v6, .long v7, .retAddr 0, .int v9, .int s0]) (fun _ _ _ k => ex_istore dX12_tells_277 (by decide) k) ?_
  refine Sx.o (fun _ _ _ k => ex_iload dX12_tells_279 rfl k) ?_
  refine Sx.b (fun _ _ _ k1 k2 => ex_if_eq 300 dX12_tells_281 (by decide) k1 k2) (fun q => ?_) (fun q => ?_)
  · have hb39 := ip q hb
    refine Sx.fg [true, true, true, true, true, true, true, true, true, false, false] ?_
    exact (hg _ _ hb39).2.2.2.2.1 rfl
  · have hb40 := iq q hb
    refine Sx.o (fun _ _ _ k => ex_aload_n dX12_tells_284 rfl rfl k) ?_
    obtain ⟨x41, e_x41, hb42⟩ := ob2 hb40
    refine Sx.o (fun _ _ _ k => op_getI fX12_266 dX12_tells_285 e_x41 k) ?_
    refine Sx.bn (fun _ _ _ k1 k2 => ex_if_ne 300 dX12_tells_288 (by decide) k1 k2) (fun q => ?_) (fun q => ?_)
    · have hb43 := iq q hb42
      refine Sx.fg [true, true, true, true, true, true, true, true, true, false, false] ?_
      exact (hg _ _ hb43).2.2.2.2.1 rfl
    · have hb44 := ip q hb42
      refine Sx.o (fun _ _ _ k => ex_iload dX12_tells_291 rfl k) ?_
      refine Sx.bn (fun _ _ _ k1 k2 => ex_if_ne 300 dX12_tells_293 (by decide) k1 k2) (fun q => ?_) (fun q => ?_)
      · have hb45 := iq q hb44
        refine Sx.fg [true, true, true, true, true, true, true, true, true, false, false] ?_
        exact (hg _ _ hb45).2.2.2.2.1 rfl
      · have hb46 := ip q hb44
        refine Sx.o (fun _ _ _ k => op_iconst (1 : Int32) dX12_tells_296 (by decide) k) ?_
        refine Sx.o (fun _ _ _ k => ex_goto 301 dX12_tells_297 (by decide) k) ?_
        refine Sx.fg [true, true, true, true, true, true, true, true, true, false, false] ?_
        exact (hg _ _ hb46).2.2.2.2.2.1 rfl
set_option maxHeartbeats 1000000 in
set_option maxRecDepth 100000 in
theorem Ref_tells_300_t {g : (Nat × Int32 × Int32 × Int32 × Int32 × Int64 × Int64 × Nat × Nat × am_H) → Option (Int64 × am_H)} (hg : ∀ s r, g s = some r → Ref_tells_192_P s r) {v0 : Nat} {v1 : Int32} {v4 : Int64} {v6 : Int32} {v7 : Int64} {h : am_H} {r : (Int64 × am_H)} (hb : Ref_tells_300_b g v0 v1 v4 v6 v7 h = some r) : Sx 85 mX12_tells 300 [.ref v0, .int v1, .retAddr 0, .retAddr 0, .long v4, .retAddr 0, .int v6, .long v7, .retAddr 0, .retAddr 0, .retAddr 0] [] h (some (.long r.1)) r.2 := by
  unfold Ref_tells_300_b at hb
  refine Sx.o (fun _ _ _ k => op_iconst (0 : Int32) dX12_tells_300 (by decide) k) ?_
  exact (hg _ _ hb).2.2.2.2.2.1 rfl
set_option maxHeartbeats 1000000 in
set_option maxRecDepth 100000 in
theorem Ref_tells_301_t {g : (Nat × Int32 × Int32 × Int32 × Int32 × Int64 × Int64 × Nat × Nat × am_H) → Option (Int64 × am_H)} (hg : ∀ s r, g s = some r → Ref_tells_192_P s r) {v0 : Nat} {v1 : Int32} {v4 : Int64} {v6 : Int32} {v7 : Int64} {s0 : Int32} {h : am_H} {r : (Int64 × am_H)} (hb : Ref_tells_301_b g v0 v1 v4 v6 v7 s0 h = some r) : Sx 85 mX12_tells 301 [.ref v0, .int v1, .retAddr 0, .retAddr 0, .long v4, .retAddr 0, .int v6, .long v7, .retAddr 0, .retAddr 0, .retAddr 0] [.int s0] h (some (.long r.1)) r.2 := by
  unfold Ref_tells_301_b at hb
  refine Sx.o (L' := [.ref v0, .int v1, .retAddr 0, .retAddr 0, .long v4, .retAddr 0, .int v6, .long v7, .retAddr 0, .retAddr 0, .int s0]) (fun _ _ _ k => ex_istore dX12_tells_301 (by decide) k) ?_
  refine Sx.o (fun _ _ _ k => ex_aload_n dX12_tells_303 rfl rfl k) ?_
  refine Sx.o (fun _ _ _ k => ex_aload_n dX12_tells_304 rfl rfl k) ?_
  obtain ⟨x47, e_x47, hb48⟩ := ob2 hb
  refine Sx.o (fun _ _ _ k => op_getI fX12_307 dX12_tells_305 e_x47 k) ?_
  refine Sx.bn (fun _ _ _ k1 k2 => ex_if_ne 317 dX12_tells_308 (by decide) k1 k2) (fun q => ?_) (fun q => ?_)
  · have hb49 := iq q hb48
    exact (hg _ _ hb49).2.2.2.2.2.2.1 rfl
  · have hb50 := ip q hb48
    refine Sx.o (fun _ _ _ k => ex_iload dX12_tells_311 rfl k) ?_
    refine Sx.o (fun _ _ _ k => ex_iload_n dX12_tells_313 rfl k) ?_
    refine Sx.bn (fun _ _ _ k1 k2 => ex_icmp_ne 321 dX12_tells_314 (by decide) k1 k2) (fun q => ?_) (fun q => ?_)
    · have hb51 := iq q hb50
      refine Sx.o (fun _ _ _ k => op_iconst (0 : Int32) dX12_tells_321 (by decide) k) ?_
      exact (hg _ _ hb51).2.2.2.2.2.2.2.1 rfl
    · have hb52 := ip q hb50
      exact (hg _ _ hb52).2.2.2.2.2.2.1 rfl
set_option maxHeartbeats 1000000 in
set_option maxRecDepth 100000 in
theorem Ref_tells_317_t {g : (Nat × Int32 × Int32 × Int32 × Int32 × Int64 × Int64 × Nat × Nat × am_H) → Option (Int64 × am_H)} (hg : ∀ s r, g s = some r → Ref_tells_192_P s r) {v0 : Nat} {v1 : Int32} {v4 : Int64} {v6 : Int32} {v7 : Int64} {v10 : Int32} {s0 : Nat} {h : am_H} {r : (Int64 × am_H)} (hb : Ref_tells_317_b g v0 v1 v4 v6 v7 v10 s0 h = some r) : Sx 85 mX12_tells 317 [.ref v0, .int v1, .retAddr 0, .retAddr 0, .long v4, .retAddr 0, .int v6, .long v7, .retAddr 0, .retAddr 0, .int v10] [.ref s0] h (some (.long r.1)) r.2 := by
  unfold Ref_tells_317_b at hb
  refine Sx.o (fun _ _ _ k => op_iconst (1 : Int32) dX12_tells_317 (by decide) k) ?_
  refine Sx.o (fun _ _ _ k => ex_goto 322 dX12_tells_318 (by decide) k) ?_
  exact (hg _ _ hb).2.2.2.2.2.2.2.1 rfl
set_option maxHeartbeats 1000000 in
set_option maxRecDepth 100000 in
theorem Ref_tells_322_t {g : (Nat × Int32 × Int32 × Int32 × Int32 × Int64 × Int64 × Nat × Nat × am_H) → Option (Int64 × am_H)} (hg : ∀ s r, g s = some r → Ref_tells_192_P s r) {v0 : Nat} {v1 : Int32} {v4 : Int64} {v6 : Int32} {v7 : Int64} {v10 : Int32} {s0 : Int32} {s1 : Nat} {h : am_H} {r : (Int64 × am_H)} (hb : Ref_tells_322_b g v0 v1 v4 v6 v7 v10 s0 s1 h = some r) : Sx 85 mX12_tells 322 [.ref v0, .int v1, .retAddr 0, .retAddr 0, .long v4, .retAddr 0, .int v6, .long v7, .retAddr 0, .retAddr 0, .int v10] [.int s0, .ref s1] h (some (.long r.1)) r.2 := by
  unfold Ref_tells_322_b at hb
  obtain ⟨u53, e_u53, hb54⟩ := ob2 hb
  obtain ⟨h55, e_h55, hb56⟩ := ob2 hb54
  refine Sx.p (pV_q e_h55) (fun _ _ _ k => op_put pX12_307 dX12_tells_322 e_h55 (fun _ => nrZ_n e_u53) (fun _ => nrZ_f e_u53) k) ?_
  refine Sx.o (fun _ _ _ k => ex_iload dX12_tells_325 rfl k) ?_
  refine Sx.o (fun _ _ _ k => ex_iload_n dX12_tells_327 rfl k) ?_
  refine Sx.bn (fun _ _ _ k1 k2 => ex_icmp_ne 345 dX12_tells_328 (by decide) k1 k2) (fun q => ?_) (fun q => ?_)
  · have hb58 := iq q hb56
    refine Sx.fg [true, true, true, true, true, true, false, false, true, true, false] ?_
    exact (hg _ _ hb58).2.2.2.2.2.2.2.2.1 rfl
  · have hb59 := ip q hb56
    refine Sx.o (fun _ _ _ k => ex_iload dX12_tells_331 rfl k) ?_
    refine Sx.b (fun _ _ _ k1 k2 => ex_if_eq 345 dX12_tells_333 (by decide) k1 k2) (fun q => ?_) (fun q => ?_)
    · have hb60 := ip q hb59
      refine Sx.fg [true, true, true, true, true, true, false, false, true, true, false] ?_
      exact (hg _ _ hb60).2.2.2.2.2.2.2.2.1 rfl
    · have hb61 := iq q hb59
      refine Sx.o (fun _ _ _ k => ex_lload dX12_tells_336 rfl k) ?_
      refine Sx.o (L' := [.ref v0, .int v1, .retAddr 0, .retAddr 0, .long v7, .retAddr 0, .int v6, .long v7, .retAddr 0, .retAddr 0, .int v10]) (fun _ _ _ k => ex_lstore dX12_tells_338 (by decide) k) ?_
      refine Sx.o (fun _ _ _ k => ex_aload_n dX12_tells_340 rfl rfl k) ?_
      refine Sx.o (fun _ _ _ k => op_iconst (1 : Int32) dX12_tells_341 (by decide) k) ?_
      obtain ⟨h62, e_h62, hb63⟩ := ob2 hb61
      refine Sx.p (pV_q e_h62) (fun _ _ _ k => op_put pX12_310 dX12_tells_342 e_h62 (fun _ => rfl) (fun _ => rfl) k) ?_
      refine Sx.fg [true, true, true, true, true, true, false, false, true, true, false] ?_
      exact (hg _ _ hb63).2.2.2.2.2.2.2.2.1 rfl
set_option maxHeartbeats 1000000 in
set_option maxRecDepth 100000 in
theorem Ref_tells_345_t {g : (Nat × Int32 × Int32 × Int32 × Int32 × Int64 × Int64 × Nat × Nat × am_H) → Option (Int64 × am_H)} (hg : ∀ s r, g s = some r → Ref_tells_192_P s r) {v0 : Nat} {v1 : Int32} {v4 : Int64} {h : am_H} {r : (Int64 × am_H)} (hb : Ref_tells_345_b g v0 v1 v4 h = some r) : Sx 85 mX12_tells 345 [.ref v0, .int v1, .retAddr 0, .retAddr 0, .long v4, .retAddr 0, .retAddr 0, .retAddr 0, .retAddr 0, .retAddr 0, .retAddr 0] [] h (some (.long r.1)) r.2 := by
  unfold Ref_tells_345_b at hb
  refine Sx.o (fun _ _ _ k => ex_aload_n dX12_tells_345 rfl rfl k) ?_
  refine Sx.o (fun _ _ _ k => ex_dup dX12_tells_346 rfl k) ?_
  obtain ⟨x65, e_x65, hb66⟩ := ob2 hb
  refine Sx.o (fun _ _ _ k => op_getI fX12_256 dX12_tells_347 e_x65 k) ?_
  refine Sx.o (fun _ _ _ k => op_iconst (1 : Int32) dX12_tells_350 (by decide) k) ?_
  refine Sx.o (fun _ _ _ k => ex_iadd dX12_tells_351 k) ?_
  obtain ⟨h67, e_h67, hb68⟩ := ob2 hb66
  refine Sx.p (pV_q e_h67) (fun _ _ _ k => op_put pX12_256 dX12_tells_352 e_h67 (fun _ => rfl) (fun _ => rfl) k) ?_
  refine Sx.o (fun _ _ _ k => ex_goto 192 dX12_tells_355 (by decide) k) ?_
  exact (hg _ _ hb68).1 rfl
theorem Ref_tells_192_T : ∀ s r, fx Ref_tells_192_F Ref_tells_192_M s = some r → Ref_tells_192_P s r := fx_ind Ref_tells_192_M Ref_tells_192_P (fun g hg s r hb => by
  unfold Ref_tells_192_F at hb
  exact ⟨fun q => Ref_tells_192_t hg (ip q hb), fun q => Ref_tells_243_t hg (ip q (iq (by rw [q]; decide) hb)), fun q => Ref_tells_272_t hg (ip q (iq (by rw [q]; decide) (iq (by rw [q]; decide) hb))), fun q => Ref_tells_277_t hg (ip q (iq (by rw [q]; decide) (iq (by rw [q]; decide) (iq (by rw [q]; decide) hb)))), fun q => Ref_tells_300_t hg (ip q (iq (by rw [q]; decide) (iq (by rw [q]; decide) (iq (by rw [q]; decide) (iq (by rw [q]; decide) hb))))), fun q => Ref_tells_301_t hg (ip q (iq (by rw [q]; decide) (iq (by rw [q]; decide) (iq (by rw [q]; decide) (iq (by rw [q]; decide) (iq (by rw [q]; decide) hb)))))), fun q => Ref_tells_317_t hg (ip q (iq (by rw [q]; decide) (iq (by rw [q]; decide) (iq (by rw [q]; decide) (iq (by rw [q]; decide) (iq (by rw [q]; decide) (iq (by rw [q]; decide) hb))))))), fun q => Ref_tells_322_t hg (ip q (iq (by rw [q]; decide) (iq (by rw [q]; decide) (iq (by rw [q]; decide) (iq (by rw [q]; decide) (iq (by rw [q]; decide) (iq (by rw [q]; decide) (iq (by rw [q]; decide) hb)))))))), fun q => Ref_tells_345_t hg (ip q (iq (by rw [q]; decide) (iq (by rw [q]; decide) (iq (by rw [q]; decide) (iq (by rw [q]; decide) (iq (by rw [q]; decide) (iq (by rw [q]; decide) (iq (by rw [q]; decide) (iq (by rw [q]; decide) hb))))))))), trivial⟩)
set_option maxHeartbeats 1000000 in
set_option maxRecDepth 100000 in
theorem Ref_tells_192_r {g : (Nat × Int32 × Int32 × Int32 × Int32 × Int64 × Int64 × Nat × Nat × am_H) → Option (Int64 × am_H)} (hg : ∀ s r, g s = some r → Eqs s.2.2.2.2.2.2.2.2.2 r.2) {v0 : Nat} {v1 : Int32} {v4 : Int64} {h : am_H} {r : (Int64 × am_H)} (hb : Ref_tells_192_b g v0 v1 v4 h = some r) : Eqs h r.2 := by
  unfold Ref_tells_192_b at hb
  have w0 := Eqs.rf h
  obtain ⟨x1, e_x1, hb2⟩ := ob2 hb
  obtain ⟨x3, e_x3, hb4⟩ := ob2 hb2
  by_cases q : x3 ≤ x1
  · have hb5 := ip q hb4
    obtain rfl := Option.some.inj hb5
    exact w0
  · have hb6 := iq q hb4
    obtain ⟨x7, e_x7, hb8⟩ := ob2 hb6
    obtain ⟨x9, e_x9, hb10⟩ := ob2 hb8
    obtain ⟨h11, e_h11, hb12⟩ := ob2 hb10
    have w13 := w0.tr (pV_q e_h11)
    obtain ⟨x14, e_x14, hb15⟩ := ob2 hb12
    obtain ⟨h16, e_h16, hb17⟩ := ob2 hb15
    have w18 := w13.tr (pV_q e_h16)
    by_cases q : x9 = (3 : Int32)
    · have hb20 := ip q hb17
      exact w18.tr (hg _ _ hb20)
    · have hb19 := iq q hb17
      obtain ⟨r21, e_r21, hb22⟩ := ob2 hb19
      have w23 := w18.tr (Ref_sumOf_q e_r21)
      exact w23.tr (hg _ _ hb22)
set_option maxHeartbeats 1000000 in
set_option maxRecDepth 100000 in
theorem Ref_tells_243_r {g : (Nat × Int32 × Int32 × Int32 × Int32 × Int64 × Int64 × Nat × Nat × am_H) → Option (Int64 × am_H)} (hg : ∀ s r, g s = some r → Eqs s.2.2.2.2.2.2.2.2.2 r.2) {v0 : Nat} {v1 : Int32} {v4 : Int64} {v6 : Int32} {s0 : Int64} {h : am_H} {r : (Int64 × am_H)} (hb : Ref_tells_243_b g v0 v1 v4 v6 s0 h = some r) : Eqs h r.2 := by
  unfold Ref_tells_243_b at hb
  have w0 := Eqs.rf h
  obtain ⟨x24, e_x24, hb25⟩ := ob2 hb
  obtain ⟨h26, e_h26, hb27⟩ := ob2 hb25
  have w28 := w0.tr (pV_q e_h26)
  obtain ⟨r29, e_r29, hb30⟩ := ob2 hb27
  have w31 := w28.tr (Ref_passes0_q e_r29)
  by_cases q : r29.1 = (0 : Int32)
  · have hb32 := ip q hb30
    exact w31.tr (hg _ _ hb32)
  · have hb33 := iq q hb30
    obtain ⟨r34, e_r34, hb35⟩ := ob2 hb33
    have w36 := w31.tr (Ref_testOf_q e_r34)
    by_cases q : r34.1 = (0 : Int32)
    · have hb37 := ip q hb35
      exact w36.tr (hg _ _ hb37)
    · have hb38 := iq q hb35
      exact w36.tr (hg _ _ hb38)
set_option maxHeartbeats 1000000 in
set_option maxRecDepth 100000 in
theorem Ref_tells_272_r {g : (Nat × Int32 × Int32 × Int32 × Int32 × Int64 × Int64 × Nat × Nat × am_H) → Option (Int64 × am_H)} (hg : ∀ s r, g s = some r → Eqs s.2.2.2.2.2.2.2.2.2 r.2) {v0 : Nat} {v1 : Int32} {v4 : Int64} {v6 : Int32} {v7 : Int64} {v9 : Int32} {h : am_H} {r : (Int64 × am_H)} (hb : Ref_tells_272_b g v0 v1 v4 v6 v7 v9 h = some r) : Eqs h r.2 := by
  unfold Ref_tells_272_b at hb
  have w0 := Eqs.rf h
  exact w0.tr (hg _ _ hb)
set_option maxHeartbeats 1000000 in
set_option maxRecDepth 100000 in
theorem Ref_tells_277_r {g : (Nat × Int32 × Int32 × Int32 × Int32 × Int64 × Int64 × Nat × Nat × am_H) → Option (Int64 × am_H)} (hg : ∀ s r, g s = some r → Eqs s.2.2.2.2.2.2.2.2.2 r.2) {v0 : Nat} {v1 : Int32} {v4 : Int64} {v6 : Int32} {v7 : Int64} {v9 : Int32} {s0 : Int32} {h : am_H} {r : (Int64 × am_H)} (hb : Ref_tells_277_b g v0 v1 v4 v6 v7 v9 s0 h = some r) : Eqs h r.2 := by
  unfold Ref_tells_277_b at hb
  have w0 := Eqs.rf h
  by_cases q : s0 = (0 : Int32)
  · have hb39 := ip q hb
    exact w0.tr (hg _ _ hb39)
  · have hb40 := iq q hb
    obtain ⟨x41, e_x41, hb42⟩ := ob2 hb40
    by_cases q : x41 = (0 : Int32)
    · have hb44 := ip q hb42
      by_cases q : v9 = (0 : Int32)
      · have hb46 := ip q hb44
        exact w0.tr (hg _ _ hb46)
      · have hb45 := iq q hb44
        exact w0.tr (hg _ _ hb45)
    · have hb43 := iq q hb42
      exact w0.tr (hg _ _ hb43)
set_option maxHeartbeats 1000000 in
set_option maxRecDepth 100000 in
theorem Ref_tells_300_r {g : (Nat × Int32 × Int32 × Int32 × Int32 × Int64 × Int64 × Nat × Nat × am_H) → Option (Int64 × am_H)} (hg : ∀ s r, g s = some r → Eqs s.2.2.2.2.2.2.2.2.2 r.2) {v0 : Nat} {v1 : Int32} {v4 : Int64} {v6 : Int32} {v7 : Int64} {h : am_H} {r : (Int64 × am_H)} (hb : Ref_tells_300_b g v0 v1 v4 v6 v7 h = some r) : Eqs h r.2 := by
  unfold Ref_tells_300_b at hb
  have w0 := Eqs.rf h
  exact w0.tr (hg _ _ hb)
set_option maxHeartbeats 1000000 in
set_option maxRecDepth 100000 in
theorem Ref_tells_301_r {g : (Nat × Int32 × Int32 × Int32 × Int32 × Int64 × Int64 × Nat × Nat × am_H) → Option (Int64 × am_H)} (hg : ∀ s r, g s = some r → Eqs s.2.2.2.2.2.2.2.2.2 r.2) {v0 : Nat} {v1 : Int32} {v4 : Int64} {v6 : Int32} {v7 : Int64} {s0 : Int32} {h : am_H} {r : (Int64 × am_H)} (hb : Ref_tells_301_b g v0 v1 v4 v6 v7 s0 h = some r) : Eqs h r.2 := by
  unfold Ref_tells_301_b at hb
  have w0 := Eqs.rf h
  obtain ⟨x47, e_x47, hb48⟩ := ob2 hb
  by_cases q : x47 = (0 : Int32)
  · have hb50 := ip q hb48
    by_cases q : v6 = v1
    · have hb52 := ip q hb50
      exact w0.tr (hg _ _ hb52)
    · have hb51 := iq q hb50
      exact w0.tr (hg _ _ hb51)
  · have hb49 := iq q hb48
    exact w0.tr (hg _ _ hb49)
set_option maxHeartbeats 1000000 in
set_option maxRecDepth 100000 in
theorem Ref_tells_317_r {g : (Nat × Int32 × Int32 × Int32 × Int32 × Int64 × Int64 × Nat × Nat × am_H) → Option (Int64 × am_H)} (hg : ∀ s r, g s = some r → Eqs s.2.2.2.2.2.2.2.2.2 r.2) {v0 : Nat} {v1 : Int32} {v4 : Int64} {v6 : Int32} {v7 : Int64} {v10 : Int32} {s0 : Nat} {h : am_H} {r : (Int64 × am_H)} (hb : Ref_tells_317_b g v0 v1 v4 v6 v7 v10 s0 h = some r) : Eqs h r.2 := by
  unfold Ref_tells_317_b at hb
  have w0 := Eqs.rf h
  exact w0.tr (hg _ _ hb)
set_option maxHeartbeats 1000000 in
set_option maxRecDepth 100000 in
theorem Ref_tells_322_r {g : (Nat × Int32 × Int32 × Int32 × Int32 × Int64 × Int64 × Nat × Nat × am_H) → Option (Int64 × am_H)} (hg : ∀ s r, g s = some r → Eqs s.2.2.2.2.2.2.2.2.2 r.2) {v0 : Nat} {v1 : Int32} {v4 : Int64} {v6 : Int32} {v7 : Int64} {v10 : Int32} {s0 : Int32} {s1 : Nat} {h : am_H} {r : (Int64 × am_H)} (hb : Ref_tells_322_b g v0 v1 v4 v6 v7 v10 s0 s1 h = some r) : Eqs h r.2 := by
  unfold Ref_tells_322_b at hb
  have w0 := Eqs.rf h
  obtain ⟨u53, e_u53, hb54⟩ := ob2 hb
  obtain ⟨h55, e_h55, hb56⟩ := ob2 hb54
  have w57 := w0.tr (pV_q e_h55)
  by_cases q : v6 = v1
  · have hb59 := ip q hb56
    by_cases q : v10 = (0 : Int32)
    · have hb60 := ip q hb59
      exact w57.tr (hg _ _ hb60)
    · have hb61 := iq q hb59
      obtain ⟨h62, e_h62, hb63⟩ := ob2 hb61
      have w64 := w57.tr (pV_q e_h62)
      exact w64.tr (hg _ _ hb63)
  · have hb58 := iq q hb56
    exact w57.tr (hg _ _ hb58)
set_option maxHeartbeats 1000000 in
set_option maxRecDepth 100000 in
theorem Ref_tells_345_r {g : (Nat × Int32 × Int32 × Int32 × Int32 × Int64 × Int64 × Nat × Nat × am_H) → Option (Int64 × am_H)} (hg : ∀ s r, g s = some r → Eqs s.2.2.2.2.2.2.2.2.2 r.2) {v0 : Nat} {v1 : Int32} {v4 : Int64} {h : am_H} {r : (Int64 × am_H)} (hb : Ref_tells_345_b g v0 v1 v4 h = some r) : Eqs h r.2 := by
  unfold Ref_tells_345_b at hb
  have w0 := Eqs.rf h
  obtain ⟨x65, e_x65, hb66⟩ := ob2 hb
  obtain ⟨h67, e_h67, hb68⟩ := ob2 hb66
  have w69 := w0.tr (pV_q e_h67)
  exact w69.tr (hg _ _ hb68)
theorem Ref_tells_192_Q : ∀ s r, fx Ref_tells_192_F Ref_tells_192_M s = some r → Eqs s.2.2.2.2.2.2.2.2.2 r.2 := fx_ind Ref_tells_192_M (fun s r => Eqs s.2.2.2.2.2.2.2.2.2 r.2) (fun g hg s r hb => by
  unfold Ref_tells_192_F at hb
  by_cases q0 : s.1 = 192
  · exact Ref_tells_192_r hg (ip q0 hb)
  · have hb0 := iq q0 hb
    by_cases q1 : s.1 = 243
    · exact Ref_tells_243_r hg (ip q1 hb0)
    · have hb1 := iq q1 hb0
      by_cases q2 : s.1 = 272
      · exact Ref_tells_272_r hg (ip q2 hb1)
      · have hb2 := iq q2 hb1
        by_cases q3 : s.1 = 277
        · exact Ref_tells_277_r hg (ip q3 hb2)
        · have hb3 := iq q3 hb2
          by_cases q4 : s.1 = 300
          · exact Ref_tells_300_r hg (ip q4 hb3)
          · have hb4 := iq q4 hb3
            by_cases q5 : s.1 = 301
            · exact Ref_tells_301_r hg (ip q5 hb4)
            · have hb5 := iq q5 hb4
              by_cases q6 : s.1 = 317
              · exact Ref_tells_317_r hg (ip q6 hb5)
              · have hb6 := iq q6 hb5
                by_cases q7 : s.1 = 322
                · exact Ref_tells_322_r hg (ip q7 hb6)
                · have hb7 := iq q7 hb6
                  by_cases q8 : s.1 = 345
                  · exact Ref_tells_345_r hg (ip q8 hb7)
                  · have hb8 := iq q8 hb7
                    exact nomatch hb8)
noncomputable def Ref_tells_192 (v0 : Nat) (v1 : Int32) (v4 : Int64) (h : am_H) : Option (Int64 × am_H) := fx Ref_tells_192_F Ref_tells_192_M (192, v1, 0, 0, 0, v4, 0, v0, 0, h)
noncomputable def Ref_tells_243 (v0 : Nat) (v1 : Int32) (v4 : Int64) (v6 : Int32) (s0 : Int64) (h : am_H) : Option (Int64 × am_H) := fx Ref_tells_192_F Ref_tells_192_M (243, v1, v6, 0, 0, v4, s0, v0, 0, h)
noncomputable def Ref_tells_272 (v0 : Nat) (v1 : Int32) (v4 : Int64) (v6 : Int32) (v7 : Int64) (v9 : Int32) (h : am_H) : Option (Int64 × am_H) := fx Ref_tells_192_F Ref_tells_192_M (272, v1, v6, v9, 0, v4, v7, v0, 0, h)
noncomputable def Ref_tells_277 (v0 : Nat) (v1 : Int32) (v4 : Int64) (v6 : Int32) (v7 : Int64) (v9 : Int32) (s0 : Int32) (h : am_H) : Option (Int64 × am_H) := fx Ref_tells_192_F Ref_tells_192_M (277, v1, v6, v9, s0, v4, v7, v0, 0, h)
noncomputable def Ref_tells_300 (v0 : Nat) (v1 : Int32) (v4 : Int64) (v6 : Int32) (v7 : Int64) (h : am_H) : Option (Int64 × am_H) := fx Ref_tells_192_F Ref_tells_192_M (300, v1, v6, 0, 0, v4, v7, v0, 0, h)
noncomputable def Ref_tells_301 (v0 : Nat) (v1 : Int32) (v4 : Int64) (v6 : Int32) (v7 : Int64) (s0 : Int32) (h : am_H) : Option (Int64 × am_H) := fx Ref_tells_192_F Ref_tells_192_M (301, v1, v6, s0, 0, v4, v7, v0, 0, h)
noncomputable def Ref_tells_317 (v0 : Nat) (v1 : Int32) (v4 : Int64) (v6 : Int32) (v7 : Int64) (v10 : Int32) (s0 : Nat) (h : am_H) : Option (Int64 × am_H) := fx Ref_tells_192_F Ref_tells_192_M (317, v1, v6, v10, 0, v4, v7, v0, s0, h)
noncomputable def Ref_tells_322 (v0 : Nat) (v1 : Int32) (v4 : Int64) (v6 : Int32) (v7 : Int64) (v10 : Int32) (s0 : Int32) (s1 : Nat) (h : am_H) : Option (Int64 × am_H) := fx Ref_tells_192_F Ref_tells_192_M (322, v1, v6, v10, s0, v4, v7, v0, s1, h)
noncomputable def Ref_tells_345 (v0 : Nat) (v1 : Int32) (v4 : Int64) (h : am_H) : Option (Int64 × am_H) := fx Ref_tells_192_F Ref_tells_192_M (345, v1, 0, 0, 0, v4, 0, v0, 0, h)
set_option maxHeartbeats 1000000 in
set_option maxRecDepth 100000 in
theorem Ref_tells_192_e (v0 : Nat) (v1 : Int32) (v4 : Int64) (h : am_H) : Ref_tells_192 v0 v1 v4 h = ((gI h 12 v0 21).bind fun x1 => (gI h 12 v0 22).bind fun x3 => if x3 ≤ x1 then some (v4, h) else (gI h 12 v0 21).bind fun x7 => (Ref_codeAt v0 x7 h).bind fun x9 => (pV h 12 v0 23 (.int (0 : Int32))).bind fun h11 => (gI h11 12 v0 21).bind fun x14 => (pV h11 12 v0 21 (.int (x14 + (1 : Int32)))).bind fun h16 => if x9 = (3 : Int32) then Ref_tells_243 v0 v1 v4 x9 (1 : Int64) h16 else (Ref_sumOf 40 v0 (1 : Int32) h16).bind fun r21 => Ref_tells_243 v0 v1 v4 x9 r21.1 r21.2) := (fx_eq Ref_tells_192_M (192, v1, 0, 0, 0, v4, 0, v0, 0, h)).trans (if_pos rfl)
theorem Ref_tells_192_q {v0 : Nat} {v1 : Int32} {v4 : Int64} {h : am_H} {r : (Int64 × am_H)} (hb : Ref_tells_192 v0 v1 v4 h = some r) : Eqs h r.2 := Ref_tells_192_Q _ _ hb
theorem Ref_tells_192_s {v0 : Nat} {v1 : Int32} {v4 : Int64} {h : am_H} {r : (Int64 × am_H)} (hb : Ref_tells_192 v0 v1 v4 h = some r) : Sx 85 mX12_tells 192 [.ref v0, .int v1, .retAddr 0, .retAddr 0, .long v4, .retAddr 0, .retAddr 0, .retAddr 0, .retAddr 0, .retAddr 0, .retAddr 0] [] h (some (.long r.1)) r.2 := (Ref_tells_192_T _ _ hb).1 rfl
set_option maxHeartbeats 1000000 in
set_option maxRecDepth 100000 in
theorem Ref_tells_243_e (v0 : Nat) (v1 : Int32) (v4 : Int64) (v6 : Int32) (s0 : Int64) (h : am_H) : Ref_tells_243 v0 v1 v4 v6 s0 h = ((gI h 12 v0 23).bind fun x24 => (pV h 12 v0 23 (.int (0 : Int32))).bind fun h26 => (Ref_passes0 v0 (4 : Int32) h26).bind fun r29 => if r29.1 = (0 : Int32) then Ref_tells_272 v0 v1 v4 v6 s0 x24 r29.2 else (Ref_testOf 40 v0 (1 : Int32) r29.2).bind fun r34 => if r34.1 = (0 : Int32) then Ref_tells_277 v0 v1 v4 v6 s0 x24 (0 : Int32) r34.2 else Ref_tells_272 v0 v1 v4 v6 s0 x24 r34.2) := (fx_eq Ref_tells_192_M (243, v1, v6, 0, 0, v4, s0, v0, 0, h)).trans ((if_neg (show ¬ (243 : Nat) = 192 by decide)).trans (if_pos rfl))
theorem Ref_tells_243_q {v0 : Nat} {v1 : Int32} {v4 : Int64} {v6 : Int32} {s0 : Int64} {h : am_H} {r : (Int64 × am_H)} (hb : Ref_tells_243 v0 v1 v4 v6 s0 h = some r) : Eqs h r.2 := Ref_tells_192_Q _ _ hb
theorem Ref_tells_243_s {v0 : Nat} {v1 : Int32} {v4 : Int64} {v6 : Int32} {s0 : Int64} {h : am_H} {r : (Int64 × am_H)} (hb : Ref_tells_243 v0 v1 v4 v6 s0 h = some r) : Sx 85 mX12_tells 243 [.ref v0, .int v1, .retAddr 0, .retAddr 0, .long v4, .retAddr 0, .int v6, .retAddr 0, .retAddr 0, .retAddr 0, .retAddr 0] [.long s0] h (some (.long r.1)) r.2 := (Ref_tells_192_T _ _ hb).2.1 rfl
set_option maxHeartbeats 1000000 in
set_option maxRecDepth 100000 in
theorem Ref_tells_272_e (v0 : Nat) (v1 : Int32) (v4 : Int64) (v6 : Int32) (v7 : Int64) (v9 : Int32) (h : am_H) : Ref_tells_272 v0 v1 v4 v6 v7 v9 h = (Ref_tells_277 v0 v1 v4 v6 v7 v9 (1 : Int32) h) := (fx_eq Ref_tells_192_M (272, v1, v6, v9, 0, v4, v7, v0, 0, h)).trans ((if_neg (show ¬ (272 : Nat) = 192 by decide)).trans ((if_neg (show ¬ (272 : Nat) = 243 by decide)).trans (if_pos rfl)))
theorem Ref_tells_272_q {v0 : Nat} {v1 : Int32} {v4 : Int64} {v6 : Int32} {v7 : Int64} {v9 : Int32} {h : am_H} {r : (Int64 × am_H)} (hb : Ref_tells_272 v0 v1 v4 v6 v7 v9 h = some r) : Eqs h r.2 := Ref_tells_192_Q _ _ hb
theorem Ref_tells_272_s {v0 : Nat} {v1 : Int32} {v4 : Int64} {v6 : Int32} {v7 : Int64} {v9 : Int32} {h : am_H} {r : (Int64 × am_H)} (hb : Ref_tells_272 v0 v1 v4 v6 v7 v9 h = some r) : Sx 85 mX12_tells 272 [.ref v0, .int v1, .retAddr 0, .retAddr 0, .long v4, .retAddr 0, .int v6, .long v7, .retAddr 0, .int v9, .retAddr 0] [] h (some (.long r.1)) r.2 := (Ref_tells_192_T _ _ hb).2.2.1 rfl
set_option maxHeartbeats 1000000 in
set_option maxRecDepth 100000 in
theorem Ref_tells_277_e (v0 : Nat) (v1 : Int32) (v4 : Int64) (v6 : Int32) (v7 : Int64) (v9 : Int32) (s0 : Int32) (h : am_H) : Ref_tells_277 v0 v1 v4 v6 v7 v9 s0 h = (if s0 = (0 : Int32) then Ref_tells_300 v0 v1 v4 v6 v7 h else (gI h 12 v0 23).bind fun x41 => if x41 = (0 : Int32) then if v9 = (0 : Int32) then Ref_tells_301 v0 v1 v4 v6 v7 (1 : Int32) h else Ref_tells_300 v0 v1 v4 v6 v7 h else Ref_tells_300 v0 v1 v4 v6 v7 h) := (fx_eq Ref_tells_192_M (277, v1, v6, v9, s0, v4, v7, v0, 0, h)).trans ((if_neg (show ¬ (277 : Nat) = 192 by decide)).trans ((if_neg (show ¬ (277 : Nat) = 243 by decide)).trans ((if_neg (show ¬ (277 : Nat) = 272 by decide)).trans (if_pos rfl))))
theorem Ref_tells_277_q {v0 : Nat} {v1 : Int32} {v4 : Int64} {v6 : Int32} {v7 : Int64} {v9 : Int32} {s0 : Int32} {h : am_H} {r : (Int64 × am_H)} (hb : Ref_tells_277 v0 v1 v4 v6 v7 v9 s0 h = some r) : Eqs h r.2 := Ref_tells_192_Q _ _ hb
theorem Ref_tells_277_s {v0 : Nat} {v1 : Int32} {v4 : Int64} {v6 : Int32} {v7 : Int64} {v9 : Int32} {s0 : Int32} {h : am_H} {r : (Int64 × am_H)} (hb : Ref_tells_277 v0 v1 v4 v6 v7 v9 s0 h = some r) : Sx 85 mX12_tells 277 [.ref v0, .int v1, .retAddr 0, .retAddr 0, .long v4, .retAddr 0, .int v6, .long v7, .retAddr 0, .int v9, .retAddr 0] [.int s0] h (some (.long r.1)) r.2 := (Ref_tells_192_T _ _ hb).2.2.2.1 rfl
set_option maxHeartbeats 1000000 in
set_option maxRecDepth 100000 in
theorem Ref_tells_300_e (v0 : Nat) (v1 : Int32) (v4 : Int64) (v6 : Int32) (v7 : Int64) (h : am_H) : Ref_tells_300 v0 v1 v4 v6 v7 h = (Ref_tells_301 v0 v1 v4 v6 v7 (0 : Int32) h) := (fx_eq Ref_tells_192_M (300, v1, v6, 0, 0, v4, v7, v0, 0, h)).trans ((if_neg (show ¬ (300 : Nat) = 192 by decide)).trans ((if_neg (show ¬ (300 : Nat) = 243 by decide)).trans ((if_neg (show ¬ (300 : Nat) = 272 by decide)).trans ((if_neg (show ¬ (300 : Nat) = 277 by decide)).trans (if_pos rfl)))))
theorem Ref_tells_300_q {v0 : Nat} {v1 : Int32} {v4 : Int64} {v6 : Int32} {v7 : Int64} {h : am_H} {r : (Int64 × am_H)} (hb : Ref_tells_300 v0 v1 v4 v6 v7 h = some r) : Eqs h r.2 := Ref_tells_192_Q _ _ hb
theorem Ref_tells_300_s {v0 : Nat} {v1 : Int32} {v4 : Int64} {v6 : Int32} {v7 : Int64} {h : am_H} {r : (Int64 × am_H)} (hb : Ref_tells_300 v0 v1 v4 v6 v7 h = some r) : Sx 85 mX12_tells 300 [.ref v0, .int v1, .retAddr 0, .retAddr 0, .long v4, .retAddr 0, .int v6, .long v7, .retAddr 0, .retAddr 0, .retAddr 0] [] h (some (.long r.1)) r.2 := (Ref_tells_192_T _ _ hb).2.2.2.2.1 rfl
set_option maxHeartbeats 1000000 in
set_option maxRecDepth 100000 in
theorem Ref_tells_301_e (v0 : Nat) (v1 : Int32) (v4 : Int64) (v6 : Int32) (v7 : Int64) (s0 : Int32) (h : am_H) : Ref_tells_301 v0 v1 v4 v6 v7 s0 h = ((gI h 12 v0 25).bind fun x47 => if x47 = (0 : Int32) then if v6 = v1 then Ref_tells_317 v0 v1 v4 v6 v7 s0 v0 h else Ref_tells_322 v0 v1 v4 v6 v7 s0 (0 : Int32) v0 h else Ref_tells_317 v0 v1 v4 v6 v7 s0 v0 h) := (fx_eq Ref_tells_192_M (301, v1, v6, s0, 0, v4, v7, v0, 0, h)).trans ((if_neg (show ¬ (301 : Nat) = 192 by decide)).trans ((if_neg (show ¬ (301 : Nat) = 243 by decide)).trans ((if_neg (show ¬ (301 : Nat) = 272 by decide)).trans ((if_neg (show ¬ (301 : Nat) = 277 by decide)).trans ((if_neg (show ¬ (301 : Nat) = 300 by decide)).trans (if_pos rfl))))))
theorem Ref_tells_301_q {v0 : Nat} {v1 : Int32} {v4 : Int64} {v6 : Int32} {v7 : Int64} {s0 : Int32} {h : am_H} {r : (Int64 × am_H)} (hb : Ref_tells_301 v0 v1 v4 v6 v7 s0 h = some r) : Eqs h r.2 := Ref_tells_192_Q _ _ hb
theorem Ref_tells_301_s {v0 : Nat} {v1 : Int32} {v4 : Int64} {v6 : Int32} {v7 : Int64} {s0 : Int32} {h : am_H} {r : (Int64 × am_H)} (hb : Ref_tells_301 v0 v1 v4 v6 v7 s0 h = some r) : Sx 85 mX12_tells 301 [.ref v0, .int v1, .retAddr 0, .retAddr 0, .long v4, .retAddr 0, .int v6, .long v7, .retAddr 0, .retAddr 0, .retAddr 0] [.int s0] h (some (.long r.1)) r.2 := (Ref_tells_192_T _ _ hb).2.2.2.2.2.1 rfl
set_option maxHeartbeats 1000000 in
set_option maxRecDepth 100000 in
theorem Ref_tells_317_e (v0 : Nat) (v1 : Int32) (v4 : Int64) (v6 : Int32) (v7 : Int64) (v10 : Int32) (s0 : Nat) (h : am_H) : Ref_tells_317 v0 v1 v4 v6 v7 v10 s0 h = (Ref_tells_322 v0 v1 v4 v6 v7 v10 (1 : Int32) s0 h) := (fx_eq Ref_tells_192_M (317, v1, v6, v10, 0, v4, v7, v0, s0, h)).trans ((if_neg (show ¬ (317 : Nat) = 192 by decide)).trans ((if_neg (show ¬ (317 : Nat) = 243 by decide)).trans ((if_neg (show ¬ (317 : Nat) = 272 by decide)).trans ((if_neg (show ¬ (317 : Nat) = 277 by decide)).trans ((if_neg (show ¬ (317 : Nat) = 300 by decide)).trans ((if_neg (show ¬ (317 : Nat) = 301 by decide)).trans (if_pos rfl)))))))
theorem Ref_tells_317_q {v0 : Nat} {v1 : Int32} {v4 : Int64} {v6 : Int32} {v7 : Int64} {v10 : Int32} {s0 : Nat} {h : am_H} {r : (Int64 × am_H)} (hb : Ref_tells_317 v0 v1 v4 v6 v7 v10 s0 h = some r) : Eqs h r.2 := Ref_tells_192_Q _ _ hb
theorem Ref_tells_317_s {v0 : Nat} {v1 : Int32} {v4 : Int64} {v6 : Int32} {v7 : Int64} {v10 : Int32} {s0 : Nat} {h : am_H} {r : (Int64 × am_H)} (hb : Ref_tells_317 v0 v1 v4 v6 v7 v10 s0 h = some r) : Sx 85 mX12_tells 317 [.ref v0, .int v1, .retAddr 0, .retAddr 0, .long v4, .retAddr 0, .int v6, .long v7, .retAddr 0, .retAddr 0, .int v10] [.ref s0] h (some (.long r.1)) r.2 := (Ref_tells_192_T _ _ hb).2.2.2.2.2.2.1 rfl
set_option maxHeartbeats 1000000 in
set_option maxRecDepth 100000 in
theorem Ref_tells_322_e (v0 : Nat) (v1 : Int32) (v4 : Int64) (v6 : Int32) (v7 : Int64) (v10 : Int32) (s0 : Int32) (s1 : Nat) (h : am_H) : Ref_tells_322 v0 v1 v4 v6 v7 v10 s0 s1 h = ((nrZ s0).bind fun u53 => (pV h 12 s1 25 (.int s0)).bind fun h55 => if v6 = v1 then if v10 = (0 : Int32) then Ref_tells_345 v0 v1 v4 h55 else (pV h55 12 v0 26 (.int (1 : Int32))).bind fun h62 => Ref_tells_345 v0 v1 v7 h62 else Ref_tells_345 v0 v1 v4 h55) := (fx_eq Ref_tells_192_M (322, v1, v6, v10, s0, v4, v7, v0, s1, h)).trans ((if_neg (show ¬ (322 : Nat) = 192 by decide)).trans ((if_neg (show ¬ (322 : Nat) = 243 by decide)).trans ((if_neg (show ¬ (322 : Nat) = 272 by decide)).trans ((if_neg (show ¬ (322 : Nat) = 277 by decide)).trans ((if_neg (show ¬ (322 : Nat) = 300 by decide)).trans ((if_neg (show ¬ (322 : Nat) = 301 by decide)).trans ((if_neg (show ¬ (322 : Nat) = 317 by decide)).trans (if_pos rfl))))))))
theorem Ref_tells_322_q {v0 : Nat} {v1 : Int32} {v4 : Int64} {v6 : Int32} {v7 : Int64} {v10 : Int32} {s0 : Int32} {s1 : Nat} {h : am_H} {r : (Int64 × am_H)} (hb : Ref_tells_322 v0 v1 v4 v6 v7 v10 s0 s1 h = some r) : Eqs h r.2 := Ref_tells_192_Q _ _ hb
theorem Ref_tells_322_s {v0 : Nat} {v1 : Int32} {v4 : Int64} {v6 : Int32} {v7 : Int64} {v10 : Int32} {s0 : Int32} {s1 : Nat} {h : am_H} {r : (Int64 × am_H)} (hb : Ref_tells_322 v0 v1 v4 v6 v7 v10 s0 s1 h = some r) : Sx 85 mX12_tells 322 [.ref v0, .int v1, .retAddr 0, .retAddr 0, .long v4, .retAddr 0, .int v6, .long v7, .retAddr 0, .retAddr 0, .int v10] [.int s0, .ref s1] h (some (.long r.1)) r.2 := (Ref_tells_192_T _ _ hb).2.2.2.2.2.2.2.1 rfl
set_option maxHeartbeats 1000000 in
set_option maxRecDepth 100000 in
theorem Ref_tells_345_e (v0 : Nat) (v1 : Int32) (v4 : Int64) (h : am_H) : Ref_tells_345 v0 v1 v4 h = ((gI h 12 v0 21).bind fun x65 => (pV h 12 v0 21 (.int (x65 + (1 : Int32)))).bind fun h67 => Ref_tells_192 v0 v1 v4 h67) := (fx_eq Ref_tells_192_M (345, v1, 0, 0, 0, v4, 0, v0, 0, h)).trans ((if_neg (show ¬ (345 : Nat) = 192 by decide)).trans ((if_neg (show ¬ (345 : Nat) = 243 by decide)).trans ((if_neg (show ¬ (345 : Nat) = 272 by decide)).trans ((if_neg (show ¬ (345 : Nat) = 277 by decide)).trans ((if_neg (show ¬ (345 : Nat) = 300 by decide)).trans ((if_neg (show ¬ (345 : Nat) = 301 by decide)).trans ((if_neg (show ¬ (345 : Nat) = 317 by decide)).trans ((if_neg (show ¬ (345 : Nat) = 322 by decide)).trans (if_pos rfl)))))))))
theorem Ref_tells_345_q {v0 : Nat} {v1 : Int32} {v4 : Int64} {h : am_H} {r : (Int64 × am_H)} (hb : Ref_tells_345 v0 v1 v4 h = some r) : Eqs h r.2 := Ref_tells_192_Q _ _ hb
theorem Ref_tells_345_s {v0 : Nat} {v1 : Int32} {v4 : Int64} {h : am_H} {r : (Int64 × am_H)} (hb : Ref_tells_345 v0 v1 v4 h = some r) : Sx 85 mX12_tells 345 [.ref v0, .int v1, .retAddr 0, .retAddr 0, .long v4, .retAddr 0, .retAddr 0, .retAddr 0, .retAddr 0, .retAddr 0, .retAddr 0] [] h (some (.long r.1)) r.2 := (Ref_tells_192_T _ _ hb).2.2.2.2.2.2.2.2.1 rfl
set_option maxHeartbeats 1000000 in
set_option maxRecDepth 100000 in
noncomputable def Ref_tells_70 (v0 : Nat) (v1 : Int32) (v2 : Int64) (s0 : Int32) (s1 : Int32) (s2 : Nat) (h : am_H) : Option (Int64 × am_H) := (sI h s2 s1 s0).bind fun h70 => (gR h70 12 v0 27).bind fun x73 => (gR h70 12 v0 29).bind fun x75 => (gI h70 12 v0 31).bind fun x77 => (aI h70 0 x75 (x77 - (1 : Int32))).bind fun x79 => (sI h70 x73 (2 : Int32) x79).bind fun h81 => (gR h81 12 v0 27).bind fun x84 => (gI h81 12 v0 32).bind fun x86 => (sI h81 x84 (3 : Int32) x86).bind fun h88 => (gR h88 12 v0 27).bind fun x91 => (gI h88 12 v0 33).bind fun x93 => (sI h88 x91 (4 : Int32) x93).bind fun h95 => (gR h95 12 v0 27).bind fun x98 => (gR h95 12 v0 2).bind fun x100 => (aI h95 0 x100 (113 : Int32)).bind fun x102 => (sI h95 x98 (5 : Int32) x102).bind fun h104 => (gR h104 12 v0 27).bind fun x107 => (gR h104 12 v0 29).bind fun x109 => (aI h104 0 x109 (0 : Int32)).bind fun x111 => (sI h104 x107 (6 : Int32) x111).bind fun h113 => (gR h113 12 v0 27).bind fun x116 => (gI h113 12 v0 31).bind fun x118 => (sI h113 x116 (7 : Int32) x118).bind fun h120 => (pV h120 12 v0 24 (.int (0 : Int32))).bind fun h123 => (gR h123 12 v0 2).bind fun x126 => (aI h123 0 x126 (117 : Int32)).bind fun x128 => (pV h123 12 v0 21 (.int ((400 : Int32) * x128))).bind fun h130 => (gI h130 12 v0 21).bind fun x133 => (gR h130 12 v0 2).bind fun x135 => (gR h130 12 v0 2).bind fun x137 => (aI h130 0 x137 (117 : Int32)).bind fun x139 => (aI h130 0 x135 ((118 : Int32) + x139)).bind fun x141 => (pV h130 12 v0 22 (.int (x133 + x141))).bind fun h143 => Ref_tells_192 v0 v1 v2 h143
set_option maxHeartbeats 1000000 in
set_option maxRecDepth 100000 in
theorem Ref_tells_70_s {v0 : Nat} {v1 : Int32} {v2 : Int64} {s0 : Int32} {s1 : Int32} {s2 : Nat} {h : am_H} {r : (Int64 × am_H)} (hb : Ref_tells_70 v0 v1 v2 s0 s1 s2 h = some r) : Sx 85 mX12_tells 70 [.ref v0, .int v1, .long v2, .retAddr 0, .retAddr 0, .retAddr 0, .retAddr 0, .retAddr 0, .retAddr 0, .retAddr 0, .retAddr 0] [.int s0, .int s1, .ref s2] h (some (.long r.1)) r.2 := by
  unfold Ref_tells_70 at hb
  obtain ⟨h70, e_h70, hb71⟩ := ob2 hb
  refine Sx.p (sI_q e_h70) (fun _ _ _ k => op_iast dX12_tells_70 e_h70 k) ?_
  refine Sx.o (fun _ _ _ k => ex_aload_n dX12_tells_71 rfl rfl k) ?_
  obtain ⟨x73, e_x73, hb74⟩ := ob2 hb71
  refine Sx.o (fun _ _ _ k => op_getR fX12_59 dX12_tells_72 e_x73 k) ?_
  refine Sx.o (fun _ _ _ k => op_iconst (2 : Int32) dX12_tells_75 (by decide) k) ?_
  refine Sx.o (fun _ _ _ k => ex_aload_n dX12_tells_76 rfl rfl k) ?_
  obtain ⟨x75, e_x75, hb76⟩ := ob2 hb74
  refine Sx.o (fun _ _ _ k => op_getR fX12_65 dX12_tells_77 e_x75 k) ?_
  refine Sx.o (fun _ _ _ k => ex_aload_n dX12_tells_80 rfl rfl k) ?_
  obtain ⟨x77, e_x77, hb78⟩ := ob2 hb76
  refine Sx.o (fun _ _ _ k => op_getI fX12_130 dX12_tells_81 e_x77 k) ?_
  refine Sx.o (fun _ _ _ k => op_iconst (1 : Int32) dX12_tells_84 (by decide) k) ?_
  refine Sx.o (fun _ _ _ k => ex_isub dX12_tells_85 k) ?_
  obtain ⟨x79, e_x79, hb80⟩ := ob2 hb78
  refine Sx.o (fun _ _ _ k => op_iald dX12_tells_86 e_x79 k) ?_
  obtain ⟨h81, e_h81, hb82⟩ := ob2 hb80
  refine Sx.p (sI_q e_h81) (fun _ _ _ k => op_iast dX12_tells_87 e_h81 k) ?_
  refine Sx.o (fun _ _ _ k => ex_aload_n dX12_tells_88 rfl rfl k) ?_
  obtain ⟨x84, e_x84, hb85⟩ := ob2 hb82
  refine Sx.o (fun _ _ _ k => op_getR fX12_59 dX12_tells_89 e_x84 k) ?_
  refine Sx.o (fun _ _ _ k => op_iconst (3 : Int32) dX12_tells_92 (by decide) k) ?_
  refine Sx.o (fun _ _ _ k => ex_aload_n dX12_tells_93 rfl rfl k) ?_
  obtain ⟨x86, e_x86, hb87⟩ := ob2 hb85
  refine Sx.o (fun _ _ _ k => op_getI fX12_133 dX12_tells_94 e_x86 k) ?_
  obtain ⟨h88, e_h88, hb89⟩ := ob2 hb87
  refine Sx.p (sI_q e_h88) (fun _ _ _ k => op_iast dX12_tells_97 e_h88 k) ?_
  refine Sx.o (fun _ _ _ k => ex_aload_n dX12_tells_98 rfl rfl k) ?_
  obtain ⟨x91, e_x91, hb92⟩ := ob2 hb89
  refine Sx.o (fun _ _ _ k => op_getR fX12_59 dX12_tells_99 e_x91 k) ?_
  refine Sx.o (fun _ _ _ k => op_iconst (4 : Int32) dX12_tells_102 (by decide) k) ?_
  refine Sx.o (fun _ _ _ k => ex_aload_n dX12_tells_103 rfl rfl k) ?_
  obtain ⟨x93, e_x93, hb94⟩ := ob2 hb92
  refine Sx.o (fun _ _ _ k => op_getI fX12_313 dX12_tells_104 e_x93 k) ?_
  obtain ⟨h95, e_h95, hb96⟩ := ob2 hb94
  refine Sx.p (sI_q e_h95) (fun _ _ _ k => op_iast dX12_tells_107 e_h95 k) ?_
  refine Sx.o (fun _ _ _ k => ex_aload_n dX12_tells_108 rfl rfl k) ?_
  obtain ⟨x98, e_x98, hb99⟩ := ob2 hb96
  refine Sx.o (fun _ _ _ k => op_getR fX12_59 dX12_tells_109 e_x98 k) ?_
  refine Sx.o (fun _ _ _ k => op_iconst (5 : Int32) dX12_tells_112 (by decide) k) ?_
  refine Sx.o (fun _ _ _ k => ex_aload_n dX12_tells_113 rfl rfl k) ?_
  obtain ⟨x100, e_x100, hb101⟩ := ob2 hb99
  refine Sx.o (fun _ _ _ k => op_getR fX12_24 dX12_tells_114 e_x100 k) ?_
  refine Sx.o (fun _ _ _ k => op_bipush (113 : Int32) dX12_tells_117 (by decide) k) ?_
  obtain ⟨x102, e_x102, hb103⟩ := ob2 hb101
  refine Sx.o (fun _ _ _ k => op_iald dX12_tells_119 e_x102 k) ?_
  obtain ⟨h104, e_h104, hb105⟩ := ob2 hb103
  refine Sx.p (sI_q e_h104) (fun _ _ _ k => op_iast dX12_tells_120 e_h104 k) ?_
  refine Sx.o (fun _ _ _ k => ex_aload_n dX12_tells_121 rfl rfl k) ?_
  obtain ⟨x107, e_x107, hb108⟩ := ob2 hb105
  refine Sx.o (fun _ _ _ k => op_getR fX12_59 dX12_tells_122 e_x107 k) ?_
  refine Sx.o (fun _ _ _ k => op_bipush (6 : Int32) dX12_tells_125 (by decide) k) ?_
  refine Sx.o (fun _ _ _ k => ex_aload_n dX12_tells_127 rfl rfl k) ?_
  obtain ⟨x109, e_x109, hb110⟩ := ob2 hb108
  refine Sx.o (fun _ _ _ k => op_getR fX12_65 dX12_tells_128 e_x109 k) ?_
  refine Sx.o (fun _ _ _ k => op_iconst (0 : Int32) dX12_tells_131 (by decide) k) ?_
  obtain ⟨x111, e_x111, hb112⟩ := ob2 hb110
  refine Sx.o (fun _ _ _ k => op_iald dX12_tells_132 e_x111 k) ?_
  obtain ⟨h113, e_h113, hb114⟩ := ob2 hb112
  refine Sx.p (sI_q e_h113) (fun _ _ _ k => op_iast dX12_tells_133 e_h113 k) ?_
  refine Sx.o (fun _ _ _ k => ex_aload_n dX12_tells_134 rfl rfl k) ?_
  obtain ⟨x116, e_x116, hb117⟩ := ob2 hb114
  refine Sx.o (fun _ _ _ k => op_getR fX12_59 dX12_tells_135 e_x116 k) ?_
  refine Sx.o (fun _ _ _ k => op_bipush (7 : Int32) dX12_tells_138 (by decide) k) ?_
  refine Sx.o (fun _ _ _ k => ex_aload_n dX12_tells_140 rfl rfl k) ?_
  obtain ⟨x118, e_x118, hb119⟩ := ob2 hb117
  refine Sx.o (fun _ _ _ k => op_getI fX12_130 dX12_tells_141 e_x118 k) ?_
  obtain ⟨h120, e_h120, hb121⟩ := ob2 hb119
  refine Sx.p (sI_q e_h120) (fun _ _ _ k => op_iast dX12_tells_144 e_h120 k) ?_
  refine Sx.o (fun _ _ _ k => ex_aload_n dX12_tells_145 rfl rfl k) ?_
  refine Sx.o (fun _ _ _ k => op_iconst (0 : Int32) dX12_tells_146 (by decide) k) ?_
  obtain ⟨h123, e_h123, hb124⟩ := ob2 hb121
  refine Sx.p (pV_q e_h123) (fun _ _ _ k => op_put pX12_289 dX12_tells_147 e_h123 (fun _ => rfl) (fun _ => rfl) k) ?_
  refine Sx.o (fun _ _ _ k => ex_lload_n dX12_tells_150 rfl k) ?_
  refine Sx.o (L' := [.ref v0, .int v1, .long v2, .retAddr 0, .long v2, .retAddr 0, .retAddr 0, .retAddr 0, .retAddr 0, .retAddr 0, .retAddr 0]) (fun _ _ _ k => ex_lstore dX12_tells_151 (by decide) k) ?_
  refine Sx.o (fun _ _ _ k => ex_aload_n dX12_tells_153 rfl rfl k) ?_
  refine Sx.o (fun _ _ _ k => op_sipush (400 : Int32) dX12_tells_154 (by decide) k) ?_
  refine Sx.o (fun _ _ _ k => ex_aload_n dX12_tells_157 rfl rfl k) ?_
  obtain ⟨x126, e_x126, hb127⟩ := ob2 hb124
  refine Sx.o (fun _ _ _ k => op_getR fX12_24 dX12_tells_158 e_x126 k) ?_
  refine Sx.o (fun _ _ _ k => op_bipush (117 : Int32) dX12_tells_161 (by decide) k) ?_
  obtain ⟨x128, e_x128, hb129⟩ := ob2 hb127
  refine Sx.o (fun _ _ _ k => op_iald dX12_tells_163 e_x128 k) ?_
  refine Sx.o (fun _ _ _ k => ex_imul dX12_tells_164 k) ?_
  obtain ⟨h130, e_h130, hb131⟩ := ob2 hb129
  refine Sx.p (pV_q e_h130) (fun _ _ _ k => op_put pX12_256 dX12_tells_165 e_h130 (fun _ => rfl) (fun _ => rfl) k) ?_
  refine Sx.o (fun _ _ _ k => ex_aload_n dX12_tells_168 rfl rfl k) ?_
  refine Sx.o (fun _ _ _ k => ex_aload_n dX12_tells_169 rfl rfl k) ?_
  obtain ⟨x133, e_x133, hb134⟩ := ob2 hb131
  refine Sx.o (fun _ _ _ k => op_getI fX12_256 dX12_tells_170 e_x133 k) ?_
  refine Sx.o (fun _ _ _ k => ex_aload_n dX12_tells_173 rfl rfl k) ?_
  obtain ⟨x135, e_x135, hb136⟩ := ob2 hb134
  refine Sx.o (fun _ _ _ k => op_getR fX12_24 dX12_tells_174 e_x135 k) ?_
  refine Sx.o (fun _ _ _ k => op_bipush (118 : Int32) dX12_tells_177 (by decide) k) ?_
  refine Sx.o (fun _ _ _ k => ex_aload_n dX12_tells_179 rfl rfl k) ?_
  obtain ⟨x137, e_x137, hb138⟩ := ob2 hb136
  refine Sx.o (fun _ _ _ k => op_getR fX12_24 dX12_tells_180 e_x137 k) ?_
  refine Sx.o (fun _ _ _ k => op_bipush (117 : Int32) dX12_tells_183 (by decide) k) ?_
  obtain ⟨x139, e_x139, hb140⟩ := ob2 hb138
  refine Sx.o (fun _ _ _ k => op_iald dX12_tells_185 e_x139 k) ?_
  refine Sx.o (fun _ _ _ k => ex_iadd dX12_tells_186 k) ?_
  obtain ⟨x141, e_x141, hb142⟩ := ob2 hb140
  refine Sx.o (fun _ _ _ k => op_iald dX12_tells_187 e_x141 k) ?_
  refine Sx.o (fun _ _ _ k => ex_iadd dX12_tells_188 k) ?_
  obtain ⟨h143, e_h143, hb144⟩ := ob2 hb142
  refine Sx.p (pV_q e_h143) (fun _ _ _ k => op_put pX12_253 dX12_tells_189 e_h143 (fun _ => rfl) (fun _ => rfl) k) ?_
  refine Sx.fg [true, true, false, true, true, true, true, true, true, true, true] ?_
  exact Ref_tells_192_s hb144
set_option maxHeartbeats 1000000 in
set_option maxRecDepth 100000 in
theorem Ref_tells_70_q {v0 : Nat} {v1 : Int32} {v2 : Int64} {s0 : Int32} {s1 : Int32} {s2 : Nat} {h : am_H} {r : (Int64 × am_H)} (hb : Ref_tells_70 v0 v1 v2 s0 s1 s2 h = some r) : Eqs h r.2 := by
  unfold Ref_tells_70 at hb
  have w0 := Eqs.rf h
  obtain ⟨h70, e_h70, hb71⟩ := ob2 hb
  have w72 := w0.tr (sI_q e_h70)
  obtain ⟨x73, e_x73, hb74⟩ := ob2 hb71
  obtain ⟨x75, e_x75, hb76⟩ := ob2 hb74
  obtain ⟨x77, e_x77, hb78⟩ := ob2 hb76
  obtain ⟨x79, e_x79, hb80⟩ := ob2 hb78
  obtain ⟨h81, e_h81, hb82⟩ := ob2 hb80
  have w83 := w72.tr (sI_q e_h81)
  obtain ⟨x84, e_x84, hb85⟩ := ob2 hb82
  obtain ⟨x86, e_x86, hb87⟩ := ob2 hb85
  obtain ⟨h88, e_h88, hb89⟩ := ob2 hb87
  have w90 := w83.tr (sI_q e_h88)
  obtain ⟨x91, e_x91, hb92⟩ := ob2 hb89
  obtain ⟨x93, e_x93, hb94⟩ := ob2 hb92
  obtain ⟨h95, e_h95, hb96⟩ := ob2 hb94
  have w97 := w90.tr (sI_q e_h95)
  obtain ⟨x98, e_x98, hb99⟩ := ob2 hb96
  obtain ⟨x100, e_x100, hb101⟩ := ob2 hb99
  obtain ⟨x102, e_x102, hb103⟩ := ob2 hb101
  obtain ⟨h104, e_h104, hb105⟩ := ob2 hb103
  have w106 := w97.tr (sI_q e_h104)
  obtain ⟨x107, e_x107, hb108⟩ := ob2 hb105
  obtain ⟨x109, e_x109, hb110⟩ := ob2 hb108
  obtain ⟨x111, e_x111, hb112⟩ := ob2 hb110
  obtain ⟨h113, e_h113, hb114⟩ := ob2 hb112
  have w115 := w106.tr (sI_q e_h113)
  obtain ⟨x116, e_x116, hb117⟩ := ob2 hb114
  obtain ⟨x118, e_x118, hb119⟩ := ob2 hb117
  obtain ⟨h120, e_h120, hb121⟩ := ob2 hb119
  have w122 := w115.tr (sI_q e_h120)
  obtain ⟨h123, e_h123, hb124⟩ := ob2 hb121
  have w125 := w122.tr (pV_q e_h123)
  obtain ⟨x126, e_x126, hb127⟩ := ob2 hb124
  obtain ⟨x128, e_x128, hb129⟩ := ob2 hb127
  obtain ⟨h130, e_h130, hb131⟩ := ob2 hb129
  have w132 := w125.tr (pV_q e_h130)
  obtain ⟨x133, e_x133, hb134⟩ := ob2 hb131
  obtain ⟨x135, e_x135, hb136⟩ := ob2 hb134
  obtain ⟨x137, e_x137, hb138⟩ := ob2 hb136
  obtain ⟨x139, e_x139, hb140⟩ := ob2 hb138
  obtain ⟨x141, e_x141, hb142⟩ := ob2 hb140
  obtain ⟨h143, e_h143, hb144⟩ := ob2 hb142
  have w145 := w132.tr (pV_q e_h143)
  exact w145.tr (Ref_tells_192_q hb144)
set_option maxHeartbeats 1000000 in
set_option maxRecDepth 100000 in
noncomputable def Ref_tells_46 (v0 : Nat) (v1 : Int32) (v2 : Int64) (s0 : Int32) (s1 : Int32) (s2 : Nat) (h : am_H) : Option (Int64 × am_H) := (sI h s2 s1 s0).bind fun h146 => (gR h146 12 v0 27).bind fun x149 => (gI h146 12 v0 31).bind fun x151 => if x151 ≤ (2 : Int32) then Ref_tells_70 v0 v1 v2 (-1 : Int32) (1 : Int32) x149 h146 else (gR h146 12 v0 29).bind fun x155 => (aI h146 0 x155 (2 : Int32)).bind fun x157 => Ref_tells_70 v0 v1 v2 x157 (1 : Int32) x149 h146
set_option maxHeartbeats 1000000 in
set_option maxRecDepth 100000 in
theorem Ref_tells_46_s {v0 : Nat} {v1 : Int32} {v2 : Int64} {s0 : Int32} {s1 : Int32} {s2 : Nat} {h : am_H} {r : (Int64 × am_H)} (hb : Ref_tells_46 v0 v1 v2 s0 s1 s2 h = some r) : Sx 85 mX12_tells 46 [.ref v0, .int v1, .long v2, .retAddr 0, .retAddr 0, .retAddr 0, .retAddr 0, .retAddr 0, .retAddr 0, .retAddr 0, .retAddr 0] [.int s0, .int s1, .ref s2] h (some (.long r.1)) r.2 := by
  unfold Ref_tells_46 at hb
  obtain ⟨h146, e_h146, hb147⟩ := ob2 hb
  refine Sx.p (sI_q e_h146) (fun _ _ _ k => op_iast dX12_tells_46 e_h146 k) ?_
  refine Sx.o (fun _ _ _ k => ex_aload_n dX12_tells_47 rfl rfl k) ?_
  obtain ⟨x149, e_x149, hb150⟩ := ob2 hb147
  refine Sx.o (fun _ _ _ k => op_getR fX12_59 dX12_tells_48 e_x149 k) ?_
  refine Sx.o (fun _ _ _ k => op_iconst (1 : Int32) dX12_tells_51 (by decide) k) ?_
  refine Sx.o (fun _ _ _ k => ex_aload_n dX12_tells_52 rfl rfl k) ?_
  obtain ⟨x151, e_x151, hb152⟩ := ob2 hb150
  refine Sx.o (fun _ _ _ k => op_getI fX12_130 dX12_tells_53 e_x151 k) ?_
  refine Sx.o (fun _ _ _ k => op_iconst (2 : Int32) dX12_tells_56 (by decide) k) ?_
  refine Sx.b (fun _ _ _ k1 k2 => ex_icmp_le 69 dX12_tells_57 (by decide) k1 k2) (fun q => ?_) (fun q => ?_)
  · have hb153 := ip q hb152
    refine Sx.o (fun _ _ _ k => op_iconst (-1 : Int32) dX12_tells_69 (by decide) k) ?_
    exact Ref_tells_70_s hb153
  · have hb154 := iq q hb152
    refine Sx.o (fun _ _ _ k => ex_aload_n dX12_tells_60 rfl rfl k) ?_
    obtain ⟨x155, e_x155, hb156⟩ := ob2 hb154
    refine Sx.o (fun _ _ _ k => op_getR fX12_65 dX12_tells_61 e_x155 k) ?_
    refine Sx.o (fun _ _ _ k => op_iconst (2 : Int32) dX12_tells_64 (by decide) k) ?_
    obtain ⟨x157, e_x157, hb158⟩ := ob2 hb156
    refine Sx.o (fun _ _ _ k => op_iald dX12_tells_65 e_x157 k) ?_
    refine Sx.o (fun _ _ _ k => ex_goto 70 dX12_tells_66 (by decide) k) ?_
    exact Ref_tells_70_s hb158
set_option maxHeartbeats 1000000 in
set_option maxRecDepth 100000 in
theorem Ref_tells_46_q {v0 : Nat} {v1 : Int32} {v2 : Int64} {s0 : Int32} {s1 : Int32} {s2 : Nat} {h : am_H} {r : (Int64 × am_H)} (hb : Ref_tells_46 v0 v1 v2 s0 s1 s2 h = some r) : Eqs h r.2 := by
  unfold Ref_tells_46 at hb
  have w0 := Eqs.rf h
  obtain ⟨h146, e_h146, hb147⟩ := ob2 hb
  have w148 := w0.tr (sI_q e_h146)
  obtain ⟨x149, e_x149, hb150⟩ := ob2 hb147
  obtain ⟨x151, e_x151, hb152⟩ := ob2 hb150
  by_cases q : x151 ≤ (2 : Int32)
  · have hb153 := ip q hb152
    exact w148.tr (Ref_tells_70_q hb153)
  · have hb154 := iq q hb152
    obtain ⟨x155, e_x155, hb156⟩ := ob2 hb154
    obtain ⟨x157, e_x157, hb158⟩ := ob2 hb156
    exact w148.tr (Ref_tells_70_q hb158)
set_option maxHeartbeats 1000000 in
set_option maxRecDepth 100000 in
noncomputable def Ref_tells (v0 : Nat) (v1 : Int32) (v2 : Int64) (h : am_H) : Option (Int64 × am_H) := if isO h 12 v0 = true then (pV h 12 v0 25 (.int (0 : Int32))).bind fun h159 => (pV h159 12 v0 26 (.int (0 : Int32))).bind fun h162 => (gR h162 12 v0 2).bind fun x165 => (aI h162 0 x165 (117 : Int32)).bind fun x167 => if x167 = (-1 : Int32) then some (v2, h162) else (gR h162 12 v0 27).bind fun x171 => (gI h162 12 v0 31).bind fun x173 => if x173 ≤ (1 : Int32) then Ref_tells_46 v0 v1 v2 (-1 : Int32) (0 : Int32) x171 h162 else (gR h162 12 v0 29).bind fun x177 => (aI h162 0 x177 (1 : Int32)).bind fun x179 => Ref_tells_46 v0 v1 v2 x179 (0 : Int32) x171 h162 else none
set_option maxHeartbeats 1000000 in
set_option maxRecDepth 100000 in
theorem Ref_tells_s {v0 : Nat} {v1 : Int32} {v2 : Int64} {h : am_H} {r : (Int64 × am_H)} (hb : Ref_tells v0 v1 v2 h = some r) : Sx 85 mX12_tells 0 (am_en [.ref v0, .int v1, .long v2] 11) [] h (some (.long r.1)) r.2 := by
  unfold Ref_tells at hb
  have hb := (iz hb).2
  show Sx 85 mX12_tells 0 [.ref v0, .int v1, .long v2, .retAddr 0, .retAddr 0, .retAddr 0, .retAddr 0, .retAddr 0, .retAddr 0, .retAddr 0, .retAddr 0] [] h (some (.long r.1)) r.2
  refine Sx.o (fun _ _ _ k => ex_aload_n dX12_tells_0 rfl rfl k) ?_
  refine Sx.o (fun _ _ _ k => op_iconst (0 : Int32) dX12_tells_1 (by decide) k) ?_
  obtain ⟨h159, e_h159, hb160⟩ := ob2 hb
  refine Sx.p (pV_q e_h159) (fun _ _ _ k => op_put pX12_307 dX12_tells_2 e_h159 (fun _ => rfl) (fun _ => rfl) k) ?_
  refine Sx.o (fun _ _ _ k => ex_aload_n dX12_tells_5 rfl rfl k) ?_
  refine Sx.o (fun _ _ _ k => op_iconst (0 : Int32) dX12_tells_6 (by decide) k) ?_
  obtain ⟨h162, e_h162, hb163⟩ := ob2 hb160
  refine Sx.p (pV_q e_h162) (fun _ _ _ k => op_put pX12_310 dX12_tells_7 e_h162 (fun _ => rfl) (fun _ => rfl) k) ?_
  refine Sx.o (fun _ _ _ k => ex_aload_n dX12_tells_10 rfl rfl k) ?_
  obtain ⟨x165, e_x165, hb166⟩ := ob2 hb163
  refine Sx.o (fun _ _ _ k => op_getR fX12_24 dX12_tells_11 e_x165 k) ?_
  refine Sx.o (fun _ _ _ k => op_bipush (117 : Int32) dX12_tells_14 (by decide) k) ?_
  obtain ⟨x167, e_x167, hb168⟩ := ob2 hb166
  refine Sx.o (fun _ _ _ k => op_iald dX12_tells_16 e_x167 k) ?_
  refine Sx.o (fun _ _ _ k => op_iconst (-1 : Int32) dX12_tells_17 (by decide) k) ?_
  refine Sx.bn (fun _ _ _ k1 k2 => ex_icmp_ne 23 dX12_tells_18 (by decide) k1 k2) (fun q => ?_) (fun q => ?_)
  · have hb169 := iq q hb168
    refine Sx.o (fun _ _ _ k => ex_aload_n dX12_tells_23 rfl rfl k) ?_
    obtain ⟨x171, e_x171, hb172⟩ := ob2 hb169
    refine Sx.o (fun _ _ _ k => op_getR fX12_59 dX12_tells_24 e_x171 k) ?_
    refine Sx.o (fun _ _ _ k => op_iconst (0 : Int32) dX12_tells_27 (by decide) k) ?_
    refine Sx.o (fun _ _ _ k => ex_aload_n dX12_tells_28 rfl rfl k) ?_
    obtain ⟨x173, e_x173, hb174⟩ := ob2 hb172
    refine Sx.o (fun _ _ _ k => op_getI fX12_130 dX12_tells_29 e_x173 k) ?_
    refine Sx.o (fun _ _ _ k => op_iconst (1 : Int32) dX12_tells_32 (by decide) k) ?_
    refine Sx.b (fun _ _ _ k1 k2 => ex_icmp_le 45 dX12_tells_33 (by decide) k1 k2) (fun q => ?_) (fun q => ?_)
    · have hb175 := ip q hb174
      refine Sx.o (fun _ _ _ k => op_iconst (-1 : Int32) dX12_tells_45 (by decide) k) ?_
      exact Ref_tells_46_s hb175
    · have hb176 := iq q hb174
      refine Sx.o (fun _ _ _ k => ex_aload_n dX12_tells_36 rfl rfl k) ?_
      obtain ⟨x177, e_x177, hb178⟩ := ob2 hb176
      refine Sx.o (fun _ _ _ k => op_getR fX12_65 dX12_tells_37 e_x177 k) ?_
      refine Sx.o (fun _ _ _ k => op_iconst (1 : Int32) dX12_tells_40 (by decide) k) ?_
      obtain ⟨x179, e_x179, hb180⟩ := ob2 hb178
      refine Sx.o (fun _ _ _ k => op_iald dX12_tells_41 e_x179 k) ?_
      refine Sx.o (fun _ _ _ k => ex_goto 46 dX12_tells_42 (by decide) k) ?_
      exact Ref_tells_46_s hb180
  · have hb170 := ip q hb168
    refine Sx.o (fun _ _ _ k => ex_lload_n dX12_tells_21 rfl k) ?_
    obtain rfl := Option.some.inj hb170
    exact Sx.r (fun _ _ _ k => ex_lret rfl dX12_tells_22 k)
set_option maxHeartbeats 1000000 in
set_option maxRecDepth 100000 in
theorem Ref_tells_q {v0 : Nat} {v1 : Int32} {v2 : Int64} {h : am_H} {r : (Int64 × am_H)} (hb : Ref_tells v0 v1 v2 h = some r) : Eqs h r.2 := by
  unfold Ref_tells at hb
  have hb := (iz hb).2
  have w0 := Eqs.rf h
  obtain ⟨h159, e_h159, hb160⟩ := ob2 hb
  have w161 := w0.tr (pV_q e_h159)
  obtain ⟨h162, e_h162, hb163⟩ := ob2 hb160
  have w164 := w161.tr (pV_q e_h162)
  obtain ⟨x165, e_x165, hb166⟩ := ob2 hb163
  obtain ⟨x167, e_x167, hb168⟩ := ob2 hb166
  by_cases q : x167 = (-1 : Int32)
  · have hb170 := ip q hb168
    obtain rfl := Option.some.inj hb170
    exact w164
  · have hb169 := iq q hb168
    obtain ⟨x171, e_x171, hb172⟩ := ob2 hb169
    obtain ⟨x173, e_x173, hb174⟩ := ob2 hb172
    by_cases q : x173 ≤ (1 : Int32)
    · have hb175 := ip q hb174
      exact w164.tr (Ref_tells_46_q hb175)
    · have hb176 := iq q hb174
      obtain ⟨x177, e_x177, hb178⟩ := ob2 hb176
      obtain ⟨x179, e_x179, hb180⟩ := ob2 hb178
      exact w164.tr (Ref_tells_46_q hb180)
theorem Ref_tells_o {v0 : Nat} {v1 : Int32} {v2 : Int64} {h : am_H} {r : (Int64 × am_H)} (hb : Ref_tells v0 v1 v2 h = some r) : isO h 12 v0 = true := by
  unfold Ref_tells at hb
  exact (iz hb).1
set_option maxHeartbeats 1000000 in
set_option maxRecDepth 100000 in
noncomputable def Ref_hasEnded (v0 : Nat) (h : am_H) : Option (Int32 × am_H) := if isO h 12 v0 = true then (Ref_tells v0 (3 : Int32) (0 : Int64) h).bind fun r1 => (gI r1.2 12 v0 25).bind fun x4 => if x4 = (0 : Int32) then (gR r1.2 12 v0 29).bind fun x8 => (aI r1.2 0 x8 (0 : Int32)).bind fun x10 => if x10 = (1 : Int32) then some ((1 : Int32), r1.2) else some ((0 : Int32), r1.2) else (gI r1.2 12 v0 26).bind fun x14 => (nrZ x14).bind fun u16 => some (x14, r1.2) else none
set_option maxHeartbeats 1000000 in
set_option maxRecDepth 100000 in
theorem Ref_hasEnded_s {v0 : Nat} {h : am_H} {r : (Int32 × am_H)} (hb : Ref_hasEnded v0 h = some r) : Sx 86 mX12_hasEnded 0 (am_en [.ref v0] 1) [] h (some (.int r.1)) r.2 := by
  unfold Ref_hasEnded at hb
  have hb := (iz hb).2
  show Sx 86 mX12_hasEnded 0 [.ref v0] [] h (some (.int r.1)) r.2
  refine Sx.o (fun _ _ _ k => ex_aload_n dX12_hasEnded_0 rfl rfl k) ?_
  refine Sx.o (fun _ _ _ k => op_iconst (3 : Int32) dX12_hasEnded_1 (by decide) k) ?_
  refine Sx.o (fun _ _ _ k => op_lconst (0 : Int64) dX12_hasEnded_2 (by decide) k) ?_
  obtain ⟨r1, e_r1, hb2⟩ := ob2 hb
  refine sx_callV (dc := 85) (as := [.int (3 : Int32), .long (0 : Int64)]) (stq := [.long r1.1]) (by omega) dX12_hasEnded_3 MX12_tells kX12_319 iX12_tells sX12_tells rfl rfl (Ref_tells_o e_r1) rfl rfl (Nat.le_of_ble_eq_true rfl) (Nat.le_of_ble_eq_true rfl) (Ref_tells_s e_r1) rfl ?_
  refine Sx.o (fun _ _ _ k => ex_pop2l dX12_hasEnded_6 rfl k) ?_
  refine Sx.o (fun _ _ _ k => ex_aload_n dX12_hasEnded_7 rfl rfl k) ?_
  obtain ⟨x4, e_x4, hb5⟩ := ob2 hb2
  refine Sx.o (fun _ _ _ k => op_getI fX12_307 dX12_hasEnded_8 e_x4 k) ?_
  refine Sx.b (fun _ _ _ k1 k2 => ex_if_eq 21 dX12_hasEnded_11 (by decide) k1 k2) (fun q => ?_) (fun q => ?_)
  · have hb6 := ip q hb5
    refine Sx.o (fun _ _ _ k => ex_aload_n dX12_hasEnded_21 rfl rfl k) ?_
    obtain ⟨x8, e_x8, hb9⟩ := ob2 hb6
    refine Sx.o (fun _ _ _ k => op_getR fX12_65 dX12_hasEnded_22 e_x8 k) ?_
    refine Sx.o (fun _ _ _ k => op_iconst (0 : Int32) dX12_hasEnded_25 (by decide) k) ?_
    obtain ⟨x10, e_x10, hb11⟩ := ob2 hb9
    refine Sx.o (fun _ _ _ k => op_iald dX12_hasEnded_26 e_x10 k) ?_
    refine Sx.o (fun _ _ _ k => op_iconst (1 : Int32) dX12_hasEnded_27 (by decide) k) ?_
    refine Sx.bn (fun _ _ _ k1 k2 => ex_icmp_ne 35 dX12_hasEnded_28 (by decide) k1 k2) (fun q => ?_) (fun q => ?_)
    · have hb12 := iq q hb11
      refine Sx.o (fun _ _ _ k => op_iconst (0 : Int32) dX12_hasEnded_35 (by decide) k) ?_
      obtain rfl := Option.some.inj hb12
      exact Sx.r (fun _ _ _ k => ex_zret rfl rfl dX12_hasEnded_36 k)
    · have hb13 := ip q hb11
      refine Sx.o (fun _ _ _ k => op_iconst (1 : Int32) dX12_hasEnded_31 (by decide) k) ?_
      refine Sx.o (fun _ _ _ k => ex_goto 36 dX12_hasEnded_32 (by decide) k) ?_
      obtain rfl := Option.some.inj hb13
      exact Sx.r (fun _ _ _ k => ex_zret rfl rfl dX12_hasEnded_36 k)
  · have hb7 := iq q hb5
    refine Sx.o (fun _ _ _ k => ex_aload_n dX12_hasEnded_14 rfl rfl k) ?_
    obtain ⟨x14, e_x14, hb15⟩ := ob2 hb7
    refine Sx.o (fun _ _ _ k => op_getI fX12_310 dX12_hasEnded_15 e_x14 k) ?_
    refine Sx.o (fun _ _ _ k => ex_goto 36 dX12_hasEnded_18 (by decide) k) ?_
    obtain ⟨u16, e_u16, hb17⟩ := ob2 hb15
    obtain rfl := Option.some.inj hb17
    exact Sx.r (fun _ _ _ k => ex_zret rfl (nrZ_n e_u16) dX12_hasEnded_36 k)
set_option maxHeartbeats 1000000 in
set_option maxRecDepth 100000 in
theorem Ref_hasEnded_q {v0 : Nat} {h : am_H} {r : (Int32 × am_H)} (hb : Ref_hasEnded v0 h = some r) : Eqs h r.2 := by
  unfold Ref_hasEnded at hb
  have hb := (iz hb).2
  have w0 := Eqs.rf h
  obtain ⟨r1, e_r1, hb2⟩ := ob2 hb
  have w3 := w0.tr (Ref_tells_q e_r1)
  obtain ⟨x4, e_x4, hb5⟩ := ob2 hb2
  by_cases q : x4 = (0 : Int32)
  · have hb6 := ip q hb5
    obtain ⟨x8, e_x8, hb9⟩ := ob2 hb6
    obtain ⟨x10, e_x10, hb11⟩ := ob2 hb9
    by_cases q : x10 = (1 : Int32)
    · have hb13 := ip q hb11
      obtain rfl := Option.some.inj hb13
      exact w3
    · have hb12 := iq q hb11
      obtain rfl := Option.some.inj hb12
      exact w3
  · have hb7 := iq q hb5
    obtain ⟨x14, e_x14, hb15⟩ := ob2 hb7
    obtain ⟨u16, e_u16, hb17⟩ := ob2 hb15
    obtain rfl := Option.some.inj hb17
    exact w3
theorem Ref_hasEnded_o {v0 : Nat} {h : am_H} {r : (Int32 × am_H)} (hb : Ref_hasEnded v0 h = some r) : isO h 12 v0 = true := by
  unfold Ref_hasEnded at hb
  exact (iz hb).1
set_option maxHeartbeats 1000000 in
set_option maxRecDepth 100000 in
noncomputable def Ref_cannot (v0 : Nat) (v1 : Int64) (h : am_H) : Option Int32 := if isO h 12 v0 = true then if (lg_cmp v1 (0 : Int64)) < (0 : Int32) then some (1 : Int32) else (gI h 12 v0 31).bind fun x3 => if (lg_cmp v1 (Int32.toInt64 x3)) ≤ (0 : Int32) then some (0 : Int32) else some (1 : Int32) else none
set_option maxHeartbeats 1000000 in
set_option maxRecDepth 100000 in
theorem Ref_cannot_s {v0 : Nat} {v1 : Int64} {h : am_H} {r : Int32} (hb : Ref_cannot v0 v1 h = some r) : Sx 0 mX12_cannot 0 (am_en [.ref v0, .long v1] 3) [] h (some (.int r)) h := by
  unfold Ref_cannot at hb
  have hb := (iz hb).2
  show Sx 0 mX12_cannot 0 [.ref v0, .long v1, .retAddr 0] [] h (some (.int r)) h
  refine Sx.o (fun _ _ _ k => ex_lload_n dX12_cannot_0 rfl k) ?_
  refine Sx.o (fun _ _ _ k => op_lconst (0 : Int64) dX12_cannot_1 (by decide) k) ?_
  refine Sx.o (fun _ _ _ k => ex_lcmp dX12_cannot_2 k) ?_
  refine Sx.b (fun _ _ _ k1 k2 => ex_if_lt 16 dX12_cannot_3 (by decide) k1 k2) (fun q => ?_) (fun q => ?_)
  · have hb1 := ip q hb
    refine Sx.o (fun _ _ _ k => op_iconst (1 : Int32) dX12_cannot_16 (by decide) k) ?_
    refine Sx.o (fun _ _ _ k => ex_goto 21 dX12_cannot_17 (by decide) k) ?_
    obtain rfl := Option.some.inj hb1
    exact Sx.r (fun _ _ _ k => ex_zret rfl rfl dX12_cannot_21 k)
  · have hb2 := iq q hb
    refine Sx.o (fun _ _ _ k => ex_lload_n dX12_cannot_6 rfl k) ?_
    refine Sx.o (fun _ _ _ k => ex_aload_n dX12_cannot_7 rfl rfl k) ?_
    obtain ⟨x3, e_x3, hb4⟩ := ob2 hb2
    refine Sx.o (fun _ _ _ k => op_getI fX12_130 dX12_cannot_8 e_x3 k) ?_
    refine Sx.o (fun _ _ _ k => ex_i2l dX12_cannot_11 k) ?_
    refine Sx.o (fun _ _ _ k => ex_lcmp dX12_cannot_12 k) ?_
    refine Sx.b (fun _ _ _ k1 k2 => ex_if_le 20 dX12_cannot_13 (by decide) k1 k2) (fun q => ?_) (fun q => ?_)
    · have hb5 := ip q hb4
      refine Sx.o (fun _ _ _ k => op_iconst (0 : Int32) dX12_cannot_20 (by decide) k) ?_
      obtain rfl := Option.some.inj hb5
      exact Sx.r (fun _ _ _ k => ex_zret rfl rfl dX12_cannot_21 k)
    · have hb6 := iq q hb4
      refine Sx.o (fun _ _ _ k => op_iconst (1 : Int32) dX12_cannot_16 (by decide) k) ?_
      refine Sx.o (fun _ _ _ k => ex_goto 21 dX12_cannot_17 (by decide) k) ?_
      obtain rfl := Option.some.inj hb6
      exact Sx.r (fun _ _ _ k => ex_zret rfl rfl dX12_cannot_21 k)
theorem Ref_cannot_o {v0 : Nat} {v1 : Int64} {h : am_H} {r : Int32} (hb : Ref_cannot v0 v1 h = some r) : isO h 12 v0 = true := by
  unfold Ref_cannot at hb
  exact (iz hb).1
set_option maxHeartbeats 1000000 in
set_option maxRecDepth 100000 in
noncomputable def Ref_sinksBy (v0 : Nat) (h : am_H) : Option (Int64 × am_H) := if isO h 12 v0 = true then (Ref_tells v0 (2 : Int32) (0 : Int64) h).bind fun r1 => some (r1.1, r1.2) else none
set_option maxHeartbeats 1000000 in
set_option maxRecDepth 100000 in
theorem Ref_sinksBy_s {v0 : Nat} {h : am_H} {r : (Int64 × am_H)} (hb : Ref_sinksBy v0 h = some r) : Sx 86 mX12_sinksBy 0 (am_en [.ref v0] 1) [] h (some (.long r.1)) r.2 := by
  unfold Ref_sinksBy at hb
  have hb := (iz hb).2
  show Sx 86 mX12_sinksBy 0 [.ref v0] [] h (some (.long r.1)) r.2
  refine Sx.o (fun _ _ _ k => ex_aload_n dX12_sinksBy_0 rfl rfl k) ?_
  refine Sx.o (fun _ _ _ k => op_iconst (2 : Int32) dX12_sinksBy_1 (by decide) k) ?_
  refine Sx.o (fun _ _ _ k => op_lconst (0 : Int64) dX12_sinksBy_2 (by decide) k) ?_
  obtain ⟨r1, e_r1, hb2⟩ := ob2 hb
  refine sx_callV (dc := 85) (as := [.int (2 : Int32), .long (0 : Int64)]) (stq := [.long r1.1]) (by omega) dX12_sinksBy_3 MX12_tells kX12_319 iX12_tells sX12_tells rfl rfl (Ref_tells_o e_r1) rfl rfl (Nat.le_of_ble_eq_true rfl) (Nat.le_of_ble_eq_true rfl) (Ref_tells_s e_r1) rfl ?_
  obtain rfl := Option.some.inj hb2
  exact Sx.r (fun _ _ _ k => ex_lret rfl dX12_sinksBy_6 k)
set_option maxHeartbeats 1000000 in
set_option maxRecDepth 100000 in
theorem Ref_sinksBy_q {v0 : Nat} {h : am_H} {r : (Int64 × am_H)} (hb : Ref_sinksBy v0 h = some r) : Eqs h r.2 := by
  unfold Ref_sinksBy at hb
  have hb := (iz hb).2
  have w0 := Eqs.rf h
  obtain ⟨r1, e_r1, hb2⟩ := ob2 hb
  have w3 := w0.tr (Ref_tells_q e_r1)
  obtain rfl := Option.some.inj hb2
  exact w3
theorem Ref_sinksBy_o {v0 : Nat} {h : am_H} {r : (Int64 × am_H)} (hb : Ref_sinksBy v0 h = some r) : isO h 12 v0 = true := by
  unfold Ref_sinksBy at hb
  exact (iz hb).1
set_option maxHeartbeats 1000000 in
set_option maxRecDepth 100000 in
noncomputable def Ref_turnsBy_26 (s0 : Int64) (s1 : Int32) (s2 : Nat) (h : am_H) : Option (Int64 × am_H) := (Ref_tells s2 s1 s0 h).bind fun r1 => some (r1.1, r1.2)
set_option maxHeartbeats 1000000 in
set_option maxRecDepth 100000 in
theorem Ref_turnsBy_26_s {s0 : Int64} {s1 : Int32} {s2 : Nat} {h : am_H} {r : (Int64 × am_H)} (hb : Ref_turnsBy_26 s0 s1 s2 h = some r) : Sx 86 mX12_turnsBy 26 [.retAddr 0] [.long s0, .int s1, .ref s2] h (some (.long r.1)) r.2 := by
  unfold Ref_turnsBy_26 at hb
  obtain ⟨r1, e_r1, hb2⟩ := ob2 hb
  refine sx_callV (dc := 85) (as := [.int s1, .long s0]) (stq := [.long r1.1]) (by omega) dX12_turnsBy_26 MX12_tells kX12_319 iX12_tells sX12_tells rfl rfl (Ref_tells_o e_r1) rfl rfl (Nat.le_of_ble_eq_true rfl) (Nat.le_of_ble_eq_true rfl) (Ref_tells_s e_r1) rfl ?_
  obtain rfl := Option.some.inj hb2
  exact Sx.r (fun _ _ _ k => ex_lret rfl dX12_turnsBy_29 k)
set_option maxHeartbeats 1000000 in
set_option maxRecDepth 100000 in
theorem Ref_turnsBy_26_q {s0 : Int64} {s1 : Int32} {s2 : Nat} {h : am_H} {r : (Int64 × am_H)} (hb : Ref_turnsBy_26 s0 s1 s2 h = some r) : Eqs h r.2 := by
  unfold Ref_turnsBy_26 at hb
  have w0 := Eqs.rf h
  obtain ⟨r1, e_r1, hb2⟩ := ob2 hb
  have w3 := w0.tr (Ref_tells_q e_r1)
  obtain rfl := Option.some.inj hb2
  exact w3
set_option maxHeartbeats 1000000 in
set_option maxRecDepth 100000 in
noncomputable def Ref_turnsBy (v0 : Nat) (h : am_H) : Option (Int64 × am_H) := if isO h 12 v0 = true then (gR h 12 v0 29).bind fun x4 => (aI h 0 x4 (0 : Int32)).bind fun x6 => if x6 = (0 : Int32) then (gI h 12 v0 32).bind fun x14 => Ref_turnsBy_26 (Int32.toInt64 x14) (1 : Int32) v0 h else (gR h 12 v0 29).bind fun x10 => (aI h 0 x10 (0 : Int32)).bind fun x12 => Ref_turnsBy_26 (Int32.toInt64 x12) (1 : Int32) v0 h else none
set_option maxHeartbeats 1000000 in
set_option maxRecDepth 100000 in
theorem Ref_turnsBy_s {v0 : Nat} {h : am_H} {r : (Int64 × am_H)} (hb : Ref_turnsBy v0 h = some r) : Sx 86 mX12_turnsBy 0 (am_en [.ref v0] 1) [] h (some (.long r.1)) r.2 := by
  unfold Ref_turnsBy at hb
  have hb := (iz hb).2
  show Sx 86 mX12_turnsBy 0 [.ref v0] [] h (some (.long r.1)) r.2
  refine Sx.o (fun _ _ _ k => ex_aload_n dX12_turnsBy_0 rfl rfl k) ?_
  refine Sx.o (fun _ _ _ k => op_iconst (1 : Int32) dX12_turnsBy_1 (by decide) k) ?_
  refine Sx.o (fun _ _ _ k => ex_aload_n dX12_turnsBy_2 rfl rfl k) ?_
  obtain ⟨x4, e_x4, hb5⟩ := ob2 hb
  refine Sx.o (fun _ _ _ k => op_getR fX12_65 dX12_turnsBy_3 e_x4 k) ?_
  refine Sx.o (fun _ _ _ k => op_iconst (0 : Int32) dX12_turnsBy_6 (by decide) k) ?_
  obtain ⟨x6, e_x6, hb7⟩ := ob2 hb5
  refine Sx.o (fun _ _ _ k => op_iald dX12_turnsBy_7 e_x6 k) ?_
  refine Sx.bn (fun _ _ _ k1 k2 => ex_if_ne 19 dX12_turnsBy_8 (by decide) k1 k2) (fun q => ?_) (fun q => ?_)
  · have hb8 := iq q hb7
    refine Sx.o (fun _ _ _ k => ex_aload_n dX12_turnsBy_19 rfl rfl k) ?_
    obtain ⟨x10, e_x10, hb11⟩ := ob2 hb8
    refine Sx.o (fun _ _ _ k => op_getR fX12_65 dX12_turnsBy_20 e_x10 k) ?_
    refine Sx.o (fun _ _ _ k => op_iconst (0 : Int32) dX12_turnsBy_23 (by decide) k) ?_
    obtain ⟨x12, e_x12, hb13⟩ := ob2 hb11
    refine Sx.o (fun _ _ _ k => op_iald dX12_turnsBy_24 e_x12 k) ?_
    refine Sx.o (fun _ _ _ k => ex_i2l dX12_turnsBy_25 k) ?_
    refine Sx.fg [false] ?_
    exact Ref_turnsBy_26_s hb13
  · have hb9 := ip q hb7
    refine Sx.o (fun _ _ _ k => ex_aload_n dX12_turnsBy_11 rfl rfl k) ?_
    obtain ⟨x14, e_x14, hb15⟩ := ob2 hb9
    refine Sx.o (fun _ _ _ k => op_getI fX12_133 dX12_turnsBy_12 e_x14 k) ?_
    refine Sx.o (fun _ _ _ k => ex_i2l dX12_turnsBy_15 k) ?_
    refine Sx.o (fun _ _ _ k => ex_goto 26 dX12_turnsBy_16 (by decide) k) ?_
    refine Sx.fg [false] ?_
    exact Ref_turnsBy_26_s hb15
set_option maxHeartbeats 1000000 in
set_option maxRecDepth 100000 in
theorem Ref_turnsBy_q {v0 : Nat} {h : am_H} {r : (Int64 × am_H)} (hb : Ref_turnsBy v0 h = some r) : Eqs h r.2 := by
  unfold Ref_turnsBy at hb
  have hb := (iz hb).2
  have w0 := Eqs.rf h
  obtain ⟨x4, e_x4, hb5⟩ := ob2 hb
  obtain ⟨x6, e_x6, hb7⟩ := ob2 hb5
  by_cases q : x6 = (0 : Int32)
  · have hb9 := ip q hb7
    obtain ⟨x14, e_x14, hb15⟩ := ob2 hb9
    exact w0.tr (Ref_turnsBy_26_q hb15)
  · have hb8 := iq q hb7
    obtain ⟨x10, e_x10, hb11⟩ := ob2 hb8
    obtain ⟨x12, e_x12, hb13⟩ := ob2 hb11
    exact w0.tr (Ref_turnsBy_26_q hb13)
theorem Ref_turnsBy_o {v0 : Nat} {h : am_H} {r : (Int64 × am_H)} (hb : Ref_turnsBy v0 h = some r) : isO h 12 v0 = true := by
  unfold Ref_turnsBy at hb
  exact (iz hb).1
set_option maxHeartbeats 1000000 in
set_option maxRecDepth 100000 in
noncomputable def Ref_isStuck (v0 : Nat) (h : am_H) : Option (Int32 × am_H) := if isO h 12 v0 = true then (Ref_hasEnded v0 h).bind fun r1 => if r1.1 = (0 : Int32) then (Ref_turnsBy v0 r1.2).bind fun r6 => (Ref_cannot v0 r6.1 r6.2).bind fun x9 => if x9 = (0 : Int32) then (Ref_sinksBy v0 r6.2).bind fun r13 => (Ref_cannot v0 r13.1 r13.2).bind fun x16 => if x16 = (0 : Int32) then some ((0 : Int32), r13.2) else some ((1 : Int32), r13.2) else some ((1 : Int32), r6.2) else some ((0 : Int32), r1.2) else none
set_option maxHeartbeats 1000000 in
set_option maxRecDepth 100000 in
theorem Ref_isStuck_s {v0 : Nat} {h : am_H} {r : (Int32 × am_H)} (hb : Ref_isStuck v0 h = some r) : Sx 87 mX12_isStuck 0 (am_en [.ref v0] 1) [] h (some (.int r.1)) r.2 := by
  unfold Ref_isStuck at hb
  have hb := (iz hb).2
  show Sx 87 mX12_isStuck 0 [.ref v0] [] h (some (.int r.1)) r.2
  refine Sx.o (fun _ _ _ k => ex_aload_n dX12_isStuck_0 rfl rfl k) ?_
  obtain ⟨r1, e_r1, hb2⟩ := ob2 hb
  refine sx_callV (dc := 86) (as := []) (stq := [.int r1.1]) (by omega) dX12_isStuck_1 MX12_hasEnded kX12_136 iX12_hasEnded sX12_hasEnded rfl rfl (Ref_hasEnded_o e_r1) rfl rfl (Nat.le_of_ble_eq_true rfl) (Nat.le_of_ble_eq_true rfl) (Ref_hasEnded_s e_r1) rfl ?_
  refine Sx.bn (fun _ _ _ k1 k2 => ex_if_ne 33 dX12_isStuck_4 (by decide) k1 k2) (fun q => ?_) (fun q => ?_)
  · have hb4 := iq q hb2
    refine Sx.o (fun _ _ _ k => op_iconst (0 : Int32) dX12_isStuck_33 (by decide) k) ?_
    obtain rfl := Option.some.inj hb4
    exact Sx.r (fun _ _ _ k => ex_zret rfl rfl dX12_isStuck_34 k)
  · have hb5 := ip q hb2
    refine Sx.o (fun _ _ _ k => ex_aload_n dX12_isStuck_7 rfl rfl k) ?_
    refine Sx.o (fun _ _ _ k => ex_aload_n dX12_isStuck_8 rfl rfl k) ?_
    obtain ⟨r6, e_r6, hb7⟩ := ob2 hb5
    refine sx_callV (dc := 86) (as := []) (stq := [.long r6.1, .ref v0]) (by omega) dX12_isStuck_9 MX12_turnsBy kX12_143 iX12_turnsBy sX12_turnsBy rfl rfl (Ref_turnsBy_o e_r6) rfl rfl (Nat.le_of_ble_eq_true rfl) (Nat.le_of_ble_eq_true rfl) (Ref_turnsBy_s e_r6) rfl ?_
    obtain ⟨x9, e_x9, hb10⟩ := ob2 hb7
    refine sx_callV (dc := 0) (as := [.long r6.1]) (stq := [.int x9]) (by omega) dX12_isStuck_12 MX12_cannot kX12_323 iX12_cannot sX12_cannot rfl rfl (Ref_cannot_o e_x9) rfl rfl (Nat.le_of_ble_eq_true rfl) (Nat.le_of_ble_eq_true rfl) (Ref_cannot_s e_x9) rfl ?_
    refine Sx.bn (fun _ _ _ k1 k2 => ex_if_ne 29 dX12_isStuck_15 (by decide) k1 k2) (fun q => ?_) (fun q => ?_)
    · have hb11 := iq q hb10
      refine Sx.o (fun _ _ _ k => op_iconst (1 : Int32) dX12_isStuck_29 (by decide) k) ?_
      refine Sx.o (fun _ _ _ k => ex_goto 34 dX12_isStuck_30 (by decide) k) ?_
      obtain rfl := Option.some.inj hb11
      exact Sx.r (fun _ _ _ k => ex_zret rfl rfl dX12_isStuck_34 k)
    · have hb12 := ip q hb10
      refine Sx.o (fun _ _ _ k => ex_aload_n dX12_isStuck_18 rfl rfl k) ?_
      refine Sx.o (fun _ _ _ k => ex_aload_n dX12_isStuck_19 rfl rfl k) ?_
      obtain ⟨r13, e_r13, hb14⟩ := ob2 hb12
      refine sx_callV (dc := 86) (as := []) (stq := [.long r13.1, .ref v0]) (by omega) dX12_isStuck_20 MX12_sinksBy kX12_151 iX12_sinksBy sX12_sinksBy rfl rfl (Ref_sinksBy_o e_r13) rfl rfl (Nat.le_of_ble_eq_true rfl) (Nat.le_of_ble_eq_true rfl) (Ref_sinksBy_s e_r13) rfl ?_
      obtain ⟨x16, e_x16, hb17⟩ := ob2 hb14
      refine sx_callV (dc := 0) (as := [.long r13.1]) (stq := [.int x16]) (by omega) dX12_isStuck_23 MX12_cannot kX12_323 iX12_cannot sX12_cannot rfl rfl (Ref_cannot_o e_x16) rfl rfl (Nat.le_of_ble_eq_true rfl) (Nat.le_of_ble_eq_true rfl) (Ref_cannot_s e_x16) rfl ?_
      refine Sx.b (fun _ _ _ k1 k2 => ex_if_eq 33 dX12_isStuck_26 (by decide) k1 k2) (fun q => ?_) (fun q => ?_)
      · have hb18 := ip q hb17
        refine Sx.o (fun _ _ _ k => op_iconst (0 : Int32) dX12_isStuck_33 (by decide) k) ?_
        obtain rfl := Option.some.inj hb18
        exact Sx.r (fun _ _ _ k => ex_zret rfl rfl dX12_isStuck_34 k)
      · have hb19 := iq q hb17
        refine Sx.o (fun _ _ _ k => op_iconst (1 : Int32) dX12_isStuck_29 (by decide) k) ?_
        refine Sx.o (fun _ _ _ k => ex_goto 34 dX12_isStuck_30 (by decide) k) ?_
        obtain rfl := Option.some.inj hb19
        exact Sx.r (fun _ _ _ k => ex_zret rfl rfl dX12_isStuck_34 k)
set_option maxHeartbeats 1000000 in
set_option maxRecDepth 100000 in
theorem Ref_isStuck_q {v0 : Nat} {h : am_H} {r : (Int32 × am_H)} (hb : Ref_isStuck v0 h = some r) : Eqs h r.2 := by
  unfold Ref_isStuck at hb
  have hb := (iz hb).2
  have w0 := Eqs.rf h
  obtain ⟨r1, e_r1, hb2⟩ := ob2 hb
  have w3 := w0.tr (Ref_hasEnded_q e_r1)
  by_cases q : r1.1 = (0 : Int32)
  · have hb5 := ip q hb2
    obtain ⟨r6, e_r6, hb7⟩ := ob2 hb5
    have w8 := w3.tr (Ref_turnsBy_q e_r6)
    obtain ⟨x9, e_x9, hb10⟩ := ob2 hb7
    by_cases q : x9 = (0 : Int32)
    · have hb12 := ip q hb10
      obtain ⟨r13, e_r13, hb14⟩ := ob2 hb12
      have w15 := w8.tr (Ref_sinksBy_q e_r13)
      obtain ⟨x16, e_x16, hb17⟩ := ob2 hb14
      by_cases q : x16 = (0 : Int32)
      · have hb18 := ip q hb17
        obtain rfl := Option.some.inj hb18
        exact w15
      · have hb19 := iq q hb17
        obtain rfl := Option.some.inj hb19
        exact w15
    · have hb11 := iq q hb10
      obtain rfl := Option.some.inj hb11
      exact w8
  · have hb4 := iq q hb2
    obtain rfl := Option.some.inj hb4
    exact w3
theorem Ref_isStuck_o {v0 : Nat} {h : am_H} {r : (Int32 × am_H)} (hb : Ref_isStuck v0 h = some r) : isO h 12 v0 = true := by
  unfold Ref_isStuck at hb
  exact (iz hb).1
set_option maxHeartbeats 1000000 in
set_option maxRecDepth 100000 in
noncomputable def Ref_canStep (v0 : Nat) (h : am_H) : Option (Int32 × am_H) := if isO h 12 v0 = true then (Ref_hasEnded v0 h).bind fun r1 => if r1.1 = (0 : Int32) then (Ref_isStuck v0 r1.2).bind fun r6 => if r6.1 = (0 : Int32) then some ((1 : Int32), r6.2) else some ((0 : Int32), r6.2) else some ((0 : Int32), r1.2) else none
set_option maxHeartbeats 1000000 in
set_option maxRecDepth 100000 in
theorem Ref_canStep_s {v0 : Nat} {h : am_H} {r : (Int32 × am_H)} (hb : Ref_canStep v0 h = some r) : Sx 88 mX12_canStep 0 (am_en [.ref v0] 1) [] h (some (.int r.1)) r.2 := by
  unfold Ref_canStep at hb
  have hb := (iz hb).2
  show Sx 88 mX12_canStep 0 [.ref v0] [] h (some (.int r.1)) r.2
  refine Sx.o (fun _ _ _ k => ex_aload_n dX12_canStep_0 rfl rfl k) ?_
  obtain ⟨r1, e_r1, hb2⟩ := ob2 hb
  refine sx_callV (dc := 86) (as := []) (stq := [.int r1.1]) (by omega) dX12_canStep_1 MX12_hasEnded kX12_136 iX12_hasEnded sX12_hasEnded rfl rfl (Ref_hasEnded_o e_r1) rfl rfl (Nat.le_of_ble_eq_true rfl) (Nat.le_of_ble_eq_true rfl) (Ref_hasEnded_s e_r1) rfl ?_
  refine Sx.bn (fun _ _ _ k1 k2 => ex_if_ne 18 dX12_canStep_4 (by decide) k1 k2) (fun q => ?_) (fun q => ?_)
  · have hb4 := iq q hb2
    refine Sx.o (fun _ _ _ k => op_iconst (0 : Int32) dX12_canStep_18 (by decide) k) ?_
    obtain rfl := Option.some.inj hb4
    exact Sx.r (fun _ _ _ k => ex_zret rfl rfl dX12_canStep_19 k)
  · have hb5 := ip q hb2
    refine Sx.o (fun _ _ _ k => ex_aload_n dX12_canStep_7 rfl rfl k) ?_
    obtain ⟨r6, e_r6, hb7⟩ := ob2 hb5
    refine sx_callV (dc := 87) (as := []) (stq := [.int r6.1]) (by omega) dX12_canStep_8 MX12_isStuck kX12_140 iX12_isStuck sX12_isStuck rfl rfl (Ref_isStuck_o e_r6) rfl rfl (Nat.le_of_ble_eq_true rfl) (Nat.le_of_ble_eq_true rfl) (Ref_isStuck_s e_r6) rfl ?_
    refine Sx.bn (fun _ _ _ k1 k2 => ex_if_ne 18 dX12_canStep_11 (by decide) k1 k2) (fun q => ?_) (fun q => ?_)
    · have hb9 := iq q hb7
      refine Sx.o (fun _ _ _ k => op_iconst (0 : Int32) dX12_canStep_18 (by decide) k) ?_
      obtain rfl := Option.some.inj hb9
      exact Sx.r (fun _ _ _ k => ex_zret rfl rfl dX12_canStep_19 k)
    · have hb10 := ip q hb7
      refine Sx.o (fun _ _ _ k => op_iconst (1 : Int32) dX12_canStep_14 (by decide) k) ?_
      refine Sx.o (fun _ _ _ k => ex_goto 19 dX12_canStep_15 (by decide) k) ?_
      obtain rfl := Option.some.inj hb10
      exact Sx.r (fun _ _ _ k => ex_zret rfl rfl dX12_canStep_19 k)
set_option maxHeartbeats 1000000 in
set_option maxRecDepth 100000 in
theorem Ref_canStep_q {v0 : Nat} {h : am_H} {r : (Int32 × am_H)} (hb : Ref_canStep v0 h = some r) : Eqs h r.2 := by
  unfold Ref_canStep at hb
  have hb := (iz hb).2
  have w0 := Eqs.rf h
  obtain ⟨r1, e_r1, hb2⟩ := ob2 hb
  have w3 := w0.tr (Ref_hasEnded_q e_r1)
  by_cases q : r1.1 = (0 : Int32)
  · have hb5 := ip q hb2
    obtain ⟨r6, e_r6, hb7⟩ := ob2 hb5
    have w8 := w3.tr (Ref_isStuck_q e_r6)
    by_cases q : r6.1 = (0 : Int32)
    · have hb10 := ip q hb7
      obtain rfl := Option.some.inj hb10
      exact w8
    · have hb9 := iq q hb7
      obtain rfl := Option.some.inj hb9
      exact w8
  · have hb4 := iq q hb2
    obtain rfl := Option.some.inj hb4
    exact w3
theorem Ref_canStep_o {v0 : Nat} {h : am_H} {r : (Int32 × am_H)} (hb : Ref_canStep v0 h = some r) : isO h 12 v0 = true := by
  unfold Ref_canStep at hb
  exact (iz hb).1
set_option maxHeartbeats 1000000 in
set_option maxRecDepth 100000 in
noncomputable def Ref_manyIn (v0 : Nat) (v1 : Int32) (h : am_H) : Option Int32 := if isO h 12 v0 = true then (gR h 12 v0 2).bind fun x1 => (Ref_placeOf v1 h).bind fun x3 => (aI h 0 x1 (x3 + (0 : Int32))).bind fun x5 => some x5 else none
set_option maxHeartbeats 1000000 in
set_option maxRecDepth 100000 in
theorem Ref_manyIn_s {v0 : Nat} {v1 : Int32} {h : am_H} {r : Int32} (hb : Ref_manyIn v0 v1 h = some r) : Sx 1 mX12_manyIn 0 (am_en [.ref v0, .int v1] 2) [] h (some (.int r)) h := by
  unfold Ref_manyIn at hb
  have hb := (iz hb).2
  show Sx 1 mX12_manyIn 0 [.ref v0, .int v1] [] h (some (.int r)) h
  refine Sx.o (fun _ _ _ k => ex_aload_n dX12_manyIn_0 rfl rfl k) ?_
  obtain ⟨x1, e_x1, hb2⟩ := ob2 hb
  refine Sx.o (fun _ _ _ k => op_getR fX12_24 dX12_manyIn_1 e_x1 k) ?_
  refine Sx.o (fun _ _ _ k => ex_iload_n dX12_manyIn_4 rfl k) ?_
  obtain ⟨x3, e_x3, hb4⟩ := ob2 hb2
  refine sx_callS (dc := 0) (as := [.int v1]) (stq := [.int x3, .ref x1]) (by omega) dX12_manyIn_5 MX12_placeOf kX12_112 tX12_placeOf rfl rfl (Nat.le_of_ble_eq_true rfl) (Nat.le_of_ble_eq_true rfl) (Ref_placeOf_s e_x3) rfl ?_
  refine Sx.o (fun _ _ _ k => op_iconst (0 : Int32) dX12_manyIn_8 (by decide) k) ?_
  refine Sx.o (fun _ _ _ k => ex_iadd dX12_manyIn_9 k) ?_
  obtain ⟨x5, e_x5, hb6⟩ := ob2 hb4
  refine Sx.o (fun _ _ _ k => op_iald dX12_manyIn_10 e_x5 k) ?_
  obtain rfl := Option.some.inj hb6
  exact Sx.r (fun _ _ _ k => ex_iret rfl dX12_manyIn_11 k)
theorem Ref_manyIn_o {v0 : Nat} {v1 : Int32} {h : am_H} {r : Int32} (hb : Ref_manyIn v0 v1 h = some r) : isO h 12 v0 = true := by
  unfold Ref_manyIn at hb
  exact (iz hb).1
set_option maxHeartbeats 1000000 in
set_option maxRecDepth 100000 in
noncomputable def Ref_sinks_37_b (g : (Nat × Int32 × Nat × am_H) → Option am_H) (v0 : Nat) (v2 : Int32) (h : am_H) : Option am_H := (gI h 12 v0 31).bind fun x1 => if x1 ≤ v2 then some h else (gR h 12 v0 29).bind fun x5 => (gR h 12 v0 30).bind fun x7 => (aI h 0 x7 v2).bind fun x9 => (sI h x5 v2 x9).bind fun h11 => g (37, (v2 + (1 : Int32)), v0, h11)
set_option maxHeartbeats 1000000 in
set_option maxRecDepth 100000 in
theorem Ref_sinks_37_m {g g2 : (Nat × Int32 × Nat × am_H) → Option am_H} (hg : ∀ s, Le (g s) (g2 s)) (v0 : Nat) (v2 : Int32) (h : am_H) : Le (Ref_sinks_37_b g v0 v2 h) (Ref_sinks_37_b g2 v0 v2 h) := by unfold Ref_sinks_37_b; exact le_b (le_r _) fun x1 => le_i (le_r _) (le_b (le_r _) fun x5 => le_b (le_r _) fun x7 => le_b (le_r _) fun x9 => le_b (le_r _) fun h11 => hg _)
noncomputable def Ref_sinks_37_F (g : (Nat × Int32 × Nat × am_H) → Option am_H) (s : (Nat × Int32 × Nat × am_H)) : Option am_H := if s.1 = 37 then Ref_sinks_37_b g s.2.2.1 s.2.1 s.2.2.2 else none
theorem Ref_sinks_37_M : Mn Ref_sinks_37_F := fun g g2 hg s => by unfold Ref_sinks_37_F; exact le_i (Ref_sinks_37_m hg s.2.2.1 s.2.1 s.2.2.2) (le_r _)
def Ref_sinks_37_P (s : (Nat × Int32 × Nat × am_H)) (r : am_H) : Prop := (s.1 = 37 → Sx 0 mX12_sinks 37 [.ref s.2.2.1, .retAddr 0, .int s.2.1] [] s.2.2.2 none r) ∧ True
set_option maxHeartbeats 1000000 in
set_option maxRecDepth 100000 in
theorem Ref_sinks_37_t {g : (Nat × Int32 × Nat × am_H) → Option am_H} (hg : ∀ s r, g s = some r → Ref_sinks_37_P s r) {v0 : Nat} {v2 : Int32} {h : am_H} {r : am_H} (hb : Ref_sinks_37_b g v0 v2 h = some r) : Sx 0 mX12_sinks 37 [.ref v0, .retAddr 0, .int v2] [] h none r := by
  unfold Ref_sinks_37_b at hb
  refine Sx.o (fun _ _ _ k => ex_iload_n dX12_sinks_37 rfl k) ?_
  refine Sx.o (fun _ _ _ k => ex_aload_n dX12_sinks_38 rfl rfl k) ?_
  obtain ⟨x1, e_x1, hb2⟩ := ob2 hb
  refine Sx.o (fun _ _ _ k => op_getI fX12_130 dX12_sinks_39 e_x1 k) ?_
  refine Sx.b (fun _ _ _ k1 k2 => ex_icmp_ge 63 dX12_sinks_42 (by decide) k1 k2) (fun q => ?_) (fun q => ?_)
  · have hb3 := ip q hb2
    obtain rfl := Option.some.inj hb3
    exact Sx.r (fun _ _ _ k => ex_vret rfl dX12_sinks_63 k)
  · have hb4 := iq q hb2
    refine Sx.o (fun _ _ _ k => ex_aload_n dX12_sinks_45 rfl rfl k) ?_
    obtain ⟨x5, e_x5, hb6⟩ := ob2 hb4
    refine Sx.o (fun _ _ _ k => op_getR fX12_65 dX12_sinks_46 e_x5 k) ?_
    refine Sx.o (fun _ _ _ k => ex_iload_n dX12_sinks_49 rfl k) ?_
    refine Sx.o (fun _ _ _ k => ex_aload_n dX12_sinks_50 rfl rfl k) ?_
    obtain ⟨x7, e_x7, hb8⟩ := ob2 hb6
    refine Sx.o (fun _ _ _ k => op_getR fX12_68 dX12_sinks_51 e_x7 k) ?_
    refine Sx.o (fun _ _ _ k => ex_iload_n dX12_sinks_54 rfl k) ?_
    obtain ⟨x9, e_x9, hb10⟩ := ob2 hb8
    refine Sx.o (fun _ _ _ k => op_iald dX12_sinks_55 e_x9 k) ?_
    obtain ⟨h11, e_h11, hb12⟩ := ob2 hb10
    refine Sx.p (sI_q e_h11) (fun _ _ _ k => op_iast dX12_sinks_56 e_h11 k) ?_
    refine Sx.o (L' := [.ref v0, .retAddr 0, .int (v2 + (1 : Int32))]) (fun _ _ _ k => op_iinc (1 : Int32) dX12_sinks_57 (by decide) rfl (by decide) k) ?_
    refine Sx.o (fun _ _ _ k => ex_goto 37 dX12_sinks_60 (by decide) k) ?_
    exact (hg _ _ hb12).1 rfl
theorem Ref_sinks_37_T : ∀ s r, fx Ref_sinks_37_F Ref_sinks_37_M s = some r → Ref_sinks_37_P s r := fx_ind Ref_sinks_37_M Ref_sinks_37_P (fun g hg s r hb => by
  unfold Ref_sinks_37_F at hb
  exact ⟨fun q => Ref_sinks_37_t hg (ip q hb), trivial⟩)
set_option maxHeartbeats 1000000 in
set_option maxRecDepth 100000 in
theorem Ref_sinks_37_r {g : (Nat × Int32 × Nat × am_H) → Option am_H} (hg : ∀ s r, g s = some r → Eqs s.2.2.2 r) {v0 : Nat} {v2 : Int32} {h : am_H} {r : am_H} (hb : Ref_sinks_37_b g v0 v2 h = some r) : Eqs h r := by
  unfold Ref_sinks_37_b at hb
  have w0 := Eqs.rf h
  obtain ⟨x1, e_x1, hb2⟩ := ob2 hb
  by_cases q : x1 ≤ v2
  · have hb3 := ip q hb2
    obtain rfl := Option.some.inj hb3
    exact w0
  · have hb4 := iq q hb2
    obtain ⟨x5, e_x5, hb6⟩ := ob2 hb4
    obtain ⟨x7, e_x7, hb8⟩ := ob2 hb6
    obtain ⟨x9, e_x9, hb10⟩ := ob2 hb8
    obtain ⟨h11, e_h11, hb12⟩ := ob2 hb10
    have w13 := w0.tr (sI_q e_h11)
    exact w13.tr (hg _ _ hb12)
theorem Ref_sinks_37_Q : ∀ s r, fx Ref_sinks_37_F Ref_sinks_37_M s = some r → Eqs s.2.2.2 r := fx_ind Ref_sinks_37_M (fun s r => Eqs s.2.2.2 r) (fun g hg s r hb => by
  unfold Ref_sinks_37_F at hb
  by_cases q0 : s.1 = 37
  · exact Ref_sinks_37_r hg (ip q0 hb)
  · have hb0 := iq q0 hb
    exact nomatch hb0)
noncomputable def Ref_sinks_37 (v0 : Nat) (v2 : Int32) (h : am_H) : Option am_H := fx Ref_sinks_37_F Ref_sinks_37_M (37, v2, v0, h)
set_option maxHeartbeats 1000000 in
set_option maxRecDepth 100000 in
theorem Ref_sinks_37_e (v0 : Nat) (v2 : Int32) (h : am_H) : Ref_sinks_37 v0 v2 h = ((gI h 12 v0 31).bind fun x1 => if x1 ≤ v2 then some h else (gR h 12 v0 29).bind fun x5 => (gR h 12 v0 30).bind fun x7 => (aI h 0 x7 v2).bind fun x9 => (sI h x5 v2 x9).bind fun h11 => Ref_sinks_37 v0 (v2 + (1 : Int32)) h11) := (fx_eq Ref_sinks_37_M (37, v2, v0, h)).trans (if_pos rfl)
theorem Ref_sinks_37_q {v0 : Nat} {v2 : Int32} {h : am_H} {r : am_H} (hb : Ref_sinks_37 v0 v2 h = some r) : Eqs h r := Ref_sinks_37_Q _ _ hb
theorem Ref_sinks_37_s {v0 : Nat} {v2 : Int32} {h : am_H} {r : am_H} (hb : Ref_sinks_37 v0 v2 h = some r) : Sx 0 mX12_sinks 37 [.ref v0, .retAddr 0, .int v2] [] h none r := (Ref_sinks_37_T _ _ hb).1 rfl
set_option maxHeartbeats 1000000 in
set_option maxRecDepth 100000 in
noncomputable def Ref_sinks_2_b (g : (Nat × Int32 × Int32 × Nat × am_H) → Option am_H) (v0 : Nat) (v1 : Int32) (v2 : Int32) (h : am_H) : Option am_H := (gI h 12 v0 31).bind fun x14 => if x14 ≤ v2 then Ref_sinks_37 v0 (0 : Int32) h else (gR h 12 v0 30).bind fun x18 => (gR h 12 v0 29).bind fun x20 => (gI h 12 v0 31).bind fun x22 => (rmI (v2 + v1) x22).bind fun x24 => (aI h 0 x20 x24).bind fun x26 => (sI h x18 v2 x26).bind fun h28 => g (2, v1, (v2 + (1 : Int32)), v0, h28)
set_option maxHeartbeats 1000000 in
set_option maxRecDepth 100000 in
theorem Ref_sinks_2_m {g g2 : (Nat × Int32 × Int32 × Nat × am_H) → Option am_H} (hg : ∀ s, Le (g s) (g2 s)) (v0 : Nat) (v1 : Int32) (v2 : Int32) (h : am_H) : Le (Ref_sinks_2_b g v0 v1 v2 h) (Ref_sinks_2_b g2 v0 v1 v2 h) := by unfold Ref_sinks_2_b; exact le_b (le_r _) fun x14 => le_i (le_r _) (le_b (le_r _) fun x18 => le_b (le_r _) fun x20 => le_b (le_r _) fun x22 => le_b (le_r _) fun x24 => le_b (le_r _) fun x26 => le_b (le_r _) fun h28 => hg _)
noncomputable def Ref_sinks_2_F (g : (Nat × Int32 × Int32 × Nat × am_H) → Option am_H) (s : (Nat × Int32 × Int32 × Nat × am_H)) : Option am_H := if s.1 = 2 then Ref_sinks_2_b g s.2.2.2.1 s.2.1 s.2.2.1 s.2.2.2.2 else none
theorem Ref_sinks_2_M : Mn Ref_sinks_2_F := fun g g2 hg s => by unfold Ref_sinks_2_F; exact le_i (Ref_sinks_2_m hg s.2.2.2.1 s.2.1 s.2.2.1 s.2.2.2.2) (le_r _)
def Ref_sinks_2_P (s : (Nat × Int32 × Int32 × Nat × am_H)) (r : am_H) : Prop := (s.1 = 2 → Sx 0 mX12_sinks 2 [.ref s.2.2.2.1, .int s.2.1, .int s.2.2.1] [] s.2.2.2.2 none r) ∧ True
set_option maxHeartbeats 1000000 in
set_option maxRecDepth 100000 in
theorem Ref_sinks_2_t {g : (Nat × Int32 × Int32 × Nat × am_H) → Option am_H} (hg : ∀ s r, g s = some r → Ref_sinks_2_P s r) {v0 : Nat} {v1 : Int32} {v2 : Int32} {h : am_H} {r : am_H} (hb : Ref_sinks_2_b g v0 v1 v2 h = some r) : Sx 0 mX12_sinks 2 [.ref v0, .int v1, .int v2] [] h none r := by
  unfold Ref_sinks_2_b at hb
  refine Sx.o (fun _ _ _ k => ex_iload_n dX12_sinks_2 rfl k) ?_
  refine Sx.o (fun _ _ _ k => ex_aload_n dX12_sinks_3 rfl rfl k) ?_
  obtain ⟨x14, e_x14, hb15⟩ := ob2 hb
  refine Sx.o (fun _ _ _ k => op_getI fX12_130 dX12_sinks_4 e_x14 k) ?_
  refine Sx.b (fun _ _ _ k1 k2 => ex_icmp_ge 35 dX12_sinks_7 (by decide) k1 k2) (fun q => ?_) (fun q => ?_)
  · have hb16 := ip q hb15
    refine Sx.o (fun _ _ _ k => op_iconst (0 : Int32) dX12_sinks_35 (by decide) k) ?_
    refine Sx.o (L' := [.ref v0, .int v1, .int (0 : Int32)]) (fun _ _ _ k => ex_istore_n dX12_sinks_36 (by decide) k) ?_
    refine Sx.fg [true, false, true] ?_
    exact Ref_sinks_37_s hb16
  · have hb17 := iq q hb15
    refine Sx.o (fun _ _ _ k => ex_aload_n dX12_sinks_10 rfl rfl k) ?_
    obtain ⟨x18, e_x18, hb19⟩ := ob2 hb17
    refine Sx.o (fun _ _ _ k => op_getR fX12_68 dX12_sinks_11 e_x18 k) ?_
    refine Sx.o (fun _ _ _ k => ex_iload_n dX12_sinks_14 rfl k) ?_
    refine Sx.o (fun _ _ _ k => ex_aload_n dX12_sinks_15 rfl rfl k) ?_
    obtain ⟨x20, e_x20, hb21⟩ := ob2 hb19
    refine Sx.o (fun _ _ _ k => op_getR fX12_65 dX12_sinks_16 e_x20 k) ?_
    refine Sx.o (fun _ _ _ k => ex_iload_n dX12_sinks_19 rfl k) ?_
    refine Sx.o (fun _ _ _ k => ex_iload_n dX12_sinks_20 rfl k) ?_
    refine Sx.o (fun _ _ _ k => ex_iadd dX12_sinks_21 k) ?_
    refine Sx.o (fun _ _ _ k => ex_aload_n dX12_sinks_22 rfl rfl k) ?_
    obtain ⟨x22, e_x22, hb23⟩ := ob2 hb21
    refine Sx.o (fun _ _ _ k => op_getI fX12_130 dX12_sinks_23 e_x22 k) ?_
    obtain ⟨x24, e_x24, hb25⟩ := ob2 hb23
    refine Sx.o (fun _ _ _ k => op_irem dX12_sinks_26 e_x24 k) ?_
    obtain ⟨x26, e_x26, hb27⟩ := ob2 hb25
    refine Sx.o (fun _ _ _ k => op_iald dX12_sinks_27 e_x26 k) ?_
    obtain ⟨h28, e_h28, hb29⟩ := ob2 hb27
    refine Sx.p (sI_q e_h28) (fun _ _ _ k => op_iast dX12_sinks_28 e_h28 k) ?_
    refine Sx.o (L' := [.ref v0, .int v1, .int (v2 + (1 : Int32))]) (fun _ _ _ k => op_iinc (1 : Int32) dX12_sinks_29 (by decide) rfl (by decide) k) ?_
    refine Sx.o (fun _ _ _ k => ex_goto 2 dX12_sinks_32 (by decide) k) ?_
    exact (hg _ _ hb29).1 rfl
theorem Ref_sinks_2_T : ∀ s r, fx Ref_sinks_2_F Ref_sinks_2_M s = some r → Ref_sinks_2_P s r := fx_ind Ref_sinks_2_M Ref_sinks_2_P (fun g hg s r hb => by
  unfold Ref_sinks_2_F at hb
  exact ⟨fun q => Ref_sinks_2_t hg (ip q hb), trivial⟩)
set_option maxHeartbeats 1000000 in
set_option maxRecDepth 100000 in
theorem Ref_sinks_2_r {g : (Nat × Int32 × Int32 × Nat × am_H) → Option am_H} (hg : ∀ s r, g s = some r → Eqs s.2.2.2.2 r) {v0 : Nat} {v1 : Int32} {v2 : Int32} {h : am_H} {r : am_H} (hb : Ref_sinks_2_b g v0 v1 v2 h = some r) : Eqs h r := by
  unfold Ref_sinks_2_b at hb
  have w0 := Eqs.rf h
  obtain ⟨x14, e_x14, hb15⟩ := ob2 hb
  by_cases q : x14 ≤ v2
  · have hb16 := ip q hb15
    exact w0.tr (Ref_sinks_37_q hb16)
  · have hb17 := iq q hb15
    obtain ⟨x18, e_x18, hb19⟩ := ob2 hb17
    obtain ⟨x20, e_x20, hb21⟩ := ob2 hb19
    obtain ⟨x22, e_x22, hb23⟩ := ob2 hb21
    obtain ⟨x24, e_x24, hb25⟩ := ob2 hb23
    obtain ⟨x26, e_x26, hb27⟩ := ob2 hb25
    obtain ⟨h28, e_h28, hb29⟩ := ob2 hb27
    have w30 := w0.tr (sI_q e_h28)
    exact w30.tr (hg _ _ hb29)
theorem Ref_sinks_2_Q : ∀ s r, fx Ref_sinks_2_F Ref_sinks_2_M s = some r → Eqs s.2.2.2.2 r := fx_ind Ref_sinks_2_M (fun s r => Eqs s.2.2.2.2 r) (fun g hg s r hb => by
  unfold Ref_sinks_2_F at hb
  by_cases q0 : s.1 = 2
  · exact Ref_sinks_2_r hg (ip q0 hb)
  · have hb0 := iq q0 hb
    exact nomatch hb0)
noncomputable def Ref_sinks_2 (v0 : Nat) (v1 : Int32) (v2 : Int32) (h : am_H) : Option am_H := fx Ref_sinks_2_F Ref_sinks_2_M (2, v1, v2, v0, h)
set_option maxHeartbeats 1000000 in
set_option maxRecDepth 100000 in
theorem Ref_sinks_2_e (v0 : Nat) (v1 : Int32) (v2 : Int32) (h : am_H) : Ref_sinks_2 v0 v1 v2 h = ((gI h 12 v0 31).bind fun x14 => if x14 ≤ v2 then Ref_sinks_37 v0 (0 : Int32) h else (gR h 12 v0 30).bind fun x18 => (gR h 12 v0 29).bind fun x20 => (gI h 12 v0 31).bind fun x22 => (rmI (v2 + v1) x22).bind fun x24 => (aI h 0 x20 x24).bind fun x26 => (sI h x18 v2 x26).bind fun h28 => Ref_sinks_2 v0 v1 (v2 + (1 : Int32)) h28) := (fx_eq Ref_sinks_2_M (2, v1, v2, v0, h)).trans (if_pos rfl)
theorem Ref_sinks_2_q {v0 : Nat} {v1 : Int32} {v2 : Int32} {h : am_H} {r : am_H} (hb : Ref_sinks_2 v0 v1 v2 h = some r) : Eqs h r := Ref_sinks_2_Q _ _ hb
theorem Ref_sinks_2_s {v0 : Nat} {v1 : Int32} {v2 : Int32} {h : am_H} {r : am_H} (hb : Ref_sinks_2 v0 v1 v2 h = some r) : Sx 0 mX12_sinks 2 [.ref v0, .int v1, .int v2] [] h none r := (Ref_sinks_2_T _ _ hb).1 rfl
set_option maxHeartbeats 1000000 in
set_option maxRecDepth 100000 in
noncomputable def Ref_sinks (v0 : Nat) (v1 : Int32) (h : am_H) : Option am_H := if isO h 12 v0 = true then Ref_sinks_2 v0 v1 (0 : Int32) h else none
set_option maxHeartbeats 1000000 in
set_option maxRecDepth 100000 in
theorem Ref_sinks_s {v0 : Nat} {v1 : Int32} {h : am_H} {r : am_H} (hb : Ref_sinks v0 v1 h = some r) : Sx 0 mX12_sinks 0 (am_en [.ref v0, .int v1] 3) [] h none r := by
  unfold Ref_sinks at hb
  have hb := (iz hb).2
  show Sx 0 mX12_sinks 0 [.ref v0, .int v1, .retAddr 0] [] h none r
  refine Sx.o (fun _ _ _ k => op_iconst (0 : Int32) dX12_sinks_0 (by decide) k) ?_
  refine Sx.o (L' := [.ref v0, .int v1, .int (0 : Int32)]) (fun _ _ _ k => ex_istore_n dX12_sinks_1 (by decide) k) ?_
  exact Ref_sinks_2_s hb
set_option maxHeartbeats 1000000 in
set_option maxRecDepth 100000 in
theorem Ref_sinks_q {v0 : Nat} {v1 : Int32} {h : am_H} {r : am_H} (hb : Ref_sinks v0 v1 h = some r) : Eqs h r := by
  unfold Ref_sinks at hb
  have hb := (iz hb).2
  have w0 := Eqs.rf h
  exact w0.tr (Ref_sinks_2_q hb)
theorem Ref_sinks_o {v0 : Nat} {v1 : Int32} {h : am_H} {r : am_H} (hb : Ref_sinks v0 v1 h = some r) : isO h 12 v0 = true := by
  unfold Ref_sinks at hb
  exact (iz hb).1
set_option maxHeartbeats 1000000 in
set_option maxRecDepth 100000 in
noncomputable def Ref_turns_2_b (g : (Nat × Int32 × Int32 × Nat × am_H) → Option am_H) (v0 : Nat) (v1 : Int32) (v2 : Int32) (h : am_H) : Option am_H := if v1 ≤ (((2 : Int32) * v2) + (1 : Int32)) then some h else (gR h 12 v0 29).bind fun x3 => (aI h 0 x3 v2).bind fun x5 => (gR h 12 v0 29).bind fun x7 => (gR h 12 v0 29).bind fun x9 => (aI h 0 x9 ((v1 - (1 : Int32)) - v2)).bind fun x11 => (sI h x7 v2 x11).bind fun h13 => (gR h13 12 v0 29).bind fun x16 => (sI h13 x16 ((v1 - (1 : Int32)) - v2) x5).bind fun h18 => g (2, v1, (v2 + (1 : Int32)), v0, h18)
set_option maxHeartbeats 1000000 in
set_option maxRecDepth 100000 in
theorem Ref_turns_2_m {g g2 : (Nat × Int32 × Int32 × Nat × am_H) → Option am_H} (hg : ∀ s, Le (g s) (g2 s)) (v0 : Nat) (v1 : Int32) (v2 : Int32) (h : am_H) : Le (Ref_turns_2_b g v0 v1 v2 h) (Ref_turns_2_b g2 v0 v1 v2 h) := by unfold Ref_turns_2_b; exact le_i (le_r _) (le_b (le_r _) fun x3 => le_b (le_r _) fun x5 => le_b (le_r _) fun x7 => le_b (le_r _) fun x9 => le_b (le_r _) fun x11 => le_b (le_r _) fun h13 => le_b (le_r _) fun x16 => le_b (le_r _) fun h18 => hg _)
noncomputable def Ref_turns_2_F (g : (Nat × Int32 × Int32 × Nat × am_H) → Option am_H) (s : (Nat × Int32 × Int32 × Nat × am_H)) : Option am_H := if s.1 = 2 then Ref_turns_2_b g s.2.2.2.1 s.2.1 s.2.2.1 s.2.2.2.2 else none
theorem Ref_turns_2_M : Mn Ref_turns_2_F := fun g g2 hg s => by unfold Ref_turns_2_F; exact le_i (Ref_turns_2_m hg s.2.2.2.1 s.2.1 s.2.2.1 s.2.2.2.2) (le_r _)
def Ref_turns_2_P (s : (Nat × Int32 × Int32 × Nat × am_H)) (r : am_H) : Prop := (s.1 = 2 → Sx 0 mX12_turns 2 [.ref s.2.2.2.1, .int s.2.1, .int s.2.2.1, .retAddr 0] [] s.2.2.2.2 none r) ∧ True
set_option maxHeartbeats 1000000 in
set_option maxRecDepth 100000 in
theorem Ref_turns_2_t {g : (Nat × Int32 × Int32 × Nat × am_H) → Option am_H} (hg : ∀ s r, g s = some r → Ref_turns_2_P s r) {v0 : Nat} {v1 : Int32} {v2 : Int32} {h : am_H} {r : am_H} (hb : Ref_turns_2_b g v0 v1 v2 h = some r) : Sx 0 mX12_turns 2 [.ref v0, .int v1, .int v2, .retAddr 0] [] h none r := by
  unfold Ref_turns_2_b at hb
  refine Sx.o (fun _ _ _ k => op_iconst (2 : Int32) dX12_turns_2 (by decide) k) ?_
  refine Sx.o (fun _ _ _ k => ex_iload_n dX12_turns_3 rfl k) ?_
  refine Sx.o (fun _ _ _ k => ex_imul dX12_turns_4 k) ?_
  refine Sx.o (fun _ _ _ k => op_iconst (1 : Int32) dX12_turns_5 (by decide) k) ?_
  refine Sx.o (fun _ _ _ k => ex_iadd dX12_turns_6 k) ?_
  refine Sx.o (fun _ _ _ k => ex_iload_n dX12_turns_7 rfl k) ?_
  refine Sx.b (fun _ _ _ k1 k2 => ex_icmp_ge 51 dX12_turns_8 (by decide) k1 k2) (fun q => ?_) (fun q => ?_)
  · have hb1 := ip q hb
    obtain rfl := Option.some.inj hb1
    exact Sx.r (fun _ _ _ k => ex_vret rfl dX12_turns_51 k)
  · have hb2 := iq q hb
    refine Sx.o (fun _ _ _ k => ex_aload_n dX12_turns_11 rfl rfl k) ?_
    obtain ⟨x3, e_x3, hb4⟩ := ob2 hb2
    refine Sx.o (fun _ _ _ k => op_getR fX12_65 dX12_turns_12 e_x3 k) ?_
    refine Sx.o (fun _ _ _ k => ex_iload_n dX12_turns_15 rfl k) ?_
    obtain ⟨x5, e_x5, hb6⟩ := ob2 hb4
    refine Sx.o (fun _ _ _ k => op_iald dX12_turns_16 e_x5 k) ?_
    refine Sx.o (L' := [.ref v0, .int v1, .int v2, .int x5]) (fun _ _ _ k => ex_istore_n dX12_turns_17 (by decide) k) ?_
    refine Sx.o (fun _ _ _ k => ex_aload_n dX12_turns_18 rfl rfl k) ?_
    obtain ⟨x7, e_x7, hb8⟩ := ob2 hb6
    refine Sx.o (fun _ _ _ k => op_getR fX12_65 dX12_turns_19 e_x7 k) ?_
    refine Sx.o (fun _ _ _ k => ex_iload_n dX12_turns_22 rfl k) ?_
    refine Sx.o (fun _ _ _ k => ex_aload_n dX12_turns_23 rfl rfl k) ?_
    obtain ⟨x9, e_x9, hb10⟩ := ob2 hb8
    refine Sx.o (fun _ _ _ k => op_getR fX12_65 dX12_turns_24 e_x9 k) ?_
    refine Sx.o (fun _ _ _ k => ex_iload_n dX12_turns_27 rfl k) ?_
    refine Sx.o (fun _ _ _ k => op_iconst (1 : Int32) dX12_turns_28 (by decide) k) ?_
    refine Sx.o (fun _ _ _ k => ex_isub dX12_turns_29 k) ?_
    refine Sx.o (fun _ _ _ k => ex_iload_n dX12_turns_30 rfl k) ?_
    refine Sx.o (fun _ _ _ k => ex_isub dX12_turns_31 k) ?_
    obtain ⟨x11, e_x11, hb12⟩ := ob2 hb10
    refine Sx.o (fun _ _ _ k => op_iald dX12_turns_32 e_x11 k) ?_
    obtain ⟨h13, e_h13, hb14⟩ := ob2 hb12
    refine Sx.p (sI_q e_h13) (fun _ _ _ k => op_iast dX12_turns_33 e_h13 k) ?_
    refine Sx.o (fun _ _ _ k => ex_aload_n dX12_turns_34 rfl rfl k) ?_
    obtain ⟨x16, e_x16, hb17⟩ := ob2 hb14
    refine Sx.o (fun _ _ _ k => op_getR fX12_65 dX12_turns_35 e_x16 k) ?_
    refine Sx.o (fun _ _ _ k => ex_iload_n dX12_turns_38 rfl k) ?_
    refine Sx.o (fun _ _ _ k => op_iconst (1 : Int32) dX12_turns_39 (by decide) k) ?_
    refine Sx.o (fun _ _ _ k => ex_isub dX12_turns_40 k) ?_
    refine Sx.o (fun _ _ _ k => ex_iload_n dX12_turns_41 rfl k) ?_
    refine Sx.o (fun _ _ _ k => ex_isub dX12_turns_42 k) ?_
    refine Sx.o (fun _ _ _ k => ex_iload_n dX12_turns_43 rfl k) ?_
    obtain ⟨h18, e_h18, hb19⟩ := ob2 hb17
    refine Sx.p (sI_q e_h18) (fun _ _ _ k => op_iast dX12_turns_44 e_h18 k) ?_
    refine Sx.o (L' := [.ref v0, .int v1, .int (v2 + (1 : Int32)), .int x5]) (fun _ _ _ k => op_iinc (1 : Int32) dX12_turns_45 (by decide) rfl (by decide) k) ?_
    refine Sx.o (fun _ _ _ k => ex_goto 2 dX12_turns_48 (by decide) k) ?_
    refine Sx.fg [true, true, true, false] ?_
    exact (hg _ _ hb19).1 rfl
theorem Ref_turns_2_T : ∀ s r, fx Ref_turns_2_F Ref_turns_2_M s = some r → Ref_turns_2_P s r := fx_ind Ref_turns_2_M Ref_turns_2_P (fun g hg s r hb => by
  unfold Ref_turns_2_F at hb
  exact ⟨fun q => Ref_turns_2_t hg (ip q hb), trivial⟩)
set_option maxHeartbeats 1000000 in
set_option maxRecDepth 100000 in
theorem Ref_turns_2_r {g : (Nat × Int32 × Int32 × Nat × am_H) → Option am_H} (hg : ∀ s r, g s = some r → Eqs s.2.2.2.2 r) {v0 : Nat} {v1 : Int32} {v2 : Int32} {h : am_H} {r : am_H} (hb : Ref_turns_2_b g v0 v1 v2 h = some r) : Eqs h r := by
  unfold Ref_turns_2_b at hb
  have w0 := Eqs.rf h
  by_cases q : v1 ≤ (((2 : Int32) * v2) + (1 : Int32))
  · have hb1 := ip q hb
    obtain rfl := Option.some.inj hb1
    exact w0
  · have hb2 := iq q hb
    obtain ⟨x3, e_x3, hb4⟩ := ob2 hb2
    obtain ⟨x5, e_x5, hb6⟩ := ob2 hb4
    obtain ⟨x7, e_x7, hb8⟩ := ob2 hb6
    obtain ⟨x9, e_x9, hb10⟩ := ob2 hb8
    obtain ⟨x11, e_x11, hb12⟩ := ob2 hb10
    obtain ⟨h13, e_h13, hb14⟩ := ob2 hb12
    have w15 := w0.tr (sI_q e_h13)
    obtain ⟨x16, e_x16, hb17⟩ := ob2 hb14
    obtain ⟨h18, e_h18, hb19⟩ := ob2 hb17
    have w20 := w15.tr (sI_q e_h18)
    exact w20.tr (hg _ _ hb19)
theorem Ref_turns_2_Q : ∀ s r, fx Ref_turns_2_F Ref_turns_2_M s = some r → Eqs s.2.2.2.2 r := fx_ind Ref_turns_2_M (fun s r => Eqs s.2.2.2.2 r) (fun g hg s r hb => by
  unfold Ref_turns_2_F at hb
  by_cases q0 : s.1 = 2
  · exact Ref_turns_2_r hg (ip q0 hb)
  · have hb0 := iq q0 hb
    exact nomatch hb0)
noncomputable def Ref_turns_2 (v0 : Nat) (v1 : Int32) (v2 : Int32) (h : am_H) : Option am_H := fx Ref_turns_2_F Ref_turns_2_M (2, v1, v2, v0, h)
set_option maxHeartbeats 1000000 in
set_option maxRecDepth 100000 in
theorem Ref_turns_2_e (v0 : Nat) (v1 : Int32) (v2 : Int32) (h : am_H) : Ref_turns_2 v0 v1 v2 h = (if v1 ≤ (((2 : Int32) * v2) + (1 : Int32)) then some h else (gR h 12 v0 29).bind fun x3 => (aI h 0 x3 v2).bind fun x5 => (gR h 12 v0 29).bind fun x7 => (gR h 12 v0 29).bind fun x9 => (aI h 0 x9 ((v1 - (1 : Int32)) - v2)).bind fun x11 => (sI h x7 v2 x11).bind fun h13 => (gR h13 12 v0 29).bind fun x16 => (sI h13 x16 ((v1 - (1 : Int32)) - v2) x5).bind fun h18 => Ref_turns_2 v0 v1 (v2 + (1 : Int32)) h18) := (fx_eq Ref_turns_2_M (2, v1, v2, v0, h)).trans (if_pos rfl)
theorem Ref_turns_2_q {v0 : Nat} {v1 : Int32} {v2 : Int32} {h : am_H} {r : am_H} (hb : Ref_turns_2 v0 v1 v2 h = some r) : Eqs h r := Ref_turns_2_Q _ _ hb
theorem Ref_turns_2_s {v0 : Nat} {v1 : Int32} {v2 : Int32} {h : am_H} {r : am_H} (hb : Ref_turns_2 v0 v1 v2 h = some r) : Sx 0 mX12_turns 2 [.ref v0, .int v1, .int v2, .retAddr 0] [] h none r := (Ref_turns_2_T _ _ hb).1 rfl
set_option maxHeartbeats 1000000 in
set_option maxRecDepth 100000 in
noncomputable def Ref_turns (v0 : Nat) (v1 : Int32) (h : am_H) : Option am_H := if isO h 12 v0 = true then Ref_turns_2 v0 v1 (0 : Int32) h else none
set_option maxHeartbeats 1000000 in
set_option maxRecDepth 100000 in
theorem Ref_turns_s {v0 : Nat} {v1 : Int32} {h : am_H} {r : am_H} (hb : Ref_turns v0 v1 h = some r) : Sx 0 mX12_turns 0 (am_en [.ref v0, .int v1] 4) [] h none r := by
  unfold Ref_turns at hb
  have hb := (iz hb).2
  show Sx 0 mX12_turns 0 [.ref v0, .int v1, .retAddr 0, .retAddr 0] [] h none r
  refine Sx.o (fun _ _ _ k => op_iconst (0 : Int32) dX12_turns_0 (by decide) k) ?_
  refine Sx.o (L' := [.ref v0, .int v1, .int (0 : Int32), .retAddr 0]) (fun _ _ _ k => ex_istore_n dX12_turns_1 (by decide) k) ?_
  exact Ref_turns_2_s hb
set_option maxHeartbeats 1000000 in
set_option maxRecDepth 100000 in
theorem Ref_turns_q {v0 : Nat} {v1 : Int32} {h : am_H} {r : am_H} (hb : Ref_turns v0 v1 h = some r) : Eqs h r := by
  unfold Ref_turns at hb
  have hb := (iz hb).2
  have w0 := Eqs.rf h
  exact w0.tr (Ref_turns_2_q hb)
theorem Ref_turns_o {v0 : Nat} {v1 : Int32} {h : am_H} {r : am_H} (hb : Ref_turns v0 v1 h = some r) : isO h 12 v0 = true := by
  unfold Ref_turns at hb
  exact (iz hb).1
set_option maxHeartbeats 1000000 in
set_option maxRecDepth 100000 in
noncomputable def Ref_steps (v0 : Nat) (h : am_H) : Option am_H := if isO h 12 v0 = true then (Ref_turnsBy v0 h).bind fun r1 => (Ref_sinksBy v0 r1.2).bind fun r4 => (Ref_turns v0 (Int64.toInt32 r1.1) r4.2).bind fun h7 => (Ref_sinks v0 (Int64.toInt32 r4.1) h7).bind fun h10 => (pV h10 12 v0 32 (.int (Int64.toInt32 r1.1))).bind fun h13 => some h13 else none
set_option maxHeartbeats 1000000 in
set_option maxRecDepth 100000 in
theorem Ref_steps_s {v0 : Nat} {h : am_H} {r : am_H} (hb : Ref_steps v0 h = some r) : Sx 87 mX12_steps 0 (am_en [.ref v0] 3) [] h none r := by
  unfold Ref_steps at hb
  have hb := (iz hb).2
  show Sx 87 mX12_steps 0 [.ref v0, .retAddr 0, .retAddr 0] [] h none r
  refine Sx.o (fun _ _ _ k => ex_aload_n dX12_steps_0 rfl rfl k) ?_
  obtain ⟨r1, e_r1, hb2⟩ := ob2 hb
  refine sx_callV (dc := 86) (as := []) (stq := [.long r1.1]) (by omega) dX12_steps_1 MX12_turnsBy kX12_143 iX12_turnsBy sX12_turnsBy rfl rfl (Ref_turnsBy_o e_r1) rfl rfl (Nat.le_of_ble_eq_true rfl) (Nat.le_of_ble_eq_true rfl) (Ref_turnsBy_s e_r1) rfl ?_
  refine Sx.o (fun _ _ _ k => ex_l2i dX12_steps_4 k) ?_
  refine Sx.o (L' := [.ref v0, .int (Int64.toInt32 r1.1), .retAddr 0]) (fun _ _ _ k => ex_istore_n dX12_steps_5 (by decide) k) ?_
  refine Sx.o (fun _ _ _ k => ex_aload_n dX12_steps_6 rfl rfl k) ?_
  obtain ⟨r4, e_r4, hb5⟩ := ob2 hb2
  refine sx_callV (dc := 86) (as := []) (stq := [.long r4.1]) (by omega) dX12_steps_7 MX12_sinksBy kX12_151 iX12_sinksBy sX12_sinksBy rfl rfl (Ref_sinksBy_o e_r4) rfl rfl (Nat.le_of_ble_eq_true rfl) (Nat.le_of_ble_eq_true rfl) (Ref_sinksBy_s e_r4) rfl ?_
  refine Sx.o (fun _ _ _ k => ex_l2i dX12_steps_10 k) ?_
  refine Sx.o (L' := [.ref v0, .int (Int64.toInt32 r1.1), .int (Int64.toInt32 r4.1)]) (fun _ _ _ k => ex_istore_n dX12_steps_11 (by decide) k) ?_
  refine Sx.o (fun _ _ _ k => ex_aload_n dX12_steps_12 rfl rfl k) ?_
  refine Sx.o (fun _ _ _ k => ex_iload_n dX12_steps_13 rfl k) ?_
  obtain ⟨h7, e_h7, hb8⟩ := ob2 hb5
  refine sx_callV (dc := 0) (as := [.int (Int64.toInt32 r1.1)]) (stq := []) (by omega) dX12_steps_14 MX12_turns kX12_327 iX12_turns sX12_turns rfl rfl (Ref_turns_o e_h7) rfl rfl (Nat.le_of_ble_eq_true rfl) (Nat.le_of_ble_eq_true rfl) (Ref_turns_s e_h7) rfl ?_
  refine Sx.o (fun _ _ _ k => ex_aload_n dX12_steps_17 rfl rfl k) ?_
  refine Sx.o (fun _ _ _ k => ex_iload_n dX12_steps_18 rfl k) ?_
  obtain ⟨h10, e_h10, hb11⟩ := ob2 hb8
  refine sx_callV (dc := 0) (as := [.int (Int64.toInt32 r4.1)]) (stq := []) (by omega) dX12_steps_19 MX12_sinks kX12_330 iX12_sinks sX12_sinks rfl rfl (Ref_sinks_o e_h10) rfl rfl (Nat.le_of_ble_eq_true rfl) (Nat.le_of_ble_eq_true rfl) (Ref_sinks_s e_h10) rfl ?_
  refine Sx.o (fun _ _ _ k => ex_aload_n dX12_steps_22 rfl rfl k) ?_
  refine Sx.o (fun _ _ _ k => ex_iload_n dX12_steps_23 rfl k) ?_
  obtain ⟨h13, e_h13, hb14⟩ := ob2 hb11
  refine Sx.p (pV_q e_h13) (fun _ _ _ k => op_put pX12_133 dX12_steps_24 e_h13 (fun _ => rfl) (fun _ => rfl) k) ?_
  obtain rfl := Option.some.inj hb14
  exact Sx.r (fun _ _ _ k => ex_vret rfl dX12_steps_27 k)
set_option maxHeartbeats 1000000 in
set_option maxRecDepth 100000 in
theorem Ref_steps_q {v0 : Nat} {h : am_H} {r : am_H} (hb : Ref_steps v0 h = some r) : Eqs h r := by
  unfold Ref_steps at hb
  have hb := (iz hb).2
  have w0 := Eqs.rf h
  obtain ⟨r1, e_r1, hb2⟩ := ob2 hb
  have w3 := w0.tr (Ref_turnsBy_q e_r1)
  obtain ⟨r4, e_r4, hb5⟩ := ob2 hb2
  have w6 := w3.tr (Ref_sinksBy_q e_r4)
  obtain ⟨h7, e_h7, hb8⟩ := ob2 hb5
  have w9 := w6.tr (Ref_turns_q e_h7)
  obtain ⟨h10, e_h10, hb11⟩ := ob2 hb8
  have w12 := w9.tr (Ref_sinks_q e_h10)
  obtain ⟨h13, e_h13, hb14⟩ := ob2 hb11
  have w15 := w12.tr (pV_q e_h13)
  obtain rfl := Option.some.inj hb14
  exact w15
theorem Ref_steps_o {v0 : Nat} {h : am_H} {r : am_H} (hb : Ref_steps v0 h = some r) : isO h 12 v0 = true := by
  unfold Ref_steps at hb
  exact (iz hb).1
set_option maxHeartbeats 1000000 in
set_option maxRecDepth 100000 in
noncomputable def Ref_takes_31_b (g : (Nat × Int32 × Int32 × Nat × am_H) → Option am_H) (v0 : Nat) (v1 : Int32) (v2 : Int32) (h : am_H) : Option am_H := if (13 : Int32) ≤ v2 then some h else (gR h 12 v0 29).bind fun x3 => (Ref_cardOf v0 v1 v2 h).bind fun x5 => (sI h x3 v2 x5).bind fun h7 => g (31, v1, (v2 + (1 : Int32)), v0, h7)
set_option maxHeartbeats 1000000 in
set_option maxRecDepth 100000 in
theorem Ref_takes_31_m {g g2 : (Nat × Int32 × Int32 × Nat × am_H) → Option am_H} (hg : ∀ s, Le (g s) (g2 s)) (v0 : Nat) (v1 : Int32) (v2 : Int32) (h : am_H) : Le (Ref_takes_31_b g v0 v1 v2 h) (Ref_takes_31_b g2 v0 v1 v2 h) := by unfold Ref_takes_31_b; exact le_i (le_r _) (le_b (le_r _) fun x3 => le_b (le_r _) fun x5 => le_b (le_r _) fun h7 => hg _)
noncomputable def Ref_takes_31_F (g : (Nat × Int32 × Int32 × Nat × am_H) → Option am_H) (s : (Nat × Int32 × Int32 × Nat × am_H)) : Option am_H := if s.1 = 31 then Ref_takes_31_b g s.2.2.2.1 s.2.1 s.2.2.1 s.2.2.2.2 else none
theorem Ref_takes_31_M : Mn Ref_takes_31_F := fun g g2 hg s => by unfold Ref_takes_31_F; exact le_i (Ref_takes_31_m hg s.2.2.2.1 s.2.1 s.2.2.1 s.2.2.2.2) (le_r _)
def Ref_takes_31_P (s : (Nat × Int32 × Int32 × Nat × am_H)) (r : am_H) : Prop := (s.1 = 31 → Sx 2 mX12_takes 31 [.ref s.2.2.2.1, .int s.2.1, .int s.2.2.1] [] s.2.2.2.2 none r) ∧ True
set_option maxHeartbeats 1000000 in
set_option maxRecDepth 100000 in
theorem Ref_takes_31_t {g : (Nat × Int32 × Int32 × Nat × am_H) → Option am_H} (hg : ∀ s r, g s = some r → Ref_takes_31_P s r) {v0 : Nat} {v1 : Int32} {v2 : Int32} {h : am_H} {r : am_H} (hb : Ref_takes_31_b g v0 v1 v2 h = some r) : Sx 2 mX12_takes 31 [.ref v0, .int v1, .int v2] [] h none r := by
  unfold Ref_takes_31_b at hb
  refine Sx.o (fun _ _ _ k => ex_iload_n dX12_takes_31 rfl k) ?_
  refine Sx.o (fun _ _ _ k => op_bipush (13 : Int32) dX12_takes_32 (by decide) k) ?_
  refine Sx.b (fun _ _ _ k1 k2 => ex_icmp_ge 55 dX12_takes_34 (by decide) k1 k2) (fun q => ?_) (fun q => ?_)
  · have hb1 := ip q hb
    obtain rfl := Option.some.inj hb1
    exact Sx.r (fun _ _ _ k => ex_vret rfl dX12_takes_55 k)
  · have hb2 := iq q hb
    refine Sx.o (fun _ _ _ k => ex_aload_n dX12_takes_37 rfl rfl k) ?_
    obtain ⟨x3, e_x3, hb4⟩ := ob2 hb2
    refine Sx.o (fun _ _ _ k => op_getR fX12_65 dX12_takes_38 e_x3 k) ?_
    refine Sx.o (fun _ _ _ k => ex_iload_n dX12_takes_41 rfl k) ?_
    refine Sx.o (fun _ _ _ k => ex_aload_n dX12_takes_42 rfl rfl k) ?_
    refine Sx.o (fun _ _ _ k => ex_iload_n dX12_takes_43 rfl k) ?_
    refine Sx.o (fun _ _ _ k => ex_iload_n dX12_takes_44 rfl k) ?_
    obtain ⟨x5, e_x5, hb6⟩ := ob2 hb4
    refine sx_callV (dc := 1) (as := [.int v1, .int v2]) (stq := [.int x5, .int v2, .ref x3]) (by omega) dX12_takes_45 MX12_cardOf kX12_280 iX12_cardOf sX12_cardOf rfl rfl (Ref_cardOf_o e_x5) rfl rfl (Nat.le_of_ble_eq_true rfl) (Nat.le_of_ble_eq_true rfl) (Ref_cardOf_s e_x5) rfl ?_
    obtain ⟨h7, e_h7, hb8⟩ := ob2 hb6
    refine Sx.p (sI_q e_h7) (fun _ _ _ k => op_iast dX12_takes_48 e_h7 k) ?_
    refine Sx.o (L' := [.ref v0, .int v1, .int (v2 + (1 : Int32))]) (fun _ _ _ k => op_iinc (1 : Int32) dX12_takes_49 (by decide) rfl (by decide) k) ?_
    refine Sx.o (fun _ _ _ k => ex_goto 31 dX12_takes_52 (by decide) k) ?_
    exact (hg _ _ hb8).1 rfl
theorem Ref_takes_31_T : ∀ s r, fx Ref_takes_31_F Ref_takes_31_M s = some r → Ref_takes_31_P s r := fx_ind Ref_takes_31_M Ref_takes_31_P (fun g hg s r hb => by
  unfold Ref_takes_31_F at hb
  exact ⟨fun q => Ref_takes_31_t hg (ip q hb), trivial⟩)
set_option maxHeartbeats 1000000 in
set_option maxRecDepth 100000 in
theorem Ref_takes_31_r {g : (Nat × Int32 × Int32 × Nat × am_H) → Option am_H} (hg : ∀ s r, g s = some r → Eqs s.2.2.2.2 r) {v0 : Nat} {v1 : Int32} {v2 : Int32} {h : am_H} {r : am_H} (hb : Ref_takes_31_b g v0 v1 v2 h = some r) : Eqs h r := by
  unfold Ref_takes_31_b at hb
  have w0 := Eqs.rf h
  by_cases q : (13 : Int32) ≤ v2
  · have hb1 := ip q hb
    obtain rfl := Option.some.inj hb1
    exact w0
  · have hb2 := iq q hb
    obtain ⟨x3, e_x3, hb4⟩ := ob2 hb2
    obtain ⟨x5, e_x5, hb6⟩ := ob2 hb4
    obtain ⟨h7, e_h7, hb8⟩ := ob2 hb6
    have w9 := w0.tr (sI_q e_h7)
    exact w9.tr (hg _ _ hb8)
theorem Ref_takes_31_Q : ∀ s r, fx Ref_takes_31_F Ref_takes_31_M s = some r → Eqs s.2.2.2.2 r := fx_ind Ref_takes_31_M (fun s r => Eqs s.2.2.2.2 r) (fun g hg s r hb => by
  unfold Ref_takes_31_F at hb
  by_cases q0 : s.1 = 31
  · exact Ref_takes_31_r hg (ip q0 hb)
  · have hb0 := iq q0 hb
    exact nomatch hb0)
noncomputable def Ref_takes_31 (v0 : Nat) (v1 : Int32) (v2 : Int32) (h : am_H) : Option am_H := fx Ref_takes_31_F Ref_takes_31_M (31, v1, v2, v0, h)
set_option maxHeartbeats 1000000 in
set_option maxRecDepth 100000 in
theorem Ref_takes_31_e (v0 : Nat) (v1 : Int32) (v2 : Int32) (h : am_H) : Ref_takes_31 v0 v1 v2 h = (if (13 : Int32) ≤ v2 then some h else (gR h 12 v0 29).bind fun x3 => (Ref_cardOf v0 v1 v2 h).bind fun x5 => (sI h x3 v2 x5).bind fun h7 => Ref_takes_31 v0 v1 (v2 + (1 : Int32)) h7) := (fx_eq Ref_takes_31_M (31, v1, v2, v0, h)).trans (if_pos rfl)
theorem Ref_takes_31_q {v0 : Nat} {v1 : Int32} {v2 : Int32} {h : am_H} {r : am_H} (hb : Ref_takes_31 v0 v1 v2 h = some r) : Eqs h r := Ref_takes_31_Q _ _ hb
theorem Ref_takes_31_s {v0 : Nat} {v1 : Int32} {v2 : Int32} {h : am_H} {r : am_H} (hb : Ref_takes_31 v0 v1 v2 h = some r) : Sx 2 mX12_takes 31 [.ref v0, .int v1, .int v2] [] h none r := (Ref_takes_31_T _ _ hb).1 rfl
set_option maxHeartbeats 1000000 in
set_option maxRecDepth 100000 in
noncomputable def Ref_takes (v0 : Nat) (v1 : Int32) (h : am_H) : Option am_H := if isO h 12 v0 = true then (Ref_manyIn v0 v1 h).bind fun x10 => (pV h 12 v0 31 (.int x10)).bind fun h12 => (gR h12 12 v0 2).bind fun x15 => (Ref_placeOf v1 h12).bind fun x17 => (aI h12 0 x15 (x17 + (2 : Int32))).bind fun x19 => (pV h12 12 v0 32 (.int x19)).bind fun h21 => (pV h21 12 v0 33 (.int v1)).bind fun h24 => Ref_takes_31 v0 v1 (0 : Int32) h24 else none
set_option maxHeartbeats 1000000 in
set_option maxRecDepth 100000 in
theorem Ref_takes_s {v0 : Nat} {v1 : Int32} {h : am_H} {r : am_H} (hb : Ref_takes v0 v1 h = some r) : Sx 2 mX12_takes 0 (am_en [.ref v0, .int v1] 3) [] h none r := by
  unfold Ref_takes at hb
  have hb := (iz hb).2
  show Sx 2 mX12_takes 0 [.ref v0, .int v1, .retAddr 0] [] h none r
  refine Sx.o (fun _ _ _ k => ex_aload_n dX12_takes_0 rfl rfl k) ?_
  refine Sx.o (fun _ _ _ k => ex_aload_n dX12_takes_1 rfl rfl k) ?_
  refine Sx.o (fun _ _ _ k => ex_iload_n dX12_takes_2 rfl k) ?_
  obtain ⟨x10, e_x10, hb11⟩ := ob2 hb
  refine sx_callV (dc := 1) (as := [.int v1]) (stq := [.int x10, .ref v0]) (by omega) dX12_takes_3 MX12_manyIn kX12_316 iX12_manyIn sX12_manyIn rfl rfl (Ref_manyIn_o e_x10) rfl rfl (Nat.le_of_ble_eq_true rfl) (Nat.le_of_ble_eq_true rfl) (Ref_manyIn_s e_x10) rfl ?_
  obtain ⟨h12, e_h12, hb13⟩ := ob2 hb11
  refine Sx.p (pV_q e_h12) (fun _ _ _ k => op_put pX12_130 dX12_takes_6 e_h12 (fun _ => rfl) (fun _ => rfl) k) ?_
  refine Sx.o (fun _ _ _ k => ex_aload_n dX12_takes_9 rfl rfl k) ?_
  refine Sx.o (fun _ _ _ k => ex_aload_n dX12_takes_10 rfl rfl k) ?_
  obtain ⟨x15, e_x15, hb16⟩ := ob2 hb13
  refine Sx.o (fun _ _ _ k => op_getR fX12_24 dX12_takes_11 e_x15 k) ?_
  refine Sx.o (fun _ _ _ k => ex_iload_n dX12_takes_14 rfl k) ?_
  obtain ⟨x17, e_x17, hb18⟩ := ob2 hb16
  refine sx_callS (dc := 0) (as := [.int v1]) (stq := [.int x17, .ref x15, .ref v0]) (by omega) dX12_takes_15 MX12_placeOf kX12_112 tX12_placeOf rfl rfl (Nat.le_of_ble_eq_true rfl) (Nat.le_of_ble_eq_true rfl) (Ref_placeOf_s e_x17) rfl ?_
  refine Sx.o (fun _ _ _ k => op_iconst (2 : Int32) dX12_takes_18 (by decide) k) ?_
  refine Sx.o (fun _ _ _ k => ex_iadd dX12_takes_19 k) ?_
  obtain ⟨x19, e_x19, hb20⟩ := ob2 hb18
  refine Sx.o (fun _ _ _ k => op_iald dX12_takes_20 e_x19 k) ?_
  obtain ⟨h21, e_h21, hb22⟩ := ob2 hb20
  refine Sx.p (pV_q e_h21) (fun _ _ _ k => op_put pX12_133 dX12_takes_21 e_h21 (fun _ => rfl) (fun _ => rfl) k) ?_
  refine Sx.o (fun _ _ _ k => ex_aload_n dX12_takes_24 rfl rfl k) ?_
  refine Sx.o (fun _ _ _ k => ex_iload_n dX12_takes_25 rfl k) ?_
  obtain ⟨h24, e_h24, hb25⟩ := ob2 hb22
  refine Sx.p (pV_q e_h24) (fun _ _ _ k => op_put pX12_313 dX12_takes_26 e_h24 (fun _ => rfl) (fun _ => rfl) k) ?_
  refine Sx.o (fun _ _ _ k => op_iconst (0 : Int32) dX12_takes_29 (by decide) k) ?_
  refine Sx.o (L' := [.ref v0, .int v1, .int (0 : Int32)]) (fun _ _ _ k => ex_istore_n dX12_takes_30 (by decide) k) ?_
  exact Ref_takes_31_s hb25
set_option maxHeartbeats 1000000 in
set_option maxRecDepth 100000 in
theorem Ref_takes_q {v0 : Nat} {v1 : Int32} {h : am_H} {r : am_H} (hb : Ref_takes v0 v1 h = some r) : Eqs h r := by
  unfold Ref_takes at hb
  have hb := (iz hb).2
  have w0 := Eqs.rf h
  obtain ⟨x10, e_x10, hb11⟩ := ob2 hb
  obtain ⟨h12, e_h12, hb13⟩ := ob2 hb11
  have w14 := w0.tr (pV_q e_h12)
  obtain ⟨x15, e_x15, hb16⟩ := ob2 hb13
  obtain ⟨x17, e_x17, hb18⟩ := ob2 hb16
  obtain ⟨x19, e_x19, hb20⟩ := ob2 hb18
  obtain ⟨h21, e_h21, hb22⟩ := ob2 hb20
  have w23 := w14.tr (pV_q e_h21)
  obtain ⟨h24, e_h24, hb25⟩ := ob2 hb22
  have w26 := w23.tr (pV_q e_h24)
  exact w26.tr (Ref_takes_31_q hb25)
theorem Ref_takes_o {v0 : Nat} {v1 : Int32} {h : am_H} {r : am_H} (hb : Ref_takes v0 v1 h = some r) : isO h 12 v0 = true := by
  unfold Ref_takes at hb
  exact (iz hb).1
set_option maxHeartbeats 1000000 in
set_option maxRecDepth 100000 in
noncomputable def Ref_after_44_b (g : (Nat × Int32 × Int32 × Int32 × Nat × am_H) → Option (Int32 × am_H)) (v0 : Nat) (v2 : Int32) (v3 : Int32) (v4 : Int32) (h : am_H) : Option (Int32 × am_H) := if v2 ≤ v4 then (gR h 12 v0 29).bind fun x3 => (aI h 0 x3 v3).bind fun x5 => some (x5, h) else (Ref_canStep v0 h).bind fun r7 => if r7.1 = (0 : Int32) then (gR r7.2 12 v0 29).bind fun x12 => (aI r7.2 0 x12 v3).bind fun x14 => some (x14, r7.2) else (Ref_steps v0 r7.2).bind fun h16 => g (44, v2, v3, (v4 + (1 : Int32)), v0, h16)
set_option maxHeartbeats 1000000 in
set_option maxRecDepth 100000 in
theorem Ref_after_44_m {g g2 : (Nat × Int32 × Int32 × Int32 × Nat × am_H) → Option (Int32 × am_H)} (hg : ∀ s, Le (g s) (g2 s)) (v0 : Nat) (v2 : Int32) (v3 : Int32) (v4 : Int32) (h : am_H) : Le (Ref_after_44_b g v0 v2 v3 v4 h) (Ref_after_44_b g2 v0 v2 v3 v4 h) := by unfold Ref_after_44_b; exact le_i (le_r _) (le_b (le_r _) fun r7 => le_i (le_r _) (le_b (le_r _) fun h16 => hg _))
noncomputable def Ref_after_44_F (g : (Nat × Int32 × Int32 × Int32 × Nat × am_H) → Option (Int32 × am_H)) (s : (Nat × Int32 × Int32 × Int32 × Nat × am_H)) : Option (Int32 × am_H) := if s.1 = 44 then Ref_after_44_b g s.2.2.2.2.1 s.2.1 s.2.2.1 s.2.2.2.1 s.2.2.2.2.2 else none
theorem Ref_after_44_M : Mn Ref_after_44_F := fun g g2 hg s => by unfold Ref_after_44_F; exact le_i (Ref_after_44_m hg s.2.2.2.2.1 s.2.1 s.2.2.1 s.2.2.2.1 s.2.2.2.2.2) (le_r _)
def Ref_after_44_P (s : (Nat × Int32 × Int32 × Int32 × Nat × am_H)) (r : (Int32 × am_H)) : Prop := (s.1 = 44 → Sx 89 mX12_after 44 [.ref s.2.2.2.2.1, .retAddr 0, .int s.2.1, .int s.2.2.1, .int s.2.2.2.1] [] s.2.2.2.2.2 (some (.int r.1)) r.2) ∧ True
set_option maxHeartbeats 1000000 in
set_option maxRecDepth 100000 in
theorem Ref_after_44_t {g : (Nat × Int32 × Int32 × Int32 × Nat × am_H) → Option (Int32 × am_H)} (hg : ∀ s r, g s = some r → Ref_after_44_P s r) {v0 : Nat} {v2 : Int32} {v3 : Int32} {v4 : Int32} {h : am_H} {r : (Int32 × am_H)} (hb : Ref_after_44_b g v0 v2 v3 v4 h = some r) : Sx 89 mX12_after 44 [.ref v0, .retAddr 0, .int v2, .int v3, .int v4] [] h (some (.int r.1)) r.2 := by
  unfold Ref_after_44_b at hb
  refine Sx.o (fun _ _ _ k => ex_iload dX12_after_44 rfl k) ?_
  refine Sx.o (fun _ _ _ k => ex_iload_n dX12_after_46 rfl k) ?_
  refine Sx.b (fun _ _ _ k1 k2 => ex_icmp_ge 67 dX12_after_47 (by decide) k1 k2) (fun q => ?_) (fun q => ?_)
  · have hb1 := ip q hb
    refine Sx.o (fun _ _ _ k => ex_aload_n dX12_after_67 rfl rfl k) ?_
    obtain ⟨x3, e_x3, hb4⟩ := ob2 hb1
    refine Sx.o (fun _ _ _ k => op_getR fX12_65 dX12_after_68 e_x3 k) ?_
    refine Sx.o (fun _ _ _ k => ex_iload_n dX12_after_71 rfl k) ?_
    obtain ⟨x5, e_x5, hb6⟩ := ob2 hb4
    refine Sx.o (fun _ _ _ k => op_iald dX12_after_72 e_x5 k) ?_
    obtain rfl := Option.some.inj hb6
    exact Sx.r (fun _ _ _ k => ex_iret rfl dX12_after_73 k)
  · have hb2 := iq q hb
    refine Sx.o (fun _ _ _ k => ex_aload_n dX12_after_50 rfl rfl k) ?_
    obtain ⟨r7, e_r7, hb8⟩ := ob2 hb2
    refine sx_callV (dc := 88) (as := []) (stq := [.int r7.1]) (by omega) dX12_after_51 MX12_canStep kX12_350 iX12_canStep sX12_canStep rfl rfl (Ref_canStep_o e_r7) rfl rfl (Nat.le_of_ble_eq_true rfl) (Nat.le_of_ble_eq_true rfl) (Ref_canStep_s e_r7) rfl ?_
    refine Sx.b (fun _ _ _ k1 k2 => ex_if_eq 67 dX12_after_54 (by decide) k1 k2) (fun q => ?_) (fun q => ?_)
    · have hb10 := ip q hb8
      refine Sx.o (fun _ _ _ k => ex_aload_n dX12_after_67 rfl rfl k) ?_
      obtain ⟨x12, e_x12, hb13⟩ := ob2 hb10
      refine Sx.o (fun _ _ _ k => op_getR fX12_65 dX12_after_68 e_x12 k) ?_
      refine Sx.o (fun _ _ _ k => ex_iload_n dX12_after_71 rfl k) ?_
      obtain ⟨x14, e_x14, hb15⟩ := ob2 hb13
      refine Sx.o (fun _ _ _ k => op_iald dX12_after_72 e_x14 k) ?_
      obtain rfl := Option.some.inj hb15
      exact Sx.r (fun _ _ _ k => ex_iret rfl dX12_after_73 k)
    · have hb11 := iq q hb8
      refine Sx.o (fun _ _ _ k => ex_aload_n dX12_after_57 rfl rfl k) ?_
      obtain ⟨h16, e_h16, hb17⟩ := ob2 hb11
      refine sx_callV (dc := 87) (as := []) (stq := []) (by omega) dX12_after_58 MX12_steps kX12_343 iX12_steps sX12_steps rfl rfl (Ref_steps_o e_h16) rfl rfl (Nat.le_of_ble_eq_true rfl) (Nat.le_of_ble_eq_true rfl) (Ref_steps_s e_h16) rfl ?_
      refine Sx.o (L' := [.ref v0, .retAddr 0, .int v2, .int v3, .int (v4 + (1 : Int32))]) (fun _ _ _ k => op_iinc (1 : Int32) dX12_after_61 (by decide) rfl (by decide) k) ?_
      refine Sx.o (fun _ _ _ k => ex_goto 44 dX12_after_64 (by decide) k) ?_
      exact (hg _ _ hb17).1 rfl
theorem Ref_after_44_T : ∀ s r, fx Ref_after_44_F Ref_after_44_M s = some r → Ref_after_44_P s r := fx_ind Ref_after_44_M Ref_after_44_P (fun g hg s r hb => by
  unfold Ref_after_44_F at hb
  exact ⟨fun q => Ref_after_44_t hg (ip q hb), trivial⟩)
set_option maxHeartbeats 1000000 in
set_option maxRecDepth 100000 in
theorem Ref_after_44_r {g : (Nat × Int32 × Int32 × Int32 × Nat × am_H) → Option (Int32 × am_H)} (hg : ∀ s r, g s = some r → Eqs s.2.2.2.2.2 r.2) {v0 : Nat} {v2 : Int32} {v3 : Int32} {v4 : Int32} {h : am_H} {r : (Int32 × am_H)} (hb : Ref_after_44_b g v0 v2 v3 v4 h = some r) : Eqs h r.2 := by
  unfold Ref_after_44_b at hb
  have w0 := Eqs.rf h
  by_cases q : v2 ≤ v4
  · have hb1 := ip q hb
    obtain ⟨x3, e_x3, hb4⟩ := ob2 hb1
    obtain ⟨x5, e_x5, hb6⟩ := ob2 hb4
    obtain rfl := Option.some.inj hb6
    exact w0
  · have hb2 := iq q hb
    obtain ⟨r7, e_r7, hb8⟩ := ob2 hb2
    have w9 := w0.tr (Ref_canStep_q e_r7)
    by_cases q : r7.1 = (0 : Int32)
    · have hb10 := ip q hb8
      obtain ⟨x12, e_x12, hb13⟩ := ob2 hb10
      obtain ⟨x14, e_x14, hb15⟩ := ob2 hb13
      obtain rfl := Option.some.inj hb15
      exact w9
    · have hb11 := iq q hb8
      obtain ⟨h16, e_h16, hb17⟩ := ob2 hb11
      have w18 := w9.tr (Ref_steps_q e_h16)
      exact w18.tr (hg _ _ hb17)
theorem Ref_after_44_Q : ∀ s r, fx Ref_after_44_F Ref_after_44_M s = some r → Eqs s.2.2.2.2.2 r.2 := fx_ind Ref_after_44_M (fun s r => Eqs s.2.2.2.2.2 r.2) (fun g hg s r hb => by
  unfold Ref_after_44_F at hb
  by_cases q0 : s.1 = 44
  · exact Ref_after_44_r hg (ip q0 hb)
  · have hb0 := iq q0 hb
    exact nomatch hb0)
noncomputable def Ref_after_44 (v0 : Nat) (v2 : Int32) (v3 : Int32) (v4 : Int32) (h : am_H) : Option (Int32 × am_H) := fx Ref_after_44_F Ref_after_44_M (44, v2, v3, v4, v0, h)
set_option maxHeartbeats 1000000 in
set_option maxRecDepth 100000 in
theorem Ref_after_44_e (v0 : Nat) (v2 : Int32) (v3 : Int32) (v4 : Int32) (h : am_H) : Ref_after_44 v0 v2 v3 v4 h = (if v2 ≤ v4 then (gR h 12 v0 29).bind fun x3 => (aI h 0 x3 v3).bind fun x5 => some (x5, h) else (Ref_canStep v0 h).bind fun r7 => if r7.1 = (0 : Int32) then (gR r7.2 12 v0 29).bind fun x12 => (aI r7.2 0 x12 v3).bind fun x14 => some (x14, r7.2) else (Ref_steps v0 r7.2).bind fun h16 => Ref_after_44 v0 v2 v3 (v4 + (1 : Int32)) h16) := (fx_eq Ref_after_44_M (44, v2, v3, v4, v0, h)).trans (if_pos rfl)
theorem Ref_after_44_q {v0 : Nat} {v2 : Int32} {v3 : Int32} {v4 : Int32} {h : am_H} {r : (Int32 × am_H)} (hb : Ref_after_44 v0 v2 v3 v4 h = some r) : Eqs h r.2 := Ref_after_44_Q _ _ hb
theorem Ref_after_44_s {v0 : Nat} {v2 : Int32} {v3 : Int32} {v4 : Int32} {h : am_H} {r : (Int32 × am_H)} (hb : Ref_after_44 v0 v2 v3 v4 h = some r) : Sx 89 mX12_after 44 [.ref v0, .retAddr 0, .int v2, .int v3, .int v4] [] h (some (.int r.1)) r.2 := (Ref_after_44_T _ _ hb).1 rfl
set_option maxHeartbeats 1000000 in
set_option maxRecDepth 100000 in
noncomputable def Ref_after (v0 : Nat) (v1 : Int32) (v2 : Int32) (v3 : Int32) (h : am_H) : Option (Int32 × am_H) := if isO h 12 v0 = true then (Ref_isHeap v0 v1 h).bind fun x19 => if x19 = (0 : Int32) then some ((-1 : Int32), h) else (Ref_lies v2 (0 : Int32) (300 : Int32) h).bind fun x23 => if x23 = (0 : Int32) then some ((-1 : Int32), h) else (Ref_manyIn v0 v1 h).bind fun x27 => (Ref_lies v3 (0 : Int32) (x27 - (1 : Int32)) h).bind fun x29 => if x29 = (0 : Int32) then some ((-1 : Int32), h) else (Ref_takes v0 v1 h).bind fun h33 => Ref_after_44 v0 v2 v3 (0 : Int32) h33 else none
set_option maxHeartbeats 1000000 in
set_option maxRecDepth 100000 in
theorem Ref_after_s {v0 : Nat} {v1 : Int32} {v2 : Int32} {v3 : Int32} {h : am_H} {r : (Int32 × am_H)} (hb : Ref_after v0 v1 v2 v3 h = some r) : Sx 89 mX12_after 0 (am_en [.ref v0, .int v1, .int v2, .int v3] 5) [] h (some (.int r.1)) r.2 := by
  unfold Ref_after at hb
  have hb := (iz hb).2
  show Sx 89 mX12_after 0 [.ref v0, .int v1, .int v2, .int v3, .retAddr 0] [] h (some (.int r.1)) r.2
  refine Sx.o (fun _ _ _ k => ex_aload_n dX12_after_0 rfl rfl k) ?_
  refine Sx.o (fun _ _ _ k => ex_iload_n dX12_after_1 rfl k) ?_
  obtain ⟨x19, e_x19, hb20⟩ := ob2 hb
  refine sx_callV (dc := 1) (as := [.int v1]) (stq := [.int x19]) (by omega) dX12_after_2 MX12_isHeap kX12_122 iX12_isHeap sX12_isHeap rfl rfl (Ref_isHeap_o e_x19) rfl rfl (Nat.le_of_ble_eq_true rfl) (Nat.le_of_ble_eq_true rfl) (Ref_isHeap_s e_x19) rfl ?_
  refine Sx.b (fun _ _ _ k1 k2 => ex_if_eq 34 dX12_after_5 (by decide) k1 k2) (fun q => ?_) (fun q => ?_)
  · have hb21 := ip q hb20
    refine Sx.o (fun _ _ _ k => op_iconst (-1 : Int32) dX12_after_34 (by decide) k) ?_
    obtain rfl := Option.some.inj hb21
    exact Sx.r (fun _ _ _ k => ex_iret rfl dX12_after_35 k)
  · have hb22 := iq q hb20
    refine Sx.o (fun _ _ _ k => ex_iload_n dX12_after_8 rfl k) ?_
    refine Sx.o (fun _ _ _ k => op_iconst (0 : Int32) dX12_after_9 (by decide) k) ?_
    refine Sx.o (fun _ _ _ k => op_sipush (300 : Int32) dX12_after_10 (by decide) k) ?_
    obtain ⟨x23, e_x23, hb24⟩ := ob2 hb22
    refine sx_callS (dc := 0) (as := [.int v2, .int (0 : Int32), .int (300 : Int32)]) (stq := [.int x23]) (by omega) dX12_after_13 MX12_lies kX12_102 tX12_lies rfl rfl (Nat.le_of_ble_eq_true rfl) (Nat.le_of_ble_eq_true rfl) (Ref_lies_s e_x23) rfl ?_
    refine Sx.b (fun _ _ _ k1 k2 => ex_if_eq 34 dX12_after_16 (by decide) k1 k2) (fun q => ?_) (fun q => ?_)
    · have hb25 := ip q hb24
      refine Sx.o (fun _ _ _ k => op_iconst (-1 : Int32) dX12_after_34 (by decide) k) ?_
      obtain rfl := Option.some.inj hb25
      exact Sx.r (fun _ _ _ k => ex_iret rfl dX12_after_35 k)
    · have hb26 := iq q hb24
      refine Sx.o (fun _ _ _ k => ex_iload_n dX12_after_19 rfl k) ?_
      refine Sx.o (fun _ _ _ k => op_iconst (0 : Int32) dX12_after_20 (by decide) k) ?_
      refine Sx.o (fun _ _ _ k => ex_aload_n dX12_after_21 rfl rfl k) ?_
      refine Sx.o (fun _ _ _ k => ex_iload_n dX12_after_22 rfl k) ?_
      obtain ⟨x27, e_x27, hb28⟩ := ob2 hb26
      refine sx_callV (dc := 1) (as := [.int v1]) (stq := [.int x27, .int (0 : Int32), .int v3]) (by omega) dX12_after_23 MX12_manyIn kX12_316 iX12_manyIn sX12_manyIn rfl rfl (Ref_manyIn_o e_x27) rfl rfl (Nat.le_of_ble_eq_true rfl) (Nat.le_of_ble_eq_true rfl) (Ref_manyIn_s e_x27) rfl ?_
      refine Sx.o (fun _ _ _ k => op_iconst (1 : Int32) dX12_after_26 (by decide) k) ?_
      refine Sx.o (fun _ _ _ k => ex_isub dX12_after_27 k) ?_
      obtain ⟨x29, e_x29, hb30⟩ := ob2 hb28
      refine sx_callS (dc := 0) (as := [.int v3, .int (0 : Int32), .int (x27 - (1 : Int32))]) (stq := [.int x29]) (by omega) dX12_after_28 MX12_lies kX12_102 tX12_lies rfl rfl (Nat.le_of_ble_eq_true rfl) (Nat.le_of_ble_eq_true rfl) (Ref_lies_s e_x29) rfl ?_
      refine Sx.bn (fun _ _ _ k1 k2 => ex_if_ne 36 dX12_after_31 (by decide) k1 k2) (fun q => ?_) (fun q => ?_)
      · have hb31 := iq q hb30
        refine Sx.o (fun _ _ _ k => ex_aload_n dX12_after_36 rfl rfl k) ?_
        refine Sx.o (fun _ _ _ k => ex_iload_n dX12_after_37 rfl k) ?_
        obtain ⟨h33, e_h33, hb34⟩ := ob2 hb31
        refine sx_callV (dc := 2) (as := [.int v1]) (stq := []) (by omega) dX12_after_38 MX12_takes kX12_126 iX12_takes sX12_takes rfl rfl (Ref_takes_o e_h33) rfl rfl (Nat.le_of_ble_eq_true rfl) (Nat.le_of_ble_eq_true rfl) (Ref_takes_s e_h33) rfl ?_
        refine Sx.o (fun _ _ _ k => op_iconst (0 : Int32) dX12_after_41 (by decide) k) ?_
        refine Sx.o (L' := [.ref v0, .int v1, .int v2, .int v3, .int (0 : Int32)]) (fun _ _ _ k => ex_istore dX12_after_42 (by decide) k) ?_
        refine Sx.fg [true, false, true, true, true] ?_
        exact Ref_after_44_s hb34
      · have hb32 := ip q hb30
        refine Sx.o (fun _ _ _ k => op_iconst (-1 : Int32) dX12_after_34 (by decide) k) ?_
        obtain rfl := Option.some.inj hb32
        exact Sx.r (fun _ _ _ k => ex_iret rfl dX12_after_35 k)
set_option maxHeartbeats 1000000 in
set_option maxRecDepth 100000 in
theorem Ref_after_q {v0 : Nat} {v1 : Int32} {v2 : Int32} {v3 : Int32} {h : am_H} {r : (Int32 × am_H)} (hb : Ref_after v0 v1 v2 v3 h = some r) : Eqs h r.2 := by
  unfold Ref_after at hb
  have hb := (iz hb).2
  have w0 := Eqs.rf h
  obtain ⟨x19, e_x19, hb20⟩ := ob2 hb
  by_cases q : x19 = (0 : Int32)
  · have hb21 := ip q hb20
    obtain rfl := Option.some.inj hb21
    exact w0
  · have hb22 := iq q hb20
    obtain ⟨x23, e_x23, hb24⟩ := ob2 hb22
    by_cases q : x23 = (0 : Int32)
    · have hb25 := ip q hb24
      obtain rfl := Option.some.inj hb25
      exact w0
    · have hb26 := iq q hb24
      obtain ⟨x27, e_x27, hb28⟩ := ob2 hb26
      obtain ⟨x29, e_x29, hb30⟩ := ob2 hb28
      by_cases q : x29 = (0 : Int32)
      · have hb32 := ip q hb30
        obtain rfl := Option.some.inj hb32
        exact w0
      · have hb31 := iq q hb30
        obtain ⟨h33, e_h33, hb34⟩ := ob2 hb31
        have w35 := w0.tr (Ref_takes_q e_h33)
        exact w35.tr (Ref_after_44_q hb34)
theorem Ref_after_o {v0 : Nat} {v1 : Int32} {v2 : Int32} {v3 : Int32} {h : am_H} {r : (Int32 × am_H)} (hb : Ref_after v0 v1 v2 v3 h = some r) : isO h 12 v0 = true := by
  unfold Ref_after at hb
  exact (iz hb).1
set_option maxHeartbeats 1000000 in
set_option maxRecDepth 100000 in
noncomputable def Ref_refuses (v0 : Nat) (v1 : Int32) (h : am_H) : Option (Int32 × am_H) := if isO h 12 v0 = true then (pV h 12 v0 0 (.int v1)).bind fun h1 => (gR h1 12 v0 1).bind fun x4 => (aI h1 0 x4 (-v1)).bind fun x6 => (sI h1 x4 (-v1) (x6 + (1 : Int32))).bind fun h8 => some (v1, h8) else none
set_option maxHeartbeats 1000000 in
set_option maxRecDepth 100000 in
theorem Ref_refuses_s {v0 : Nat} {v1 : Int32} {h : am_H} {r : (Int32 × am_H)} (hb : Ref_refuses v0 v1 h = some r) : Sx 0 mX12_refuses 0 (am_en [.ref v0, .int v1] 2) [] h (some (.int r.1)) r.2 := by
  unfold Ref_refuses at hb
  have hb := (iz hb).2
  show Sx 0 mX12_refuses 0 [.ref v0, .int v1] [] h (some (.int r.1)) r.2
  refine Sx.o (fun _ _ _ k => ex_aload_n dX12_refuses_0 rfl rfl k) ?_
  refine Sx.o (fun _ _ _ k => ex_iload_n dX12_refuses_1 rfl k) ?_
  obtain ⟨h1, e_h1, hb2⟩ := ob2 hb
  refine Sx.p (pV_q e_h1) (fun _ _ _ k => op_put pX12_3 dX12_refuses_2 e_h1 (fun _ => rfl) (fun _ => rfl) k) ?_
  refine Sx.o (fun _ _ _ k => ex_aload_n dX12_refuses_5 rfl rfl k) ?_
  obtain ⟨x4, e_x4, hb5⟩ := ob2 hb2
  refine Sx.o (fun _ _ _ k => op_getR fX12_7 dX12_refuses_6 e_x4 k) ?_
  refine Sx.o (fun _ _ _ k => ex_iload_n dX12_refuses_9 rfl k) ?_
  refine Sx.o (fun _ _ _ k => ex_ineg dX12_refuses_10 k) ?_
  refine Sx.o (fun _ _ _ k => ex_dup2 dX12_refuses_11 rfl rfl k) ?_
  obtain ⟨x6, e_x6, hb7⟩ := ob2 hb5
  refine Sx.o (fun _ _ _ k => op_iald dX12_refuses_12 e_x6 k) ?_
  refine Sx.o (fun _ _ _ k => op_iconst (1 : Int32) dX12_refuses_13 (by decide) k) ?_
  refine Sx.o (fun _ _ _ k => ex_iadd dX12_refuses_14 k) ?_
  obtain ⟨h8, e_h8, hb9⟩ := ob2 hb7
  refine Sx.p (sI_q e_h8) (fun _ _ _ k => op_iast dX12_refuses_15 e_h8 k) ?_
  refine Sx.o (fun _ _ _ k => ex_iload_n dX12_refuses_16 rfl k) ?_
  obtain rfl := Option.some.inj hb9
  exact Sx.r (fun _ _ _ k => ex_iret rfl dX12_refuses_17 k)
set_option maxHeartbeats 1000000 in
set_option maxRecDepth 100000 in
theorem Ref_refuses_q {v0 : Nat} {v1 : Int32} {h : am_H} {r : (Int32 × am_H)} (hb : Ref_refuses v0 v1 h = some r) : Eqs h r.2 := by
  unfold Ref_refuses at hb
  have hb := (iz hb).2
  have w0 := Eqs.rf h
  obtain ⟨h1, e_h1, hb2⟩ := ob2 hb
  have w3 := w0.tr (pV_q e_h1)
  obtain ⟨x4, e_x4, hb5⟩ := ob2 hb2
  obtain ⟨x6, e_x6, hb7⟩ := ob2 hb5
  obtain ⟨h8, e_h8, hb9⟩ := ob2 hb7
  have w10 := w3.tr (sI_q e_h8)
  obtain rfl := Option.some.inj hb9
  exact w10
theorem Ref_refuses_o {v0 : Nat} {v1 : Int32} {h : am_H} {r : (Int32 × am_H)} (hb : Ref_refuses v0 v1 h = some r) : isO h 12 v0 = true := by
  unfold Ref_refuses at hb
  exact (iz hb).1
set_option maxHeartbeats 1000000 in
set_option maxRecDepth 100000 in
noncomputable def Ref_good (v0 : Nat) (v1 : Int32) (h : am_H) : Option (Int32 × am_H) := if isO h 12 v0 = true then (pV h 12 v0 0 (.int (0 : Int32))).bind fun h1 => some (v1, h1) else none
set_option maxHeartbeats 1000000 in
set_option maxRecDepth 100000 in
theorem Ref_good_s {v0 : Nat} {v1 : Int32} {h : am_H} {r : (Int32 × am_H)} (hb : Ref_good v0 v1 h = some r) : Sx 0 mX12_good 0 (am_en [.ref v0, .int v1] 2) [] h (some (.int r.1)) r.2 := by
  unfold Ref_good at hb
  have hb := (iz hb).2
  show Sx 0 mX12_good 0 [.ref v0, .int v1] [] h (some (.int r.1)) r.2
  refine Sx.o (fun _ _ _ k => ex_aload_n dX12_good_0 rfl rfl k) ?_
  refine Sx.o (fun _ _ _ k => op_iconst (0 : Int32) dX12_good_1 (by decide) k) ?_
  obtain ⟨h1, e_h1, hb2⟩ := ob2 hb
  refine Sx.p (pV_q e_h1) (fun _ _ _ k => op_put pX12_3 dX12_good_2 e_h1 (fun _ => rfl) (fun _ => rfl) k) ?_
  refine Sx.o (fun _ _ _ k => ex_iload_n dX12_good_5 rfl k) ?_
  obtain rfl := Option.some.inj hb2
  exact Sx.r (fun _ _ _ k => ex_iret rfl dX12_good_6 k)
set_option maxHeartbeats 1000000 in
set_option maxRecDepth 100000 in
theorem Ref_good_q {v0 : Nat} {v1 : Int32} {h : am_H} {r : (Int32 × am_H)} (hb : Ref_good v0 v1 h = some r) : Eqs h r.2 := by
  unfold Ref_good at hb
  have hb := (iz hb).2
  have w0 := Eqs.rf h
  obtain ⟨h1, e_h1, hb2⟩ := ob2 hb
  have w3 := w0.tr (pV_q e_h1)
  obtain rfl := Option.some.inj hb2
  exact w3
theorem Ref_good_o {v0 : Nat} {v1 : Int32} {h : am_H} {r : (Int32 × am_H)} (hb : Ref_good v0 v1 h = some r) : isO h 12 v0 = true := by
  unfold Ref_good at hb
  exact (iz hb).1
set_option maxHeartbeats 1000000 in
set_option maxRecDepth 100000 in
noncomputable def Ref_settled (v0 : Nat) (v1 : Int32) (h : am_H) : Option (Int32 × am_H) := if isO h 12 v0 = true then (pV h 12 v0 39 (.int (0 : Int32))).bind fun h1 => (Ref_good v0 v1 h1).bind fun r4 => some (r4.1, r4.2) else none
set_option maxHeartbeats 1000000 in
set_option maxRecDepth 100000 in
theorem Ref_settled_s {v0 : Nat} {v1 : Int32} {h : am_H} {r : (Int32 × am_H)} (hb : Ref_settled v0 v1 h = some r) : Sx 1 mX12_settled 0 (am_en [.ref v0, .int v1] 2) [] h (some (.int r.1)) r.2 := by
  unfold Ref_settled at hb
  have hb := (iz hb).2
  show Sx 1 mX12_settled 0 [.ref v0, .int v1] [] h (some (.int r.1)) r.2
  refine Sx.o (fun _ _ _ k => ex_aload_n dX12_settled_0 rfl rfl k) ?_
  refine Sx.o (fun _ _ _ k => op_iconst (0 : Int32) dX12_settled_1 (by decide) k) ?_
  obtain ⟨h1, e_h1, hb2⟩ := ob2 hb
  refine Sx.p (pV_q e_h1) (fun _ _ _ k => op_put pX12_11 dX12_settled_2 e_h1 (fun _ => rfl) (fun _ => rfl) k) ?_
  refine Sx.o (fun _ _ _ k => ex_aload_n dX12_settled_5 rfl rfl k) ?_
  refine Sx.o (fun _ _ _ k => ex_iload_n dX12_settled_6 rfl k) ?_
  obtain ⟨r4, e_r4, hb5⟩ := ob2 hb2
  refine sx_callV (dc := 0) (as := [.int v1]) (stq := [.int r4.1]) (by omega) dX12_settled_7 MX12_good kX12_14 iX12_good sX12_good rfl rfl (Ref_good_o e_r4) rfl rfl (Nat.le_of_ble_eq_true rfl) (Nat.le_of_ble_eq_true rfl) (Ref_good_s e_r4) rfl ?_
  obtain rfl := Option.some.inj hb5
  exact Sx.r (fun _ _ _ k => ex_iret rfl dX12_settled_10 k)
set_option maxHeartbeats 1000000 in
set_option maxRecDepth 100000 in
theorem Ref_settled_q {v0 : Nat} {v1 : Int32} {h : am_H} {r : (Int32 × am_H)} (hb : Ref_settled v0 v1 h = some r) : Eqs h r.2 := by
  unfold Ref_settled at hb
  have hb := (iz hb).2
  have w0 := Eqs.rf h
  obtain ⟨h1, e_h1, hb2⟩ := ob2 hb
  have w3 := w0.tr (pV_q e_h1)
  obtain ⟨r4, e_r4, hb5⟩ := ob2 hb2
  have w6 := w3.tr (Ref_good_q e_r4)
  obtain rfl := Option.some.inj hb5
  exact w6
theorem Ref_settled_o {v0 : Nat} {v1 : Int32} {h : am_H} {r : (Int32 × am_H)} (hb : Ref_settled v0 v1 h = some r) : isO h 12 v0 = true := by
  unfold Ref_settled at hb
  exact (iz hb).1
set_option maxHeartbeats 1000000 in
set_option maxRecDepth 100000 in
noncomputable def Ref_back_33_b (g : (Nat × Int32 × Int32 × Nat × am_H) → Option (Int32 × am_H)) (v0 : Nat) (v1 : Int32) (v2 : Int32) (h : am_H) : Option (Int32 × am_H) := if (5725 : Int32) ≤ v2 then (Ref_settled v0 (0 : Int32) h).bind fun r3 => some (r3.1, r3.2) else (gR h 12 v0 2).bind fun x6 => (gR h 12 v0 3).bind fun x8 => (aI h 0 x8 (((5725 : Int32) * v1) + v2)).bind fun x10 => (sI h x6 v2 x10).bind fun h12 => g (33, v1, (v2 + (1 : Int32)), v0, h12)
set_option maxHeartbeats 1000000 in
set_option maxRecDepth 100000 in
theorem Ref_back_33_m {g g2 : (Nat × Int32 × Int32 × Nat × am_H) → Option (Int32 × am_H)} (hg : ∀ s, Le (g s) (g2 s)) (v0 : Nat) (v1 : Int32) (v2 : Int32) (h : am_H) : Le (Ref_back_33_b g v0 v1 v2 h) (Ref_back_33_b g2 v0 v1 v2 h) := by unfold Ref_back_33_b; exact le_i (le_r _) (le_b (le_r _) fun x6 => le_b (le_r _) fun x8 => le_b (le_r _) fun x10 => le_b (le_r _) fun h12 => hg _)
noncomputable def Ref_back_33_F (g : (Nat × Int32 × Int32 × Nat × am_H) → Option (Int32 × am_H)) (s : (Nat × Int32 × Int32 × Nat × am_H)) : Option (Int32 × am_H) := if s.1 = 33 then Ref_back_33_b g s.2.2.2.1 s.2.1 s.2.2.1 s.2.2.2.2 else none
theorem Ref_back_33_M : Mn Ref_back_33_F := fun g g2 hg s => by unfold Ref_back_33_F; exact le_i (Ref_back_33_m hg s.2.2.2.1 s.2.1 s.2.2.1 s.2.2.2.2) (le_r _)
def Ref_back_33_P (s : (Nat × Int32 × Int32 × Nat × am_H)) (r : (Int32 × am_H)) : Prop := (s.1 = 33 → Sx 2 mX12_back 33 [.ref s.2.2.2.1, .int s.2.1, .int s.2.2.1] [] s.2.2.2.2 (some (.int r.1)) r.2) ∧ True
set_option maxHeartbeats 1000000 in
set_option maxRecDepth 100000 in
theorem Ref_back_33_t {g : (Nat × Int32 × Int32 × Nat × am_H) → Option (Int32 × am_H)} (hg : ∀ s r, g s = some r → Ref_back_33_P s r) {v0 : Nat} {v1 : Int32} {v2 : Int32} {h : am_H} {r : (Int32 × am_H)} (hb : Ref_back_33_b g v0 v1 v2 h = some r) : Sx 2 mX12_back 33 [.ref v0, .int v1, .int v2] [] h (some (.int r.1)) r.2 := by
  unfold Ref_back_33_b at hb
  refine Sx.o (fun _ _ _ k => ex_iload_n dX12_back_33 rfl k) ?_
  refine Sx.o (fun _ _ _ k => op_sipush (5725 : Int32) dX12_back_34 (by decide) k) ?_
  refine Sx.b (fun _ _ _ k1 k2 => ex_icmp_ge 64 dX12_back_37 (by decide) k1 k2) (fun q => ?_) (fun q => ?_)
  · have hb1 := ip q hb
    refine Sx.o (fun _ _ _ k => ex_aload_n dX12_back_64 rfl rfl k) ?_
    refine Sx.o (fun _ _ _ k => op_iconst (0 : Int32) dX12_back_65 (by decide) k) ?_
    obtain ⟨r3, e_r3, hb4⟩ := ob2 hb1
    refine sx_callV (dc := 1) (as := [.int (0 : Int32)]) (stq := [.int r3.1]) (by omega) dX12_back_66 MX12_settled kX12_109 iX12_settled sX12_settled rfl rfl (Ref_settled_o e_r3) rfl rfl (Nat.le_of_ble_eq_true rfl) (Nat.le_of_ble_eq_true rfl) (Ref_settled_s e_r3) rfl ?_
    obtain rfl := Option.some.inj hb4
    exact Sx.r (fun _ _ _ k => ex_iret rfl dX12_back_69 k)
  · have hb2 := iq q hb
    refine Sx.o (fun _ _ _ k => ex_aload_n dX12_back_40 rfl rfl k) ?_
    obtain ⟨x6, e_x6, hb7⟩ := ob2 hb2
    refine Sx.o (fun _ _ _ k => op_getR fX12_24 dX12_back_41 e_x6 k) ?_
    refine Sx.o (fun _ _ _ k => ex_iload_n dX12_back_44 rfl k) ?_
    refine Sx.o (fun _ _ _ k => ex_aload_n dX12_back_45 rfl rfl k) ?_
    obtain ⟨x8, e_x8, hb9⟩ := ob2 hb7
    refine Sx.o (fun _ _ _ k => op_getR fX12_27 dX12_back_46 e_x8 k) ?_
    refine Sx.o (fun _ _ _ k => op_sipush (5725 : Int32) dX12_back_49 (by decide) k) ?_
    refine Sx.o (fun _ _ _ k => ex_iload_n dX12_back_52 rfl k) ?_
    refine Sx.o (fun _ _ _ k => ex_imul dX12_back_53 k) ?_
    refine Sx.o (fun _ _ _ k => ex_iload_n dX12_back_54 rfl k) ?_
    refine Sx.o (fun _ _ _ k => ex_iadd dX12_back_55 k) ?_
    obtain ⟨x10, e_x10, hb11⟩ := ob2 hb9
    refine Sx.o (fun _ _ _ k => op_iald dX12_back_56 e_x10 k) ?_
    obtain ⟨h12, e_h12, hb13⟩ := ob2 hb11
    refine Sx.p (sI_q e_h12) (fun _ _ _ k => op_iast dX12_back_57 e_h12 k) ?_
    refine Sx.o (L' := [.ref v0, .int v1, .int (v2 + (1 : Int32))]) (fun _ _ _ k => op_iinc (1 : Int32) dX12_back_58 (by decide) rfl (by decide) k) ?_
    refine Sx.o (fun _ _ _ k => ex_goto 33 dX12_back_61 (by decide) k) ?_
    exact (hg _ _ hb13).1 rfl
theorem Ref_back_33_T : ∀ s r, fx Ref_back_33_F Ref_back_33_M s = some r → Ref_back_33_P s r := fx_ind Ref_back_33_M Ref_back_33_P (fun g hg s r hb => by
  unfold Ref_back_33_F at hb
  exact ⟨fun q => Ref_back_33_t hg (ip q hb), trivial⟩)
set_option maxHeartbeats 1000000 in
set_option maxRecDepth 100000 in
theorem Ref_back_33_r {g : (Nat × Int32 × Int32 × Nat × am_H) → Option (Int32 × am_H)} (hg : ∀ s r, g s = some r → Eqs s.2.2.2.2 r.2) {v0 : Nat} {v1 : Int32} {v2 : Int32} {h : am_H} {r : (Int32 × am_H)} (hb : Ref_back_33_b g v0 v1 v2 h = some r) : Eqs h r.2 := by
  unfold Ref_back_33_b at hb
  have w0 := Eqs.rf h
  by_cases q : (5725 : Int32) ≤ v2
  · have hb1 := ip q hb
    obtain ⟨r3, e_r3, hb4⟩ := ob2 hb1
    have w5 := w0.tr (Ref_settled_q e_r3)
    obtain rfl := Option.some.inj hb4
    exact w5
  · have hb2 := iq q hb
    obtain ⟨x6, e_x6, hb7⟩ := ob2 hb2
    obtain ⟨x8, e_x8, hb9⟩ := ob2 hb7
    obtain ⟨x10, e_x10, hb11⟩ := ob2 hb9
    obtain ⟨h12, e_h12, hb13⟩ := ob2 hb11
    have w14 := w0.tr (sI_q e_h12)
    exact w14.tr (hg _ _ hb13)
theorem Ref_back_33_Q : ∀ s r, fx Ref_back_33_F Ref_back_33_M s = some r → Eqs s.2.2.2.2 r.2 := fx_ind Ref_back_33_M (fun s r => Eqs s.2.2.2.2 r.2) (fun g hg s r hb => by
  unfold Ref_back_33_F at hb
  by_cases q0 : s.1 = 33
  · exact Ref_back_33_r hg (ip q0 hb)
  · have hb0 := iq q0 hb
    exact nomatch hb0)
noncomputable def Ref_back_33 (v0 : Nat) (v1 : Int32) (v2 : Int32) (h : am_H) : Option (Int32 × am_H) := fx Ref_back_33_F Ref_back_33_M (33, v1, v2, v0, h)
set_option maxHeartbeats 1000000 in
set_option maxRecDepth 100000 in
theorem Ref_back_33_e (v0 : Nat) (v1 : Int32) (v2 : Int32) (h : am_H) : Ref_back_33 v0 v1 v2 h = (if (5725 : Int32) ≤ v2 then (Ref_settled v0 (0 : Int32) h).bind fun r3 => some (r3.1, r3.2) else (gR h 12 v0 2).bind fun x6 => (gR h 12 v0 3).bind fun x8 => (aI h 0 x8 (((5725 : Int32) * v1) + v2)).bind fun x10 => (sI h x6 v2 x10).bind fun h12 => Ref_back_33 v0 v1 (v2 + (1 : Int32)) h12) := (fx_eq Ref_back_33_M (33, v1, v2, v0, h)).trans (if_pos rfl)
theorem Ref_back_33_q {v0 : Nat} {v1 : Int32} {v2 : Int32} {h : am_H} {r : (Int32 × am_H)} (hb : Ref_back_33 v0 v1 v2 h = some r) : Eqs h r.2 := Ref_back_33_Q _ _ hb
theorem Ref_back_33_s {v0 : Nat} {v1 : Int32} {v2 : Int32} {h : am_H} {r : (Int32 × am_H)} (hb : Ref_back_33 v0 v1 v2 h = some r) : Sx 2 mX12_back 33 [.ref v0, .int v1, .int v2] [] h (some (.int r.1)) r.2 := (Ref_back_33_T _ _ hb).1 rfl
set_option maxHeartbeats 1000000 in
set_option maxRecDepth 100000 in
noncomputable def Ref_back (v0 : Nat) (v1 : Int32) (h : am_H) : Option (Int32 × am_H) := if isO h 12 v0 = true then (Ref_lies v1 (0 : Int32) (1 : Int32) h).bind fun x15 => if x15 = (0 : Int32) then (Ref_refuses v0 (-1 : Int32) h).bind fun r28 => some (r28.1, r28.2) else (gR h 12 v0 4).bind fun x19 => (aI h 2 x19 v1).bind fun x21 => if x21 = (0 : Int32) then (Ref_refuses v0 (-2 : Int32) h).bind fun r25 => some (r25.1, r25.2) else Ref_back_33 v0 v1 (0 : Int32) h else none
set_option maxHeartbeats 1000000 in
set_option maxRecDepth 100000 in
theorem Ref_back_s {v0 : Nat} {v1 : Int32} {h : am_H} {r : (Int32 × am_H)} (hb : Ref_back v0 v1 h = some r) : Sx 2 mX12_back 0 (am_en [.ref v0, .int v1] 3) [] h (some (.int r.1)) r.2 := by
  unfold Ref_back at hb
  have hb := (iz hb).2
  show Sx 2 mX12_back 0 [.ref v0, .int v1, .retAddr 0] [] h (some (.int r.1)) r.2
  refine Sx.o (fun _ _ _ k => ex_iload_n dX12_back_0 rfl k) ?_
  refine Sx.o (fun _ _ _ k => op_iconst (0 : Int32) dX12_back_1 (by decide) k) ?_
  refine Sx.o (fun _ _ _ k => op_iconst (1 : Int32) dX12_back_2 (by decide) k) ?_
  obtain ⟨x15, e_x15, hb16⟩ := ob2 hb
  refine sx_callS (dc := 0) (as := [.int v1, .int (0 : Int32), .int (1 : Int32)]) (stq := [.int x15]) (by omega) dX12_back_3 MX12_lies kX12_102 tX12_lies rfl rfl (Nat.le_of_ble_eq_true rfl) (Nat.le_of_ble_eq_true rfl) (Ref_lies_s e_x15) rfl ?_
  refine Sx.bn (fun _ _ _ k1 k2 => ex_if_ne 15 dX12_back_6 (by decide) k1 k2) (fun q => ?_) (fun q => ?_)
  · have hb17 := iq q hb16
    refine Sx.o (fun _ _ _ k => ex_aload_n dX12_back_15 rfl rfl k) ?_
    obtain ⟨x19, e_x19, hb20⟩ := ob2 hb17
    refine Sx.o (fun _ _ _ k => op_getR fX12_30 dX12_back_16 e_x19 k) ?_
    refine Sx.o (fun _ _ _ k => ex_iload_n dX12_back_19 rfl k) ?_
    obtain ⟨x21, e_x21, hb22⟩ := ob2 hb20
    refine Sx.o (fun _ _ _ k => op_zald dX12_back_20 e_x21 k) ?_
    refine Sx.bn (fun _ _ _ k1 k2 => ex_if_ne 31 dX12_back_21 (by decide) k1 k2) (fun q => ?_) (fun q => ?_)
    · have hb23 := iq q hb22
      refine Sx.o (fun _ _ _ k => op_iconst (0 : Int32) dX12_back_31 (by decide) k) ?_
      refine Sx.o (L' := [.ref v0, .int v1, .int (0 : Int32)]) (fun _ _ _ k => ex_istore_n dX12_back_32 (by decide) k) ?_
      exact Ref_back_33_s hb23
    · have hb24 := ip q hb22
      refine Sx.o (fun _ _ _ k => ex_aload_n dX12_back_24 rfl rfl k) ?_
      refine Sx.o (fun _ _ _ k => op_bipush (-2 : Int32) dX12_back_25 (by decide) k) ?_
      obtain ⟨r25, e_r25, hb26⟩ := ob2 hb24
      refine sx_callV (dc := 0) (as := [.int (-2 : Int32)]) (stq := [.int r25.1]) (by omega) dX12_back_27 MX12_refuses kX12_106 iX12_refuses sX12_refuses rfl rfl (Ref_refuses_o e_r25) rfl rfl (Nat.le_of_ble_eq_true rfl) (Nat.le_of_ble_eq_true rfl) (Ref_refuses_s e_r25) rfl ?_
      obtain rfl := Option.some.inj hb26
      exact Sx.r (fun _ _ _ k => ex_iret rfl dX12_back_30 k)
  · have hb18 := ip q hb16
    refine Sx.o (fun _ _ _ k => ex_aload_n dX12_back_9 rfl rfl k) ?_
    refine Sx.o (fun _ _ _ k => op_iconst (-1 : Int32) dX12_back_10 (by decide) k) ?_
    obtain ⟨r28, e_r28, hb29⟩ := ob2 hb18
    refine sx_callV (dc := 0) (as := [.int (-1 : Int32)]) (stq := [.int r28.1]) (by omega) dX12_back_11 MX12_refuses kX12_106 iX12_refuses sX12_refuses rfl rfl (Ref_refuses_o e_r28) rfl rfl (Nat.le_of_ble_eq_true rfl) (Nat.le_of_ble_eq_true rfl) (Ref_refuses_s e_r28) rfl ?_
    obtain rfl := Option.some.inj hb29
    exact Sx.r (fun _ _ _ k => ex_iret rfl dX12_back_14 k)
set_option maxHeartbeats 1000000 in
set_option maxRecDepth 100000 in
theorem Ref_back_q {v0 : Nat} {v1 : Int32} {h : am_H} {r : (Int32 × am_H)} (hb : Ref_back v0 v1 h = some r) : Eqs h r.2 := by
  unfold Ref_back at hb
  have hb := (iz hb).2
  have w0 := Eqs.rf h
  obtain ⟨x15, e_x15, hb16⟩ := ob2 hb
  by_cases q : x15 = (0 : Int32)
  · have hb18 := ip q hb16
    obtain ⟨r28, e_r28, hb29⟩ := ob2 hb18
    have w30 := w0.tr (Ref_refuses_q e_r28)
    obtain rfl := Option.some.inj hb29
    exact w30
  · have hb17 := iq q hb16
    obtain ⟨x19, e_x19, hb20⟩ := ob2 hb17
    obtain ⟨x21, e_x21, hb22⟩ := ob2 hb20
    by_cases q : x21 = (0 : Int32)
    · have hb24 := ip q hb22
      obtain ⟨r25, e_r25, hb26⟩ := ob2 hb24
      have w27 := w0.tr (Ref_refuses_q e_r25)
      obtain rfl := Option.some.inj hb26
      exact w27
    · have hb23 := iq q hb22
      exact w0.tr (Ref_back_33_q hb23)
theorem Ref_back_o {v0 : Nat} {v1 : Int32} {h : am_H} {r : (Int32 × am_H)} (hb : Ref_back v0 v1 h = some r) : isO h 12 v0 = true := by
  unfold Ref_back at hb
  exact (iz hb).1
set_option maxHeartbeats 1000000 in
set_option maxRecDepth 100000 in
noncomputable def Ref_canAsk (v0 : Nat) (v1 : Int32) (v2 : Int32) (v3 : Int32) (h : am_H) : Option Int32 := if isO h 12 v0 = true then (Ref_isHeap v0 v1 h).bind fun x1 => if x1 = (0 : Int32) then some (0 : Int32) else (Ref_manyIn v0 v1 h).bind fun x5 => if (7 : Int32) < x5 then some (0 : Int32) else if v2 < (-1 : Int32) then some (0 : Int32) else if v2 = (-1 : Int32) then some (1 : Int32) else (Ref_manyIn v0 v1 h).bind fun x13 => (Ref_lies v3 (0 : Int32) (x13 - (1 : Int32)) h).bind fun x15 => if x15 = (0 : Int32) then some (0 : Int32) else some (1 : Int32) else none
set_option maxHeartbeats 1000000 in
set_option maxRecDepth 100000 in
theorem Ref_canAsk_s {v0 : Nat} {v1 : Int32} {v2 : Int32} {v3 : Int32} {h : am_H} {r : Int32} (hb : Ref_canAsk v0 v1 v2 v3 h = some r) : Sx 2 mX12_canAsk 0 (am_en [.ref v0, .int v1, .int v2, .int v3] 4) [] h (some (.int r)) h := by
  unfold Ref_canAsk at hb
  have hb := (iz hb).2
  show Sx 2 mX12_canAsk 0 [.ref v0, .int v1, .int v2, .int v3] [] h (some (.int r)) h
  refine Sx.o (fun _ _ _ k => ex_aload_n dX12_canAsk_0 rfl rfl k) ?_
  refine Sx.o (fun _ _ _ k => ex_iload_n dX12_canAsk_1 rfl k) ?_
  obtain ⟨x1, e_x1, hb2⟩ := ob2 hb
  refine sx_callV (dc := 1) (as := [.int v1]) (stq := [.int x1]) (by omega) dX12_canAsk_2 MX12_isHeap kX12_122 iX12_isHeap sX12_isHeap rfl rfl (Ref_isHeap_o e_x1) rfl rfl (Nat.le_of_ble_eq_true rfl) (Nat.le_of_ble_eq_true rfl) (Ref_isHeap_s e_x1) rfl ?_
  refine Sx.b (fun _ _ _ k1 k2 => ex_if_eq 47 dX12_canAsk_5 (by decide) k1 k2) (fun q => ?_) (fun q => ?_)
  · have hb3 := ip q hb2
    refine Sx.o (fun _ _ _ k => op_iconst (0 : Int32) dX12_canAsk_47 (by decide) k) ?_
    obtain rfl := Option.some.inj hb3
    exact Sx.r (fun _ _ _ k => ex_zret rfl rfl dX12_canAsk_48 k)
  · have hb4 := iq q hb2
    refine Sx.o (fun _ _ _ k => ex_aload_n dX12_canAsk_8 rfl rfl k) ?_
    refine Sx.o (fun _ _ _ k => ex_iload_n dX12_canAsk_9 rfl k) ?_
    obtain ⟨x5, e_x5, hb6⟩ := ob2 hb4
    refine sx_callV (dc := 1) (as := [.int v1]) (stq := [.int x5]) (by omega) dX12_canAsk_10 MX12_manyIn kX12_316 iX12_manyIn sX12_manyIn rfl rfl (Ref_manyIn_o e_x5) rfl rfl (Nat.le_of_ble_eq_true rfl) (Nat.le_of_ble_eq_true rfl) (Ref_manyIn_s e_x5) rfl ?_
    refine Sx.o (fun _ _ _ k => op_bipush (7 : Int32) dX12_canAsk_13 (by decide) k) ?_
    refine Sx.b (fun _ _ _ k1 k2 => ex_icmp_gt 47 dX12_canAsk_15 (by decide) k1 k2) (fun q => ?_) (fun q => ?_)
    · have hb7 := ip q hb6
      refine Sx.o (fun _ _ _ k => op_iconst (0 : Int32) dX12_canAsk_47 (by decide) k) ?_
      obtain rfl := Option.some.inj hb7
      exact Sx.r (fun _ _ _ k => ex_zret rfl rfl dX12_canAsk_48 k)
    · have hb8 := iq q hb6
      refine Sx.o (fun _ _ _ k => ex_iload_n dX12_canAsk_18 rfl k) ?_
      refine Sx.o (fun _ _ _ k => op_iconst (-1 : Int32) dX12_canAsk_19 (by decide) k) ?_
      refine Sx.b (fun _ _ _ k1 k2 => ex_icmp_lt 47 dX12_canAsk_20 (by decide) k1 k2) (fun q => ?_) (fun q => ?_)
      · have hb9 := ip q hb8
        refine Sx.o (fun _ _ _ k => op_iconst (0 : Int32) dX12_canAsk_47 (by decide) k) ?_
        obtain rfl := Option.some.inj hb9
        exact Sx.r (fun _ _ _ k => ex_zret rfl rfl dX12_canAsk_48 k)
      · have hb10 := iq q hb8
        refine Sx.o (fun _ _ _ k => ex_iload_n dX12_canAsk_23 rfl k) ?_
        refine Sx.o (fun _ _ _ k => op_iconst (-1 : Int32) dX12_canAsk_24 (by decide) k) ?_
        refine Sx.b (fun _ _ _ k1 k2 => ex_icmp_eq 43 dX12_canAsk_25 (by decide) k1 k2) (fun q => ?_) (fun q => ?_)
        · have hb11 := ip q hb10
          refine Sx.o (fun _ _ _ k => op_iconst (1 : Int32) dX12_canAsk_43 (by decide) k) ?_
          refine Sx.o (fun _ _ _ k => ex_goto 48 dX12_canAsk_44 (by decide) k) ?_
          obtain rfl := Option.some.inj hb11
          exact Sx.r (fun _ _ _ k => ex_zret rfl rfl dX12_canAsk_48 k)
        · have hb12 := iq q hb10
          refine Sx.o (fun _ _ _ k => ex_iload_n dX12_canAsk_28 rfl k) ?_
          refine Sx.o (fun _ _ _ k => op_iconst (0 : Int32) dX12_canAsk_29 (by decide) k) ?_
          refine Sx.o (fun _ _ _ k => ex_aload_n dX12_canAsk_30 rfl rfl k) ?_
          refine Sx.o (fun _ _ _ k => ex_iload_n dX12_canAsk_31 rfl k) ?_
          obtain ⟨x13, e_x13, hb14⟩ := ob2 hb12
          refine sx_callV (dc := 1) (as := [.int v1]) (stq := [.int x13, .int (0 : Int32), .int v3]) (by omega) dX12_canAsk_32 MX12_manyIn kX12_316 iX12_manyIn sX12_manyIn rfl rfl (Ref_manyIn_o e_x13) rfl rfl (Nat.le_of_ble_eq_true rfl) (Nat.le_of_ble_eq_true rfl) (Ref_manyIn_s e_x13) rfl ?_
          refine Sx.o (fun _ _ _ k => op_iconst (1 : Int32) dX12_canAsk_35 (by decide) k) ?_
          refine Sx.o (fun _ _ _ k => ex_isub dX12_canAsk_36 k) ?_
          obtain ⟨x15, e_x15, hb16⟩ := ob2 hb14
          refine sx_callS (dc := 0) (as := [.int v3, .int (0 : Int32), .int (x13 - (1 : Int32))]) (stq := [.int x15]) (by omega) dX12_canAsk_37 MX12_lies kX12_102 tX12_lies rfl rfl (Nat.le_of_ble_eq_true rfl) (Nat.le_of_ble_eq_true rfl) (Ref_lies_s e_x15) rfl ?_
          refine Sx.b (fun _ _ _ k1 k2 => ex_if_eq 47 dX12_canAsk_40 (by decide) k1 k2) (fun q => ?_) (fun q => ?_)
          · have hb17 := ip q hb16
            refine Sx.o (fun _ _ _ k => op_iconst (0 : Int32) dX12_canAsk_47 (by decide) k) ?_
            obtain rfl := Option.some.inj hb17
            exact Sx.r (fun _ _ _ k => ex_zret rfl rfl dX12_canAsk_48 k)
          · have hb18 := iq q hb16
            refine Sx.o (fun _ _ _ k => op_iconst (1 : Int32) dX12_canAsk_43 (by decide) k) ?_
            refine Sx.o (fun _ _ _ k => ex_goto 48 dX12_canAsk_44 (by decide) k) ?_
            obtain rfl := Option.some.inj hb18
            exact Sx.r (fun _ _ _ k => ex_zret rfl rfl dX12_canAsk_48 k)
theorem Ref_canAsk_o {v0 : Nat} {v1 : Int32} {v2 : Int32} {v3 : Int32} {h : am_H} {r : Int32} (hb : Ref_canAsk v0 v1 v2 v3 h = some r) : isO h 12 v0 = true := by
  unfold Ref_canAsk at hb
  exact (iz hb).1
set_option maxHeartbeats 1000000 in
set_option maxRecDepth 100000 in
noncomputable def Ref_rises_4_b (g : (Nat × Int32 × Int32 × Nat × am_H) → Option Int32) (v0 : Nat) (v1 : Int32) (v2 : Int32) (h : am_H) : Option Int32 := (gI h 12 v0 31).bind fun x1 => if x1 ≤ v2 then (nrZ v1).bind fun u5 => some v1 else if v1 = (0 : Int32) then g (37, v2, 0, v0, h) else (gR h 12 v0 29).bind fun x9 => (aI h 0 x9 (v2 - (1 : Int32))).bind fun x11 => (gR h 12 v0 29).bind fun x13 => (aI h 0 x13 v2).bind fun x15 => if x15 < x11 then g (37, v2, 0, v0, h) else g (38, v2, (1 : Int32), v0, h)
set_option maxHeartbeats 1000000 in
set_option maxRecDepth 100000 in
theorem Ref_rises_4_m {g g2 : (Nat × Int32 × Int32 × Nat × am_H) → Option Int32} (hg : ∀ s, Le (g s) (g2 s)) (v0 : Nat) (v1 : Int32) (v2 : Int32) (h : am_H) : Le (Ref_rises_4_b g v0 v1 v2 h) (Ref_rises_4_b g2 v0 v1 v2 h) := by unfold Ref_rises_4_b; exact le_b (le_r _) fun x1 => le_i (le_r _) (le_i (hg _) (le_b (le_r _) fun x9 => le_b (le_r _) fun x11 => le_b (le_r _) fun x13 => le_b (le_r _) fun x15 => le_i (hg _) (hg _)))
set_option maxHeartbeats 1000000 in
set_option maxRecDepth 100000 in
noncomputable def Ref_rises_37_b (g : (Nat × Int32 × Int32 × Nat × am_H) → Option Int32) (v0 : Nat) (v2 : Int32) (h : am_H) : Option Int32 := g (38, v2, (0 : Int32), v0, h)
set_option maxHeartbeats 1000000 in
set_option maxRecDepth 100000 in
theorem Ref_rises_37_m {g g2 : (Nat × Int32 × Int32 × Nat × am_H) → Option Int32} (hg : ∀ s, Le (g s) (g2 s)) (v0 : Nat) (v2 : Int32) (h : am_H) : Le (Ref_rises_37_b g v0 v2 h) (Ref_rises_37_b g2 v0 v2 h) := by unfold Ref_rises_37_b; exact hg _
set_option maxHeartbeats 1000000 in
set_option maxRecDepth 100000 in
noncomputable def Ref_rises_38_b (g : (Nat × Int32 × Int32 × Nat × am_H) → Option Int32) (v0 : Nat) (v2 : Int32) (s0 : Int32) (h : am_H) : Option Int32 := g (4, s0, (v2 + (1 : Int32)), v0, h)
set_option maxHeartbeats 1000000 in
set_option maxRecDepth 100000 in
theorem Ref_rises_38_m {g g2 : (Nat × Int32 × Int32 × Nat × am_H) → Option Int32} (hg : ∀ s, Le (g s) (g2 s)) (v0 : Nat) (v2 : Int32) (s0 : Int32) (h : am_H) : Le (Ref_rises_38_b g v0 v2 s0 h) (Ref_rises_38_b g2 v0 v2 s0 h) := by unfold Ref_rises_38_b; exact hg _
noncomputable def Ref_rises_4_F (g : (Nat × Int32 × Int32 × Nat × am_H) → Option Int32) (s : (Nat × Int32 × Int32 × Nat × am_H)) : Option Int32 := if s.1 = 4 then Ref_rises_4_b g s.2.2.2.1 s.2.1 s.2.2.1 s.2.2.2.2 else if s.1 = 37 then Ref_rises_37_b g s.2.2.2.1 s.2.1 s.2.2.2.2 else if s.1 = 38 then Ref_rises_38_b g s.2.2.2.1 s.2.1 s.2.2.1 s.2.2.2.2 else none
theorem Ref_rises_4_M : Mn Ref_rises_4_F := fun g g2 hg s => by unfold Ref_rises_4_F; exact le_i (Ref_rises_4_m hg s.2.2.2.1 s.2.1 s.2.2.1 s.2.2.2.2) (le_i (Ref_rises_37_m hg s.2.2.2.1 s.2.1 s.2.2.2.2) (le_i (Ref_rises_38_m hg s.2.2.2.1 s.2.1 s.2.2.1 s.2.2.2.2) (le_r _)))
def Ref_rises_4_P (s : (Nat × Int32 × Int32 × Nat × am_H)) (r : Int32) : Prop := (s.1 = 4 → Sx 0 mX12_rises 4 [.ref s.2.2.2.1, .int s.2.1, .int s.2.2.1] [] s.2.2.2.2 (some (.int r)) s.2.2.2.2) ∧ (s.1 = 37 → Sx 0 mX12_rises 37 [.ref s.2.2.2.1, .retAddr 0, .int s.2.1] [] s.2.2.2.2 (some (.int r)) s.2.2.2.2) ∧ (s.1 = 38 → Sx 0 mX12_rises 38 [.ref s.2.2.2.1, .retAddr 0, .int s.2.1] [.int s.2.2.1] s.2.2.2.2 (some (.int r)) s.2.2.2.2) ∧ True
set_option maxHeartbeats 1000000 in
set_option maxRecDepth 100000 in
theorem Ref_rises_4_t {g : (Nat × Int32 × Int32 × Nat × am_H) → Option Int32} (hg : ∀ s r, g s = some r → Ref_rises_4_P s r) {v0 : Nat} {v1 : Int32} {v2 : Int32} {h : am_H} {r : Int32} (hb : Ref_rises_4_b g v0 v1 v2 h = some r) : Sx 0 mX12_rises 4 [.ref v0, .int v1, .int v2] [] h (some (.int r)) h := by
  unfold Ref_rises_4_b at hb
  refine Sx.o (fun _ _ _ k => ex_iload_n dX12_rises_4 rfl k) ?_
  refine Sx.o (fun _ _ _ k => ex_aload_n dX12_rises_5 rfl rfl k) ?_
  obtain ⟨x1, e_x1, hb2⟩ := ob2 hb
  refine Sx.o (fun _ _ _ k => op_getI fX12_130 dX12_rises_6 e_x1 k) ?_
  refine Sx.b (fun _ _ _ k1 k2 => ex_icmp_ge 45 dX12_rises_9 (by decide) k1 k2) (fun q => ?_) (fun q => ?_)
  · have hb3 := ip q hb2
    refine Sx.o (fun _ _ _ k => ex_iload_n dX12_rises_45 rfl k) ?_
    obtain ⟨u5, e_u5, hb6⟩ := ob2 hb3
    obtain rfl := Option.some.inj hb6
    exact Sx.r (fun _ _ _ k => ex_zret rfl (nrZ_n e_u5) dX12_rises_46 k)
  · have hb4 := iq q hb2
    refine Sx.o (fun _ _ _ k => ex_iload_n dX12_rises_12 rfl k) ?_
    refine Sx.b (fun _ _ _ k1 k2 => ex_if_eq 37 dX12_rises_13 (by decide) k1 k2) (fun q => ?_) (fun q => ?_)
    · have hb7 := ip q hb4
      refine Sx.fg [true, false, true] ?_
      exact (hg _ _ hb7).2.1 rfl
    · have hb8 := iq q hb4
      refine Sx.o (fun _ _ _ k => ex_aload_n dX12_rises_16 rfl rfl k) ?_
      obtain ⟨x9, e_x9, hb10⟩ := ob2 hb8
      refine Sx.o (fun _ _ _ k => op_getR fX12_65 dX12_rises_17 e_x9 k) ?_
      refine Sx.o (fun _ _ _ k => ex_iload_n dX12_rises_20 rfl k) ?_
      refine Sx.o (fun _ _ _ k => op_iconst (1 : Int32) dX12_rises_21 (by decide) k) ?_
      refine Sx.o (fun _ _ _ k => ex_isub dX12_rises_22 k) ?_
      obtain ⟨x11, e_x11, hb12⟩ := ob2 hb10
      refine Sx.o (fun _ _ _ k => op_iald dX12_rises_23 e_x11 k) ?_
      refine Sx.o (fun _ _ _ k => ex_aload_n dX12_rises_24 rfl rfl k) ?_
      obtain ⟨x13, e_x13, hb14⟩ := ob2 hb12
      refine Sx.o (fun _ _ _ k => op_getR fX12_65 dX12_rises_25 e_x13 k) ?_
      refine Sx.o (fun _ _ _ k => ex_iload_n dX12_rises_28 rfl k) ?_
      obtain ⟨x15, e_x15, hb16⟩ := ob2 hb14
      refine Sx.o (fun _ _ _ k => op_iald dX12_rises_29 e_x15 k) ?_
      refine Sx.b (fun _ _ _ k1 k2 => ex_icmp_gt 37 dX12_rises_30 (by decide) k1 k2) (fun q => ?_) (fun q => ?_)
      · have hb17 := ip q hb16
        refine Sx.fg [true, false, true] ?_
        exact (hg _ _ hb17).2.1 rfl
      · have hb18 := iq q hb16
        refine Sx.o (fun _ _ _ k => op_iconst (1 : Int32) dX12_rises_33 (by decide) k) ?_
        refine Sx.o (fun _ _ _ k => ex_goto 38 dX12_rises_34 (by decide) k) ?_
        refine Sx.fg [true, false, true] ?_
        exact (hg _ _ hb18).2.2.1 rfl
set_option maxHeartbeats 1000000 in
set_option maxRecDepth 100000 in
theorem Ref_rises_37_t {g : (Nat × Int32 × Int32 × Nat × am_H) → Option Int32} (hg : ∀ s r, g s = some r → Ref_rises_4_P s r) {v0 : Nat} {v2 : Int32} {h : am_H} {r : Int32} (hb : Ref_rises_37_b g v0 v2 h = some r) : Sx 0 mX12_rises 37 [.ref v0, .retAddr 0, .int v2] [] h (some (.int r)) h := by
  unfold Ref_rises_37_b at hb
  refine Sx.o (fun _ _ _ k => op_iconst (0 : Int32) dX12_rises_37 (by decide) k) ?_
  exact (hg _ _ hb).2.2.1 rfl
set_option maxHeartbeats 1000000 in
set_option maxRecDepth 100000 in
theorem Ref_rises_38_t {g : (Nat × Int32 × Int32 × Nat × am_H) → Option Int32} (hg : ∀ s r, g s = some r → Ref_rises_4_P s r) {v0 : Nat} {v2 : Int32} {s0 : Int32} {h : am_H} {r : Int32} (hb : Ref_rises_38_b g v0 v2 s0 h = some r) : Sx 0 mX12_rises 38 [.ref v0, .retAddr 0, .int v2] [.int s0] h (some (.int r)) h := by
  unfold Ref_rises_38_b at hb
  refine Sx.o (L' := [.ref v0, .int s0, .int v2]) (fun _ _ _ k => ex_istore_n dX12_rises_38 (by decide) k) ?_
  refine Sx.o (L' := [.ref v0, .int s0, .int (v2 + (1 : Int32))]) (fun _ _ _ k => op_iinc (1 : Int32) dX12_rises_39 (by decide) rfl (by decide) k) ?_
  refine Sx.o (fun _ _ _ k => ex_goto 4 dX12_rises_42 (by decide) k) ?_
  exact (hg _ _ hb).1 rfl
theorem Ref_rises_4_T : ∀ s r, fx Ref_rises_4_F Ref_rises_4_M s = some r → Ref_rises_4_P s r := fx_ind Ref_rises_4_M Ref_rises_4_P (fun g hg s r hb => by
  unfold Ref_rises_4_F at hb
  exact ⟨fun q => Ref_rises_4_t hg (ip q hb), fun q => Ref_rises_37_t hg (ip q (iq (by rw [q]; decide) hb)), fun q => Ref_rises_38_t hg (ip q (iq (by rw [q]; decide) (iq (by rw [q]; decide) hb))), trivial⟩)
noncomputable def Ref_rises_4 (v0 : Nat) (v1 : Int32) (v2 : Int32) (h : am_H) : Option Int32 := fx Ref_rises_4_F Ref_rises_4_M (4, v1, v2, v0, h)
noncomputable def Ref_rises_37 (v0 : Nat) (v2 : Int32) (h : am_H) : Option Int32 := fx Ref_rises_4_F Ref_rises_4_M (37, v2, 0, v0, h)
noncomputable def Ref_rises_38 (v0 : Nat) (v2 : Int32) (s0 : Int32) (h : am_H) : Option Int32 := fx Ref_rises_4_F Ref_rises_4_M (38, v2, s0, v0, h)
set_option maxHeartbeats 1000000 in
set_option maxRecDepth 100000 in
theorem Ref_rises_4_e (v0 : Nat) (v1 : Int32) (v2 : Int32) (h : am_H) : Ref_rises_4 v0 v1 v2 h = ((gI h 12 v0 31).bind fun x1 => if x1 ≤ v2 then (nrZ v1).bind fun u5 => some v1 else if v1 = (0 : Int32) then Ref_rises_37 v0 v2 h else (gR h 12 v0 29).bind fun x9 => (aI h 0 x9 (v2 - (1 : Int32))).bind fun x11 => (gR h 12 v0 29).bind fun x13 => (aI h 0 x13 v2).bind fun x15 => if x15 < x11 then Ref_rises_37 v0 v2 h else Ref_rises_38 v0 v2 (1 : Int32) h) := (fx_eq Ref_rises_4_M (4, v1, v2, v0, h)).trans (if_pos rfl)
theorem Ref_rises_4_s {v0 : Nat} {v1 : Int32} {v2 : Int32} {h : am_H} {r : Int32} (hb : Ref_rises_4 v0 v1 v2 h = some r) : Sx 0 mX12_rises 4 [.ref v0, .int v1, .int v2] [] h (some (.int r)) h := (Ref_rises_4_T _ _ hb).1 rfl
set_option maxHeartbeats 1000000 in
set_option maxRecDepth 100000 in
theorem Ref_rises_37_e (v0 : Nat) (v2 : Int32) (h : am_H) : Ref_rises_37 v0 v2 h = (Ref_rises_38 v0 v2 (0 : Int32) h) := (fx_eq Ref_rises_4_M (37, v2, 0, v0, h)).trans ((if_neg (show ¬ (37 : Nat) = 4 by decide)).trans (if_pos rfl))
theorem Ref_rises_37_s {v0 : Nat} {v2 : Int32} {h : am_H} {r : Int32} (hb : Ref_rises_37 v0 v2 h = some r) : Sx 0 mX12_rises 37 [.ref v0, .retAddr 0, .int v2] [] h (some (.int r)) h := (Ref_rises_4_T _ _ hb).2.1 rfl
set_option maxHeartbeats 1000000 in
set_option maxRecDepth 100000 in
theorem Ref_rises_38_e (v0 : Nat) (v2 : Int32) (s0 : Int32) (h : am_H) : Ref_rises_38 v0 v2 s0 h = (Ref_rises_4 v0 s0 (v2 + (1 : Int32)) h) := (fx_eq Ref_rises_4_M (38, v2, s0, v0, h)).trans ((if_neg (show ¬ (38 : Nat) = 4 by decide)).trans ((if_neg (show ¬ (38 : Nat) = 37 by decide)).trans (if_pos rfl)))
theorem Ref_rises_38_s {v0 : Nat} {v2 : Int32} {s0 : Int32} {h : am_H} {r : Int32} (hb : Ref_rises_38 v0 v2 s0 h = some r) : Sx 0 mX12_rises 38 [.ref v0, .retAddr 0, .int v2] [.int s0] h (some (.int r)) h := (Ref_rises_4_T _ _ hb).2.2.1 rfl
set_option maxHeartbeats 1000000 in
set_option maxRecDepth 100000 in
noncomputable def Ref_rises (v0 : Nat) (h : am_H) : Option Int32 := if isO h 12 v0 = true then Ref_rises_4 v0 (1 : Int32) (1 : Int32) h else none
set_option maxHeartbeats 1000000 in
set_option maxRecDepth 100000 in
theorem Ref_rises_s {v0 : Nat} {h : am_H} {r : Int32} (hb : Ref_rises v0 h = some r) : Sx 0 mX12_rises 0 (am_en [.ref v0] 3) [] h (some (.int r)) h := by
  unfold Ref_rises at hb
  have hb := (iz hb).2
  show Sx 0 mX12_rises 0 [.ref v0, .retAddr 0, .retAddr 0] [] h (some (.int r)) h
  refine Sx.o (fun _ _ _ k => op_iconst (1 : Int32) dX12_rises_0 (by decide) k) ?_
  refine Sx.o (L' := [.ref v0, .int (1 : Int32), .retAddr 0]) (fun _ _ _ k => ex_istore_n dX12_rises_1 (by decide) k) ?_
  refine Sx.o (fun _ _ _ k => op_iconst (1 : Int32) dX12_rises_2 (by decide) k) ?_
  refine Sx.o (L' := [.ref v0, .int (1 : Int32), .int (1 : Int32)]) (fun _ _ _ k => ex_istore_n dX12_rises_3 (by decide) k) ?_
  exact Ref_rises_4_s hb
theorem Ref_rises_o {v0 : Nat} {h : am_H} {r : Int32} (hb : Ref_rises v0 h = some r) : isO h 12 v0 = true := by
  unfold Ref_rises at hb
  exact (iz hb).1
set_option maxHeartbeats 1000000 in
set_option maxRecDepth 100000 in
noncomputable def Ref_canOrder_b (g : (Nat × Nat × Int32 × Int32 × Int32 × Nat × am_H) → Option (Int32 × am_H)) (dd : Nat) (v0 : Nat) (v1 : Int32) (v2 : Int32) (h : am_H) : Option (Int32 × am_H) := if isO h 12 v0 = true then if v1 = v2 then (Ref_rises v0 h).bind fun x3 => (nrZ x3).bind fun u5 => some (x3, h) else g (12, dd, v1, v2, (2 : Int32), v0, h) else none
set_option maxHeartbeats 1000000 in
set_option maxRecDepth 100000 in
theorem Ref_canOrder_m {g g2 : (Nat × Nat × Int32 × Int32 × Int32 × Nat × am_H) → Option (Int32 × am_H)} (hg : ∀ s, Le (g s) (g2 s)) (dd : Nat) (v0 : Nat) (v1 : Int32) (v2 : Int32) (h : am_H) : Le (Ref_canOrder_b g dd v0 v1 v2 h) (Ref_canOrder_b g2 dd v0 v1 v2 h) := by unfold Ref_canOrder_b; exact le_i (le_i (le_r _) (hg _)) (le_r _)
set_option maxHeartbeats 1000000 in
set_option maxRecDepth 100000 in
noncomputable def Ref_canOrder_12_b (g : (Nat × Nat × Int32 × Int32 × Int32 × Nat × am_H) → Option (Int32 × am_H)) (dd : Nat) (v0 : Nat) (v1 : Int32) (v2 : Int32) (v3 : Int32) (h : am_H) : Option (Int32 × am_H) := (gI h 12 v0 31).bind fun x7 => if x7 < v3 then some ((0 : Int32), h) else (Ref_turns v0 v3 h).bind fun h11 => (gR h11 12 v0 45).bind fun x14 => (sI h11 x14 v1 v3).bind fun h16 => (if 0 < dd then g (0, dd - 1, (v1 + (1 : Int32)), v2, 0, v0, h16) else none).bind fun r19 => (Ref_turns v0 v3 r19.2).bind fun h22 => if r19.1 = (0 : Int32) then g (12, dd, v1, v2, (v3 + (1 : Int32)), v0, h22) else (gR h22 12 v0 45).bind fun x27 => (sI h22 x27 v1 v3).bind fun h29 => some ((1 : Int32), h29)
set_option maxHeartbeats 1000000 in
set_option maxRecDepth 100000 in
theorem Ref_canOrder_12_m {g g2 : (Nat × Nat × Int32 × Int32 × Int32 × Nat × am_H) → Option (Int32 × am_H)} (hg : ∀ s, Le (g s) (g2 s)) (dd : Nat) (v0 : Nat) (v1 : Int32) (v2 : Int32) (v3 : Int32) (h : am_H) : Le (Ref_canOrder_12_b g dd v0 v1 v2 v3 h) (Ref_canOrder_12_b g2 dd v0 v1 v2 v3 h) := by unfold Ref_canOrder_12_b; exact le_b (le_r _) fun x7 => le_i (le_r _) (le_b (le_r _) fun h11 => le_b (le_r _) fun x14 => le_b (le_r _) fun h16 => le_b (le_i (hg _) (le_r _)) fun r19 => le_b (le_r _) fun h22 => le_i (hg _) (le_r _))
noncomputable def Ref_canOrderG_F (g : (Nat × Nat × Int32 × Int32 × Int32 × Nat × am_H) → Option (Int32 × am_H)) (s : (Nat × Nat × Int32 × Int32 × Int32 × Nat × am_H)) : Option (Int32 × am_H) := if s.1 = 0 then Ref_canOrder_b g s.2.1 s.2.2.2.2.2.1 s.2.2.1 s.2.2.2.1 s.2.2.2.2.2.2 else if s.1 = 12 then Ref_canOrder_12_b g s.2.1 s.2.2.2.2.2.1 s.2.2.1 s.2.2.2.1 s.2.2.2.2.1 s.2.2.2.2.2.2 else none
theorem Ref_canOrderG_M : Mn Ref_canOrderG_F := fun g g2 hg s => by unfold Ref_canOrderG_F; exact le_i (Ref_canOrder_m hg s.2.1 s.2.2.2.2.2.1 s.2.2.1 s.2.2.2.1 s.2.2.2.2.2.2) (le_i (Ref_canOrder_12_m hg s.2.1 s.2.2.2.2.2.1 s.2.2.1 s.2.2.2.1 s.2.2.2.2.1 s.2.2.2.2.2.2) (le_r _))
def Ref_canOrderG_P (s : (Nat × Nat × Int32 × Int32 × Int32 × Nat × am_H)) (r : (Int32 × am_H)) : Prop := (s.1 = 0 → isO s.2.2.2.2.2.2 12 s.2.2.2.2.2.1 = true ∧ Sx (1 + s.2.1) mX12_canOrder 0 (am_en [.ref s.2.2.2.2.2.1, .int s.2.2.1, .int s.2.2.2.1] 5) [] s.2.2.2.2.2.2 (some (.int r.1)) r.2) ∧ (s.1 = 12 → Sx (1 + s.2.1) mX12_canOrder 12 [.ref s.2.2.2.2.2.1, .int s.2.2.1, .int s.2.2.2.1, .int s.2.2.2.2.1, .retAddr 0] [] s.2.2.2.2.2.2 (some (.int r.1)) r.2) ∧ True
set_option maxHeartbeats 1000000 in
set_option maxRecDepth 100000 in
theorem Ref_canOrder_t {g : (Nat × Nat × Int32 × Int32 × Int32 × Nat × am_H) → Option (Int32 × am_H)} (hg : ∀ s r, g s = some r → Ref_canOrderG_P s r) {dd : Nat} {v0 : Nat} {v1 : Int32} {v2 : Int32} {h : am_H} {r : (Int32 × am_H)} (hb : Ref_canOrder_b g dd v0 v1 v2 h = some r) : isO h 12 v0 = true ∧ Sx (1 + dd) mX12_canOrder 0 (am_en [.ref v0, .int v1, .int v2] 5) [] h (some (.int r.1)) r.2 := by
  unfold Ref_canOrder_b at hb
  obtain ⟨ho, hb⟩ := iz hb
  refine ⟨ho, ?_⟩
  show Sx (1 + dd) mX12_canOrder 0 [.ref v0, .int v1, .int v2, .retAddr 0, .retAddr 0] [] h (some (.int r.1)) r.2
  refine Sx.o (fun _ _ _ k => ex_iload_n dX12_canOrder_0 rfl k) ?_
  refine Sx.o (fun _ _ _ k => ex_iload_n dX12_canOrder_1 rfl k) ?_
  refine Sx.bn (fun _ _ _ k1 k2 => ex_icmp_ne 10 dX12_canOrder_2 (by decide) k1 k2) (fun q => ?_) (fun q => ?_)
  · have hb1 := iq q hb
    refine Sx.o (fun _ _ _ k => op_iconst (2 : Int32) dX12_canOrder_10 (by decide) k) ?_
    refine Sx.o (L' := [.ref v0, .int v1, .int v2, .int (2 : Int32), .retAddr 0]) (fun _ _ _ k => ex_istore_n dX12_canOrder_11 (by decide) k) ?_
    exact (hg _ _ hb1).2.1 rfl
  · have hb2 := ip q hb
    refine Sx.o (fun _ _ _ k => ex_aload_n dX12_canOrder_5 rfl rfl k) ?_
    obtain ⟨x3, e_x3, hb4⟩ := ob2 hb2
    refine sx_callV (dc := 0) (as := []) (stq := [.int x3]) (by omega) dX12_canOrder_6 MX12_rises kX12_393 iX12_rises sX12_rises rfl rfl (Ref_rises_o e_x3) rfl rfl (Nat.le_of_ble_eq_true rfl) (Nat.le_of_ble_eq_true rfl) (Ref_rises_s e_x3) rfl ?_
    obtain ⟨u5, e_u5, hb6⟩ := ob2 hb4
    obtain rfl := Option.some.inj hb6
    exact Sx.r (fun _ _ _ k => ex_zret rfl (nrZ_n e_u5) dX12_canOrder_9 k)
set_option maxHeartbeats 1000000 in
set_option maxRecDepth 100000 in
theorem Ref_canOrder_12_t {g : (Nat × Nat × Int32 × Int32 × Int32 × Nat × am_H) → Option (Int32 × am_H)} (hg : ∀ s r, g s = some r → Ref_canOrderG_P s r) {dd : Nat} {v0 : Nat} {v1 : Int32} {v2 : Int32} {v3 : Int32} {h : am_H} {r : (Int32 × am_H)} (hb : Ref_canOrder_12_b g dd v0 v1 v2 v3 h = some r) : Sx (1 + dd) mX12_canOrder 12 [.ref v0, .int v1, .int v2, .int v3, .retAddr 0] [] h (some (.int r.1)) r.2 := by
  unfold Ref_canOrder_12_b at hb
  refine Sx.o (fun _ _ _ k => ex_iload_n dX12_canOrder_12 rfl k) ?_
  refine Sx.o (fun _ _ _ k => ex_aload_n dX12_canOrder_13 rfl rfl k) ?_
  obtain ⟨x7, e_x7, hb8⟩ := ob2 hb
  refine Sx.o (fun _ _ _ k => op_getI fX12_130 dX12_canOrder_14 e_x7 k) ?_
  refine Sx.b (fun _ _ _ k1 k2 => ex_icmp_gt 67 dX12_canOrder_17 (by decide) k1 k2) (fun q => ?_) (fun q => ?_)
  · have hb9 := ip q hb8
    refine Sx.o (fun _ _ _ k => op_iconst (0 : Int32) dX12_canOrder_67 (by decide) k) ?_
    obtain rfl := Option.some.inj hb9
    exact Sx.r (fun _ _ _ k => ex_zret rfl rfl dX12_canOrder_68 k)
  · have hb10 := iq q hb8
    refine Sx.o (fun _ _ _ k => ex_aload_n dX12_canOrder_20 rfl rfl k) ?_
    refine Sx.o (fun _ _ _ k => ex_iload_n dX12_canOrder_21 rfl k) ?_
    obtain ⟨h11, e_h11, hb12⟩ := ob2 hb10
    refine sx_callV (dc := 0) (as := [.int v3]) (stq := []) (by omega) dX12_canOrder_22 MX12_turns kX12_327 iX12_turns sX12_turns rfl rfl (Ref_turns_o e_h11) rfl rfl (Nat.le_of_ble_eq_true rfl) (Nat.le_of_ble_eq_true rfl) (Ref_turns_s e_h11) rfl ?_
    refine Sx.o (fun _ _ _ k => ex_aload_n dX12_canOrder_25 rfl rfl k) ?_
    obtain ⟨x14, e_x14, hb15⟩ := ob2 hb12
    refine Sx.o (fun _ _ _ k => op_getR fX12_86 dX12_canOrder_26 e_x14 k) ?_
    refine Sx.o (fun _ _ _ k => ex_iload_n dX12_canOrder_29 rfl k) ?_
    refine Sx.o (fun _ _ _ k => ex_iload_n dX12_canOrder_30 rfl k) ?_
    obtain ⟨h16, e_h16, hb17⟩ := ob2 hb15
    refine Sx.p (sI_q e_h16) (fun _ _ _ k => op_iast dX12_canOrder_31 e_h16 k) ?_
    refine Sx.o (fun _ _ _ k => ex_aload_n dX12_canOrder_32 rfl rfl k) ?_
    refine Sx.o (fun _ _ _ k => ex_iload_n dX12_canOrder_33 rfl k) ?_
    refine Sx.o (fun _ _ _ k => op_iconst (1 : Int32) dX12_canOrder_34 (by decide) k) ?_
    refine Sx.o (fun _ _ _ k => ex_iadd dX12_canOrder_35 k) ?_
    refine Sx.o (fun _ _ _ k => ex_iload_n dX12_canOrder_36 rfl k) ?_
    obtain ⟨r19, e_r19, hb20⟩ := ob2 hb17
    obtain ⟨hdd_r19, e_r19⟩ := iz e_r19
    refine sx_callV (dc := (1 + (dd - 1))) (as := [.int (v1 + (1 : Int32)), .int v2]) (stq := [.int r19.1]) (by omega) dX12_canOrder_37 MX12_canOrder kX12_428 iX12_canOrder sX12_canOrder rfl rfl ((fun e => ((hg _ _ e).1 rfl).1) e_r19) rfl rfl (Nat.le_of_ble_eq_true rfl) (Nat.le_of_ble_eq_true rfl) ((fun e => ((hg _ _ e).1 rfl).2) e_r19) rfl ?_
    refine Sx.o (L' := [.ref v0, .int v1, .int v2, .int v3, .int r19.1]) (fun _ _ _ k => ex_istore dX12_canOrder_40 (by decide) k) ?_
    refine Sx.o (fun _ _ _ k => ex_aload_n dX12_canOrder_42 rfl rfl k) ?_
    refine Sx.o (fun _ _ _ k => ex_iload_n dX12_canOrder_43 rfl k) ?_
    obtain ⟨h22, e_h22, hb23⟩ := ob2 hb20
    refine sx_callV (dc := 0) (as := [.int v3]) (stq := []) (by omega) dX12_canOrder_44 MX12_turns kX12_327 iX12_turns sX12_turns rfl rfl (Ref_turns_o e_h22) rfl rfl (Nat.le_of_ble_eq_true rfl) (Nat.le_of_ble_eq_true rfl) (Ref_turns_s e_h22) rfl ?_
    refine Sx.o (fun _ _ _ k => ex_iload dX12_canOrder_47 rfl k) ?_
    refine Sx.b (fun _ _ _ k1 k2 => ex_if_eq 61 dX12_canOrder_49 (by decide) k1 k2) (fun q => ?_) (fun q => ?_)
    · have hb25 := ip q hb23
      refine Sx.o (L' := [.ref v0, .int v1, .int v2, .int (v3 + (1 : Int32)), .int r19.1]) (fun _ _ _ k => op_iinc (1 : Int32) dX12_canOrder_61 (by decide) rfl (by decide) k) ?_
      refine Sx.o (fun _ _ _ k => ex_goto 12 dX12_canOrder_64 (by decide) k) ?_
      refine Sx.fg [true, true, true, true, false] ?_
      exact (hg _ _ hb25).2.1 rfl
    · have hb26 := iq q hb23
      refine Sx.o (fun _ _ _ k => ex_aload_n dX12_canOrder_52 rfl rfl k) ?_
      obtain ⟨x27, e_x27, hb28⟩ := ob2 hb26
      refine Sx.o (fun _ _ _ k => op_getR fX12_86 dX12_canOrder_53 e_x27 k) ?_
      refine Sx.o (fun _ _ _ k => ex_iload_n dX12_canOrder_56 rfl k) ?_
      refine Sx.o (fun _ _ _ k => ex_iload_n dX12_canOrder_57 rfl k) ?_
      obtain ⟨h29, e_h29, hb30⟩ := ob2 hb28
      refine Sx.p (sI_q e_h29) (fun _ _ _ k => op_iast dX12_canOrder_58 e_h29 k) ?_
      refine Sx.o (fun _ _ _ k => op_iconst (1 : Int32) dX12_canOrder_59 (by decide) k) ?_
      obtain rfl := Option.some.inj hb30
      exact Sx.r (fun _ _ _ k => ex_zret rfl rfl dX12_canOrder_60 k)
theorem Ref_canOrderG_T : ∀ s r, fx Ref_canOrderG_F Ref_canOrderG_M s = some r → Ref_canOrderG_P s r := fx_ind Ref_canOrderG_M Ref_canOrderG_P (fun g hg s r hb => by
  unfold Ref_canOrderG_F at hb
  exact ⟨fun q => Ref_canOrder_t hg (ip q hb), fun q => Ref_canOrder_12_t hg (ip q (iq (by rw [q]; decide) hb)), trivial⟩)
set_option maxHeartbeats 1000000 in
set_option maxRecDepth 100000 in
theorem Ref_canOrder_r {g : (Nat × Nat × Int32 × Int32 × Int32 × Nat × am_H) → Option (Int32 × am_H)} (hg : ∀ s r, g s = some r → Eqs s.2.2.2.2.2.2 r.2) {dd : Nat} {v0 : Nat} {v1 : Int32} {v2 : Int32} {h : am_H} {r : (Int32 × am_H)} (hb : Ref_canOrder_b g dd v0 v1 v2 h = some r) : Eqs h r.2 := by
  unfold Ref_canOrder_b at hb
  have w0 := Eqs.rf h
  obtain ⟨ho, hb⟩ := iz hb
  by_cases q : v1 = v2
  · have hb2 := ip q hb
    obtain ⟨x3, e_x3, hb4⟩ := ob2 hb2
    obtain ⟨u5, e_u5, hb6⟩ := ob2 hb4
    obtain rfl := Option.some.inj hb6
    exact w0
  · have hb1 := iq q hb
    exact w0.tr (hg _ _ hb1)
set_option maxHeartbeats 1000000 in
set_option maxRecDepth 100000 in
theorem Ref_canOrder_12_r {g : (Nat × Nat × Int32 × Int32 × Int32 × Nat × am_H) → Option (Int32 × am_H)} (hg : ∀ s r, g s = some r → Eqs s.2.2.2.2.2.2 r.2) {dd : Nat} {v0 : Nat} {v1 : Int32} {v2 : Int32} {v3 : Int32} {h : am_H} {r : (Int32 × am_H)} (hb : Ref_canOrder_12_b g dd v0 v1 v2 v3 h = some r) : Eqs h r.2 := by
  unfold Ref_canOrder_12_b at hb
  have w0 := Eqs.rf h
  obtain ⟨x7, e_x7, hb8⟩ := ob2 hb
  by_cases q : x7 < v3
  · have hb9 := ip q hb8
    obtain rfl := Option.some.inj hb9
    exact w0
  · have hb10 := iq q hb8
    obtain ⟨h11, e_h11, hb12⟩ := ob2 hb10
    have w13 := w0.tr (Ref_turns_q e_h11)
    obtain ⟨x14, e_x14, hb15⟩ := ob2 hb12
    obtain ⟨h16, e_h16, hb17⟩ := ob2 hb15
    have w18 := w13.tr (sI_q e_h16)
    obtain ⟨r19, e_r19, hb20⟩ := ob2 hb17
    obtain ⟨hdd_r19, e_r19⟩ := iz e_r19
    have w21 := w18.tr (hg _ _ e_r19)
    obtain ⟨h22, e_h22, hb23⟩ := ob2 hb20
    have w24 := w21.tr (Ref_turns_q e_h22)
    by_cases q : r19.1 = (0 : Int32)
    · have hb25 := ip q hb23
      exact w24.tr (hg _ _ hb25)
    · have hb26 := iq q hb23
      obtain ⟨x27, e_x27, hb28⟩ := ob2 hb26
      obtain ⟨h29, e_h29, hb30⟩ := ob2 hb28
      have w31 := w24.tr (sI_q e_h29)
      obtain rfl := Option.some.inj hb30
      exact w31
theorem Ref_canOrderG_Q : ∀ s r, fx Ref_canOrderG_F Ref_canOrderG_M s = some r → Eqs s.2.2.2.2.2.2 r.2 := fx_ind Ref_canOrderG_M (fun s r => Eqs s.2.2.2.2.2.2 r.2) (fun g hg s r hb => by
  unfold Ref_canOrderG_F at hb
  by_cases q0 : s.1 = 0
  · exact Ref_canOrder_r hg (ip q0 hb)
  · have hb0 := iq q0 hb
    by_cases q1 : s.1 = 12
    · exact Ref_canOrder_12_r hg (ip q1 hb0)
    · have hb1 := iq q1 hb0
      exact nomatch hb1)
noncomputable def Ref_canOrder (dd : Nat) (v0 : Nat) (v1 : Int32) (v2 : Int32) (h : am_H) : Option (Int32 × am_H) := fx Ref_canOrderG_F Ref_canOrderG_M (0, dd, v1, v2, 0, v0, h)
noncomputable def Ref_canOrder_12 (dd : Nat) (v0 : Nat) (v1 : Int32) (v2 : Int32) (v3 : Int32) (h : am_H) : Option (Int32 × am_H) := fx Ref_canOrderG_F Ref_canOrderG_M (12, dd, v1, v2, v3, v0, h)
set_option maxHeartbeats 1000000 in
set_option maxRecDepth 100000 in
theorem Ref_canOrder_e (dd : Nat) (v0 : Nat) (v1 : Int32) (v2 : Int32) (h : am_H) : Ref_canOrder dd v0 v1 v2 h = (if isO h 12 v0 = true then if v1 = v2 then (Ref_rises v0 h).bind fun x3 => (nrZ x3).bind fun u5 => some (x3, h) else Ref_canOrder_12 dd v0 v1 v2 (2 : Int32) h else none) := (fx_eq Ref_canOrderG_M (0, dd, v1, v2, 0, v0, h)).trans (if_pos rfl)
theorem Ref_canOrder_q {dd : Nat} {v0 : Nat} {v1 : Int32} {v2 : Int32} {h : am_H} {r : (Int32 × am_H)} (hb : Ref_canOrder dd v0 v1 v2 h = some r) : Eqs h r.2 := Ref_canOrderG_Q _ _ hb
theorem Ref_canOrder_s {dd : Nat} {v0 : Nat} {v1 : Int32} {v2 : Int32} {h : am_H} {r : (Int32 × am_H)} (hb : Ref_canOrder dd v0 v1 v2 h = some r) : Sx (1 + dd) mX12_canOrder 0 (am_en [.ref v0, .int v1, .int v2] 5) [] h (some (.int r.1)) r.2 := ((Ref_canOrderG_T _ _ hb).1 rfl).2
theorem Ref_canOrder_o {dd : Nat} {v0 : Nat} {v1 : Int32} {v2 : Int32} {h : am_H} {r : (Int32 × am_H)} (hb : Ref_canOrder dd v0 v1 v2 h = some r) : isO h 12 v0 = true := ((Ref_canOrderG_T _ _ hb).1 rfl).1
set_option maxHeartbeats 1000000 in
set_option maxRecDepth 100000 in
theorem Ref_canOrder_12_e (dd : Nat) (v0 : Nat) (v1 : Int32) (v2 : Int32) (v3 : Int32) (h : am_H) : Ref_canOrder_12 dd v0 v1 v2 v3 h = ((gI h 12 v0 31).bind fun x7 => if x7 < v3 then some ((0 : Int32), h) else (Ref_turns v0 v3 h).bind fun h11 => (gR h11 12 v0 45).bind fun x14 => (sI h11 x14 v1 v3).bind fun h16 => (if 0 < dd then Ref_canOrder (dd - 1) v0 (v1 + (1 : Int32)) v2 h16 else none).bind fun r19 => (Ref_turns v0 v3 r19.2).bind fun h22 => if r19.1 = (0 : Int32) then Ref_canOrder_12 dd v0 v1 v2 (v3 + (1 : Int32)) h22 else (gR h22 12 v0 45).bind fun x27 => (sI h22 x27 v1 v3).bind fun h29 => some ((1 : Int32), h29)) := (fx_eq Ref_canOrderG_M (12, dd, v1, v2, v3, v0, h)).trans ((if_neg (show ¬ (12 : Nat) = 0 by decide)).trans (if_pos rfl))
theorem Ref_canOrder_12_q {dd : Nat} {v0 : Nat} {v1 : Int32} {v2 : Int32} {v3 : Int32} {h : am_H} {r : (Int32 × am_H)} (hb : Ref_canOrder_12 dd v0 v1 v2 v3 h = some r) : Eqs h r.2 := Ref_canOrderG_Q _ _ hb
theorem Ref_canOrder_12_s {dd : Nat} {v0 : Nat} {v1 : Int32} {v2 : Int32} {v3 : Int32} {h : am_H} {r : (Int32 × am_H)} (hb : Ref_canOrder_12 dd v0 v1 v2 v3 h = some r) : Sx (1 + dd) mX12_canOrder 12 [.ref v0, .int v1, .int v2, .int v3, .retAddr 0] [] h (some (.int r.1)) r.2 := (Ref_canOrderG_T _ _ hb).2.1 rfl
set_option maxHeartbeats 1000000 in
set_option maxRecDepth 100000 in
noncomputable def Ref_endsBehind_2_b (g : (Nat × Int32 × Nat × am_H) → Option (Int32 × am_H)) (v0 : Nat) (v1 : Int32) (h : am_H) : Option (Int32 × am_H) := (gR h 12 v0 2).bind fun x1 => (aI h 0 x1 (114 : Int32)).bind fun x3 => if x3 < v1 then some ((-1 : Int32), h) else (Ref_hasEnded v0 h).bind fun r7 => if r7.1 = (0 : Int32) then (Ref_isStuck v0 r7.2).bind fun r12 => if r12.1 = (0 : Int32) then (gR r12.2 12 v0 2).bind fun x17 => (aI r12.2 0 x17 (114 : Int32)).bind fun x19 => if v1 = x19 then some ((-1 : Int32), r12.2) else (Ref_steps v0 r12.2).bind fun h23 => g (2, (v1 + (1 : Int32)), v0, h23) else some ((-1 : Int32), r12.2) else some (v1, r7.2)
set_option maxHeartbeats 1000000 in
set_option maxRecDepth 100000 in
theorem Ref_endsBehind_2_m {g g2 : (Nat × Int32 × Nat × am_H) → Option (Int32 × am_H)} (hg : ∀ s, Le (g s) (g2 s)) (v0 : Nat) (v1 : Int32) (h : am_H) : Le (Ref_endsBehind_2_b g v0 v1 h) (Ref_endsBehind_2_b g2 v0 v1 h) := by unfold Ref_endsBehind_2_b; exact le_b (le_r _) fun x1 => le_b (le_r _) fun x3 => le_i (le_r _) (le_b (le_r _) fun r7 => le_i (le_b (le_r _) fun r12 => le_i (le_b (le_r _) fun x17 => le_b (le_r _) fun x19 => le_i (le_r _) (le_b (le_r _) fun h23 => hg _)) (le_r _)) (le_r _))
noncomputable def Ref_endsBehind_2_F (g : (Nat × Int32 × Nat × am_H) → Option (Int32 × am_H)) (s : (Nat × Int32 × Nat × am_H)) : Option (Int32 × am_H) := if s.1 = 2 then Ref_endsBehind_2_b g s.2.2.1 s.2.1 s.2.2.2 else none
theorem Ref_endsBehind_2_M : Mn Ref_endsBehind_2_F := fun g g2 hg s => by unfold Ref_endsBehind_2_F; exact le_i (Ref_endsBehind_2_m hg s.2.2.1 s.2.1 s.2.2.2) (le_r _)
def Ref_endsBehind_2_P (s : (Nat × Int32 × Nat × am_H)) (r : (Int32 × am_H)) : Prop := (s.1 = 2 → Sx 88 mX12_endsBehind 2 [.ref s.2.2.1, .int s.2.1] [] s.2.2.2 (some (.int r.1)) r.2) ∧ True
set_option maxHeartbeats 1000000 in
set_option maxRecDepth 100000 in
theorem Ref_endsBehind_2_t {g : (Nat × Int32 × Nat × am_H) → Option (Int32 × am_H)} (hg : ∀ s r, g s = some r → Ref_endsBehind_2_P s r) {v0 : Nat} {v1 : Int32} {h : am_H} {r : (Int32 × am_H)} (hb : Ref_endsBehind_2_b g v0 v1 h = some r) : Sx 88 mX12_endsBehind 2 [.ref v0, .int v1] [] h (some (.int r.1)) r.2 := by
  unfold Ref_endsBehind_2_b at hb
  refine Sx.o (fun _ _ _ k => ex_iload_n dX12_endsBehind_2 rfl k) ?_
  refine Sx.o (fun _ _ _ k => ex_aload_n dX12_endsBehind_3 rfl rfl k) ?_
  obtain ⟨x1, e_x1, hb2⟩ := ob2 hb
  refine Sx.o (fun _ _ _ k => op_getR fX12_24 dX12_endsBehind_4 e_x1 k) ?_
  refine Sx.o (fun _ _ _ k => op_bipush (114 : Int32) dX12_endsBehind_7 (by decide) k) ?_
  obtain ⟨x3, e_x3, hb4⟩ := ob2 hb2
  refine Sx.o (fun _ _ _ k => op_iald dX12_endsBehind_9 e_x3 k) ?_
  refine Sx.b (fun _ _ _ k1 k2 => ex_icmp_gt 52 dX12_endsBehind_10 (by decide) k1 k2) (fun q => ?_) (fun q => ?_)
  · have hb5 := ip q hb4
    refine Sx.o (fun _ _ _ k => op_iconst (-1 : Int32) dX12_endsBehind_52 (by decide) k) ?_
    obtain rfl := Option.some.inj hb5
    exact Sx.r (fun _ _ _ k => ex_iret rfl dX12_endsBehind_53 k)
  · have hb6 := iq q hb4
    refine Sx.o (fun _ _ _ k => ex_aload_n dX12_endsBehind_13 rfl rfl k) ?_
    obtain ⟨r7, e_r7, hb8⟩ := ob2 hb6
    refine sx_callV (dc := 86) (as := []) (stq := [.int r7.1]) (by omega) dX12_endsBehind_14 MX12_hasEnded kX12_136 iX12_hasEnded sX12_hasEnded rfl rfl (Ref_hasEnded_o e_r7) rfl rfl (Nat.le_of_ble_eq_true rfl) (Nat.le_of_ble_eq_true rfl) (Ref_hasEnded_s e_r7) rfl ?_
    refine Sx.b (fun _ _ _ k1 k2 => ex_if_eq 22 dX12_endsBehind_17 (by decide) k1 k2) (fun q => ?_) (fun q => ?_)
    · have hb10 := ip q hb8
      refine Sx.o (fun _ _ _ k => ex_aload_n dX12_endsBehind_22 rfl rfl k) ?_
      obtain ⟨r12, e_r12, hb13⟩ := ob2 hb10
      refine sx_callV (dc := 87) (as := []) (stq := [.int r12.1]) (by omega) dX12_endsBehind_23 MX12_isStuck kX12_140 iX12_isStuck sX12_isStuck rfl rfl (Ref_isStuck_o e_r12) rfl rfl (Nat.le_of_ble_eq_true rfl) (Nat.le_of_ble_eq_true rfl) (Ref_isStuck_s e_r12) rfl ?_
      refine Sx.bn (fun _ _ _ k1 k2 => ex_if_ne 40 dX12_endsBehind_26 (by decide) k1 k2) (fun q => ?_) (fun q => ?_)
      · have hb15 := iq q hb13
        refine Sx.o (fun _ _ _ k => op_iconst (-1 : Int32) dX12_endsBehind_40 (by decide) k) ?_
        obtain rfl := Option.some.inj hb15
        exact Sx.r (fun _ _ _ k => ex_iret rfl dX12_endsBehind_41 k)
      · have hb16 := ip q hb13
        refine Sx.o (fun _ _ _ k => ex_iload_n dX12_endsBehind_29 rfl k) ?_
        refine Sx.o (fun _ _ _ k => ex_aload_n dX12_endsBehind_30 rfl rfl k) ?_
        obtain ⟨x17, e_x17, hb18⟩ := ob2 hb16
        refine Sx.o (fun _ _ _ k => op_getR fX12_24 dX12_endsBehind_31 e_x17 k) ?_
        refine Sx.o (fun _ _ _ k => op_bipush (114 : Int32) dX12_endsBehind_34 (by decide) k) ?_
        obtain ⟨x19, e_x19, hb20⟩ := ob2 hb18
        refine Sx.o (fun _ _ _ k => op_iald dX12_endsBehind_36 e_x19 k) ?_
        refine Sx.bn (fun _ _ _ k1 k2 => ex_icmp_ne 42 dX12_endsBehind_37 (by decide) k1 k2) (fun q => ?_) (fun q => ?_)
        · have hb21 := iq q hb20
          refine Sx.o (fun _ _ _ k => ex_aload_n dX12_endsBehind_42 rfl rfl k) ?_
          obtain ⟨h23, e_h23, hb24⟩ := ob2 hb21
          refine sx_callV (dc := 87) (as := []) (stq := []) (by omega) dX12_endsBehind_43 MX12_steps kX12_343 iX12_steps sX12_steps rfl rfl (Ref_steps_o e_h23) rfl rfl (Nat.le_of_ble_eq_true rfl) (Nat.le_of_ble_eq_true rfl) (Ref_steps_s e_h23) rfl ?_
          refine Sx.o (L' := [.ref v0, .int (v1 + (1 : Int32))]) (fun _ _ _ k => op_iinc (1 : Int32) dX12_endsBehind_46 (by decide) rfl (by decide) k) ?_
          refine Sx.o (fun _ _ _ k => ex_goto 2 dX12_endsBehind_49 (by decide) k) ?_
          exact (hg _ _ hb24).1 rfl
        · have hb22 := ip q hb20
          refine Sx.o (fun _ _ _ k => op_iconst (-1 : Int32) dX12_endsBehind_40 (by decide) k) ?_
          obtain rfl := Option.some.inj hb22
          exact Sx.r (fun _ _ _ k => ex_iret rfl dX12_endsBehind_41 k)
    · have hb11 := iq q hb8
      refine Sx.o (fun _ _ _ k => ex_iload_n dX12_endsBehind_20 rfl k) ?_
      obtain rfl := Option.some.inj hb11
      exact Sx.r (fun _ _ _ k => ex_iret rfl dX12_endsBehind_21 k)
theorem Ref_endsBehind_2_T : ∀ s r, fx Ref_endsBehind_2_F Ref_endsBehind_2_M s = some r → Ref_endsBehind_2_P s r := fx_ind Ref_endsBehind_2_M Ref_endsBehind_2_P (fun g hg s r hb => by
  unfold Ref_endsBehind_2_F at hb
  exact ⟨fun q => Ref_endsBehind_2_t hg (ip q hb), trivial⟩)
set_option maxHeartbeats 1000000 in
set_option maxRecDepth 100000 in
theorem Ref_endsBehind_2_r {g : (Nat × Int32 × Nat × am_H) → Option (Int32 × am_H)} (hg : ∀ s r, g s = some r → Eqs s.2.2.2 r.2) {v0 : Nat} {v1 : Int32} {h : am_H} {r : (Int32 × am_H)} (hb : Ref_endsBehind_2_b g v0 v1 h = some r) : Eqs h r.2 := by
  unfold Ref_endsBehind_2_b at hb
  have w0 := Eqs.rf h
  obtain ⟨x1, e_x1, hb2⟩ := ob2 hb
  obtain ⟨x3, e_x3, hb4⟩ := ob2 hb2
  by_cases q : x3 < v1
  · have hb5 := ip q hb4
    obtain rfl := Option.some.inj hb5
    exact w0
  · have hb6 := iq q hb4
    obtain ⟨r7, e_r7, hb8⟩ := ob2 hb6
    have w9 := w0.tr (Ref_hasEnded_q e_r7)
    by_cases q : r7.1 = (0 : Int32)
    · have hb10 := ip q hb8
      obtain ⟨r12, e_r12, hb13⟩ := ob2 hb10
      have w14 := w9.tr (Ref_isStuck_q e_r12)
      by_cases q : r12.1 = (0 : Int32)
      · have hb16 := ip q hb13
        obtain ⟨x17, e_x17, hb18⟩ := ob2 hb16
        obtain ⟨x19, e_x19, hb20⟩ := ob2 hb18
        by_cases q : v1 = x19
        · have hb22 := ip q hb20
          obtain rfl := Option.some.inj hb22
          exact w14
        · have hb21 := iq q hb20
          obtain ⟨h23, e_h23, hb24⟩ := ob2 hb21
          have w25 := w14.tr (Ref_steps_q e_h23)
          exact w25.tr (hg _ _ hb24)
      · have hb15 := iq q hb13
        obtain rfl := Option.some.inj hb15
        exact w14
    · have hb11 := iq q hb8
      obtain rfl := Option.some.inj hb11
      exact w9
theorem Ref_endsBehind_2_Q : ∀ s r, fx Ref_endsBehind_2_F Ref_endsBehind_2_M s = some r → Eqs s.2.2.2 r.2 := fx_ind Ref_endsBehind_2_M (fun s r => Eqs s.2.2.2 r.2) (fun g hg s r hb => by
  unfold Ref_endsBehind_2_F at hb
  by_cases q0 : s.1 = 2
  · exact Ref_endsBehind_2_r hg (ip q0 hb)
  · have hb0 := iq q0 hb
    exact nomatch hb0)
noncomputable def Ref_endsBehind_2 (v0 : Nat) (v1 : Int32) (h : am_H) : Option (Int32 × am_H) := fx Ref_endsBehind_2_F Ref_endsBehind_2_M (2, v1, v0, h)
set_option maxHeartbeats 1000000 in
set_option maxRecDepth 100000 in
theorem Ref_endsBehind_2_e (v0 : Nat) (v1 : Int32) (h : am_H) : Ref_endsBehind_2 v0 v1 h = ((gR h 12 v0 2).bind fun x1 => (aI h 0 x1 (114 : Int32)).bind fun x3 => if x3 < v1 then some ((-1 : Int32), h) else (Ref_hasEnded v0 h).bind fun r7 => if r7.1 = (0 : Int32) then (Ref_isStuck v0 r7.2).bind fun r12 => if r12.1 = (0 : Int32) then (gR r12.2 12 v0 2).bind fun x17 => (aI r12.2 0 x17 (114 : Int32)).bind fun x19 => if v1 = x19 then some ((-1 : Int32), r12.2) else (Ref_steps v0 r12.2).bind fun h23 => Ref_endsBehind_2 v0 (v1 + (1 : Int32)) h23 else some ((-1 : Int32), r12.2) else some (v1, r7.2)) := (fx_eq Ref_endsBehind_2_M (2, v1, v0, h)).trans (if_pos rfl)
theorem Ref_endsBehind_2_q {v0 : Nat} {v1 : Int32} {h : am_H} {r : (Int32 × am_H)} (hb : Ref_endsBehind_2 v0 v1 h = some r) : Eqs h r.2 := Ref_endsBehind_2_Q _ _ hb
theorem Ref_endsBehind_2_s {v0 : Nat} {v1 : Int32} {h : am_H} {r : (Int32 × am_H)} (hb : Ref_endsBehind_2 v0 v1 h = some r) : Sx 88 mX12_endsBehind 2 [.ref v0, .int v1] [] h (some (.int r.1)) r.2 := (Ref_endsBehind_2_T _ _ hb).1 rfl
set_option maxHeartbeats 1000000 in
set_option maxRecDepth 100000 in
noncomputable def Ref_endsBehind (v0 : Nat) (h : am_H) : Option (Int32 × am_H) := if isO h 12 v0 = true then Ref_endsBehind_2 v0 (0 : Int32) h else none
set_option maxHeartbeats 1000000 in
set_option maxRecDepth 100000 in
theorem Ref_endsBehind_s {v0 : Nat} {h : am_H} {r : (Int32 × am_H)} (hb : Ref_endsBehind v0 h = some r) : Sx 88 mX12_endsBehind 0 (am_en [.ref v0] 2) [] h (some (.int r.1)) r.2 := by
  unfold Ref_endsBehind at hb
  have hb := (iz hb).2
  show Sx 88 mX12_endsBehind 0 [.ref v0, .retAddr 0] [] h (some (.int r.1)) r.2
  refine Sx.o (fun _ _ _ k => op_iconst (0 : Int32) dX12_endsBehind_0 (by decide) k) ?_
  refine Sx.o (L' := [.ref v0, .int (0 : Int32)]) (fun _ _ _ k => ex_istore_n dX12_endsBehind_1 (by decide) k) ?_
  exact Ref_endsBehind_2_s hb
set_option maxHeartbeats 1000000 in
set_option maxRecDepth 100000 in
theorem Ref_endsBehind_q {v0 : Nat} {h : am_H} {r : (Int32 × am_H)} (hb : Ref_endsBehind v0 h = some r) : Eqs h r.2 := by
  unfold Ref_endsBehind at hb
  have hb := (iz hb).2
  have w0 := Eqs.rf h
  exact w0.tr (Ref_endsBehind_2_q hb)
theorem Ref_endsBehind_o {v0 : Nat} {h : am_H} {r : (Int32 × am_H)} (hb : Ref_endsBehind v0 h = some r) : isO h 12 v0 = true := by
  unfold Ref_endsBehind at hb
  exact (iz hb).1
set_option maxHeartbeats 1000000 in
set_option maxRecDepth 100000 in
noncomputable def Ref_endsSwapped (v0 : Nat) (v1 : Int32) (v2 : Int32) (v3 : Int32) (h : am_H) : Option (Int32 × am_H) := if isO h 12 v0 = true then (Ref_cardOf v0 v1 v2 h).bind fun x1 => (Ref_cardOf v0 v1 v3 h).bind fun x3 => if x1 = x3 then some ((-1 : Int32), h) else (Ref_takes v0 v1 h).bind fun h7 => (gR h7 12 v0 29).bind fun x10 => (Ref_cardOf v0 v1 v3 h7).bind fun x12 => (sI h7 x10 v2 x12).bind fun h14 => (gR h14 12 v0 29).bind fun x17 => (Ref_cardOf v0 v1 v2 h14).bind fun x19 => (sI h14 x17 v3 x19).bind fun h21 => (Ref_endsBehind v0 h21).bind fun r24 => some (r24.1, r24.2) else none
set_option maxHeartbeats 1000000 in
set_option maxRecDepth 100000 in
theorem Ref_endsSwapped_s {v0 : Nat} {v1 : Int32} {v2 : Int32} {v3 : Int32} {h : am_H} {r : (Int32 × am_H)} (hb : Ref_endsSwapped v0 v1 v2 v3 h = some r) : Sx 89 mX12_endsSwapped 0 (am_en [.ref v0, .int v1, .int v2, .int v3] 4) [] h (some (.int r.1)) r.2 := by
  unfold Ref_endsSwapped at hb
  have hb := (iz hb).2
  show Sx 89 mX12_endsSwapped 0 [.ref v0, .int v1, .int v2, .int v3] [] h (some (.int r.1)) r.2
  refine Sx.o (fun _ _ _ k => ex_aload_n dX12_endsSwapped_0 rfl rfl k) ?_
  refine Sx.o (fun _ _ _ k => ex_iload_n dX12_endsSwapped_1 rfl k) ?_
  refine Sx.o (fun _ _ _ k => ex_iload_n dX12_endsSwapped_2 rfl k) ?_
  obtain ⟨x1, e_x1, hb2⟩ := ob2 hb
  refine sx_callV (dc := 1) (as := [.int v1, .int v2]) (stq := [.int x1]) (by omega) dX12_endsSwapped_3 MX12_cardOf kX12_280 iX12_cardOf sX12_cardOf rfl rfl (Ref_cardOf_o e_x1) rfl rfl (Nat.le_of_ble_eq_true rfl) (Nat.le_of_ble_eq_true rfl) (Ref_cardOf_s e_x1) rfl ?_
  refine Sx.o (fun _ _ _ k => ex_aload_n dX12_endsSwapped_6 rfl rfl k) ?_
  refine Sx.o (fun _ _ _ k => ex_iload_n dX12_endsSwapped_7 rfl k) ?_
  refine Sx.o (fun _ _ _ k => ex_iload_n dX12_endsSwapped_8 rfl k) ?_
  obtain ⟨x3, e_x3, hb4⟩ := ob2 hb2
  refine sx_callV (dc := 1) (as := [.int v1, .int v3]) (stq := [.int x3, .int x1]) (by omega) dX12_endsSwapped_9 MX12_cardOf kX12_280 iX12_cardOf sX12_cardOf rfl rfl (Ref_cardOf_o e_x3) rfl rfl (Nat.le_of_ble_eq_true rfl) (Nat.le_of_ble_eq_true rfl) (Ref_cardOf_s e_x3) rfl ?_
  refine Sx.bn (fun _ _ _ k1 k2 => ex_icmp_ne 17 dX12_endsSwapped_12 (by decide) k1 k2) (fun q => ?_) (fun q => ?_)
  · have hb5 := iq q hb4
    refine Sx.o (fun _ _ _ k => ex_aload_n dX12_endsSwapped_17 rfl rfl k) ?_
    refine Sx.o (fun _ _ _ k => ex_iload_n dX12_endsSwapped_18 rfl k) ?_
    obtain ⟨h7, e_h7, hb8⟩ := ob2 hb5
    refine sx_callV (dc := 2) (as := [.int v1]) (stq := []) (by omega) dX12_endsSwapped_19 MX12_takes kX12_126 iX12_takes sX12_takes rfl rfl (Ref_takes_o e_h7) rfl rfl (Nat.le_of_ble_eq_true rfl) (Nat.le_of_ble_eq_true rfl) (Ref_takes_s e_h7) rfl ?_
    refine Sx.o (fun _ _ _ k => ex_aload_n dX12_endsSwapped_22 rfl rfl k) ?_
    obtain ⟨x10, e_x10, hb11⟩ := ob2 hb8
    refine Sx.o (fun _ _ _ k => op_getR fX12_65 dX12_endsSwapped_23 e_x10 k) ?_
    refine Sx.o (fun _ _ _ k => ex_iload_n dX12_endsSwapped_26 rfl k) ?_
    refine Sx.o (fun _ _ _ k => ex_aload_n dX12_endsSwapped_27 rfl rfl k) ?_
    refine Sx.o (fun _ _ _ k => ex_iload_n dX12_endsSwapped_28 rfl k) ?_
    refine Sx.o (fun _ _ _ k => ex_iload_n dX12_endsSwapped_29 rfl k) ?_
    obtain ⟨x12, e_x12, hb13⟩ := ob2 hb11
    refine sx_callV (dc := 1) (as := [.int v1, .int v3]) (stq := [.int x12, .int v2, .ref x10]) (by omega) dX12_endsSwapped_30 MX12_cardOf kX12_280 iX12_cardOf sX12_cardOf rfl rfl (Ref_cardOf_o e_x12) rfl rfl (Nat.le_of_ble_eq_true rfl) (Nat.le_of_ble_eq_true rfl) (Ref_cardOf_s e_x12) rfl ?_
    obtain ⟨h14, e_h14, hb15⟩ := ob2 hb13
    refine Sx.p (sI_q e_h14) (fun _ _ _ k => op_iast dX12_endsSwapped_33 e_h14 k) ?_
    refine Sx.o (fun _ _ _ k => ex_aload_n dX12_endsSwapped_34 rfl rfl k) ?_
    obtain ⟨x17, e_x17, hb18⟩ := ob2 hb15
    refine Sx.o (fun _ _ _ k => op_getR fX12_65 dX12_endsSwapped_35 e_x17 k) ?_
    refine Sx.o (fun _ _ _ k => ex_iload_n dX12_endsSwapped_38 rfl k) ?_
    refine Sx.o (fun _ _ _ k => ex_aload_n dX12_endsSwapped_39 rfl rfl k) ?_
    refine Sx.o (fun _ _ _ k => ex_iload_n dX12_endsSwapped_40 rfl k) ?_
    refine Sx.o (fun _ _ _ k => ex_iload_n dX12_endsSwapped_41 rfl k) ?_
    obtain ⟨x19, e_x19, hb20⟩ := ob2 hb18
    refine sx_callV (dc := 1) (as := [.int v1, .int v2]) (stq := [.int x19, .int v3, .ref x17]) (by omega) dX12_endsSwapped_42 MX12_cardOf kX12_280 iX12_cardOf sX12_cardOf rfl rfl (Ref_cardOf_o e_x19) rfl rfl (Nat.le_of_ble_eq_true rfl) (Nat.le_of_ble_eq_true rfl) (Ref_cardOf_s e_x19) rfl ?_
    obtain ⟨h21, e_h21, hb22⟩ := ob2 hb20
    refine Sx.p (sI_q e_h21) (fun _ _ _ k => op_iast dX12_endsSwapped_45 e_h21 k) ?_
    refine Sx.o (fun _ _ _ k => ex_aload_n dX12_endsSwapped_46 rfl rfl k) ?_
    obtain ⟨r24, e_r24, hb25⟩ := ob2 hb22
    refine sx_callV (dc := 88) (as := []) (stq := [.int r24.1]) (by omega) dX12_endsSwapped_47 MX12_endsBehind kX12_353 iX12_endsBehind sX12_endsBehind rfl rfl (Ref_endsBehind_o e_r24) rfl rfl (Nat.le_of_ble_eq_true rfl) (Nat.le_of_ble_eq_true rfl) (Ref_endsBehind_s e_r24) rfl ?_
    obtain rfl := Option.some.inj hb25
    exact Sx.r (fun _ _ _ k => ex_iret rfl dX12_endsSwapped_50 k)
  · have hb6 := ip q hb4
    refine Sx.o (fun _ _ _ k => op_iconst (-1 : Int32) dX12_endsSwapped_15 (by decide) k) ?_
    obtain rfl := Option.some.inj hb6
    exact Sx.r (fun _ _ _ k => ex_iret rfl dX12_endsSwapped_16 k)
set_option maxHeartbeats 1000000 in
set_option maxRecDepth 100000 in
theorem Ref_endsSwapped_q {v0 : Nat} {v1 : Int32} {v2 : Int32} {v3 : Int32} {h : am_H} {r : (Int32 × am_H)} (hb : Ref_endsSwapped v0 v1 v2 v3 h = some r) : Eqs h r.2 := by
  unfold Ref_endsSwapped at hb
  have hb := (iz hb).2
  have w0 := Eqs.rf h
  obtain ⟨x1, e_x1, hb2⟩ := ob2 hb
  obtain ⟨x3, e_x3, hb4⟩ := ob2 hb2
  by_cases q : x1 = x3
  · have hb6 := ip q hb4
    obtain rfl := Option.some.inj hb6
    exact w0
  · have hb5 := iq q hb4
    obtain ⟨h7, e_h7, hb8⟩ := ob2 hb5
    have w9 := w0.tr (Ref_takes_q e_h7)
    obtain ⟨x10, e_x10, hb11⟩ := ob2 hb8
    obtain ⟨x12, e_x12, hb13⟩ := ob2 hb11
    obtain ⟨h14, e_h14, hb15⟩ := ob2 hb13
    have w16 := w9.tr (sI_q e_h14)
    obtain ⟨x17, e_x17, hb18⟩ := ob2 hb15
    obtain ⟨x19, e_x19, hb20⟩ := ob2 hb18
    obtain ⟨h21, e_h21, hb22⟩ := ob2 hb20
    have w23 := w16.tr (sI_q e_h21)
    obtain ⟨r24, e_r24, hb25⟩ := ob2 hb22
    have w26 := w23.tr (Ref_endsBehind_q e_r24)
    obtain rfl := Option.some.inj hb25
    exact w26
theorem Ref_endsSwapped_o {v0 : Nat} {v1 : Int32} {v2 : Int32} {v3 : Int32} {h : am_H} {r : (Int32 × am_H)} (hb : Ref_endsSwapped v0 v1 v2 v3 h = some r) : isO h 12 v0 = true := by
  unfold Ref_endsSwapped at hb
  exact (iz hb).1
set_option maxHeartbeats 1000000 in
set_option maxRecDepth 100000 in
noncomputable def Ref_cheat_30_b (g : (Nat × Int32 × Int32 × Int32 × Int32 × Int32 × Int32 × Int32 × Nat × am_H) → Option (Int32 × am_H)) (v0 : Nat) (v1 : Int32) (v2 : Int32) (v3 : Int32) (v4 : Int32) (v5 : Int32) (v6 : Int32) (h : am_H) : Option (Int32 × am_H) := (Ref_manyIn v0 v1 h).bind fun x1 => if x1 ≤ v6 then if v3 = (-1 : Int32) then some (v3, h) else if v2 = (0 : Int32) then some (v3, h) else if v2 = (1 : Int32) then some (v4, h) else some (v5, h) else g (46, v1, v2, v3, v4, v5, v6, (v6 + (1 : Int32)), v0, h)
set_option maxHeartbeats 1000000 in
set_option maxRecDepth 100000 in
theorem Ref_cheat_30_m {g g2 : (Nat × Int32 × Int32 × Int32 × Int32 × Int32 × Int32 × Int32 × Nat × am_H) → Option (Int32 × am_H)} (hg : ∀ s, Le (g s) (g2 s)) (v0 : Nat) (v1 : Int32) (v2 : Int32) (v3 : Int32) (v4 : Int32) (v5 : Int32) (v6 : Int32) (h : am_H) : Le (Ref_cheat_30_b g v0 v1 v2 v3 v4 v5 v6 h) (Ref_cheat_30_b g2 v0 v1 v2 v3 v4 v5 v6 h) := by unfold Ref_cheat_30_b; exact le_b (le_r _) fun x1 => le_i (le_r _) (hg _)
set_option maxHeartbeats 1000000 in
set_option maxRecDepth 100000 in
noncomputable def Ref_cheat_46_b (g : (Nat × Int32 × Int32 × Int32 × Int32 × Int32 × Int32 × Int32 × Nat × am_H) → Option (Int32 × am_H)) (v0 : Nat) (v1 : Int32) (v2 : Int32) (v3 : Int32) (v4 : Int32) (v5 : Int32) (v6 : Int32) (v7 : Int32) (h : am_H) : Option (Int32 × am_H) := (Ref_manyIn v0 v1 h).bind fun x11 => if x11 ≤ v7 then g (30, v1, v2, v3, v4, v5, (v6 + (1 : Int32)), 0, v0, h) else (Ref_endsSwapped v0 v1 v6 v7 h).bind fun r15 => if v3 < r15.1 then g (87, v1, v2, r15.1, v6, v7, v6, v7, v0, r15.2) else g (87, v1, v2, v3, v4, v5, v6, v7, v0, r15.2)
set_option maxHeartbeats 1000000 in
set_option maxRecDepth 100000 in
theorem Ref_cheat_46_m {g g2 : (Nat × Int32 × Int32 × Int32 × Int32 × Int32 × Int32 × Int32 × Nat × am_H) → Option (Int32 × am_H)} (hg : ∀ s, Le (g s) (g2 s)) (v0 : Nat) (v1 : Int32) (v2 : Int32) (v3 : Int32) (v4 : Int32) (v5 : Int32) (v6 : Int32) (v7 : Int32) (h : am_H) : Le (Ref_cheat_46_b g v0 v1 v2 v3 v4 v5 v6 v7 h) (Ref_cheat_46_b g2 v0 v1 v2 v3 v4 v5 v6 v7 h) := by unfold Ref_cheat_46_b; exact le_b (le_r _) fun x11 => le_i (hg _) (le_b (le_r _) fun r15 => le_i (hg _) (hg _))
set_option maxHeartbeats 1000000 in
set_option maxRecDepth 100000 in
noncomputable def Ref_cheat_87_b (g : (Nat × Int32 × Int32 × Int32 × Int32 × Int32 × Int32 × Int32 × Nat × am_H) → Option (Int32 × am_H)) (v0 : Nat) (v1 : Int32) (v2 : Int32) (v3 : Int32) (v4 : Int32) (v5 : Int32) (v6 : Int32) (v7 : Int32) (h : am_H) : Option (Int32 × am_H) := g (46, v1, v2, v3, v4, v5, v6, (v7 + (1 : Int32)), v0, h)
set_option maxHeartbeats 1000000 in
set_option maxRecDepth 100000 in
theorem Ref_cheat_87_m {g g2 : (Nat × Int32 × Int32 × Int32 × Int32 × Int32 × Int32 × Int32 × Nat × am_H) → Option (Int32 × am_H)} (hg : ∀ s, Le (g s) (g2 s)) (v0 : Nat) (v1 : Int32) (v2 : Int32) (v3 : Int32) (v4 : Int32) (v5 : Int32) (v6 : Int32) (v7 : Int32) (h : am_H) : Le (Ref_cheat_87_b g v0 v1 v2 v3 v4 v5 v6 v7 h) (Ref_cheat_87_b g2 v0 v1 v2 v3 v4 v5 v6 v7 h) := by unfold Ref_cheat_87_b; exact hg _
noncomputable def Ref_cheat_30_F (g : (Nat × Int32 × Int32 × Int32 × Int32 × Int32 × Int32 × Int32 × Nat × am_H) → Option (Int32 × am_H)) (s : (Nat × Int32 × Int32 × Int32 × Int32 × Int32 × Int32 × Int32 × Nat × am_H)) : Option (Int32 × am_H) := if s.1 = 30 then Ref_cheat_30_b g s.2.2.2.2.2.2.2.2.1 s.2.1 s.2.2.1 s.2.2.2.1 s.2.2.2.2.1 s.2.2.2.2.2.1 s.2.2.2.2.2.2.1 s.2.2.2.2.2.2.2.2.2 else if s.1 = 46 then Ref_cheat_46_b g s.2.2.2.2.2.2.2.2.1 s.2.1 s.2.2.1 s.2.2.2.1 s.2.2.2.2.1 s.2.2.2.2.2.1 s.2.2.2.2.2.2.1 s.2.2.2.2.2.2.2.1 s.2.2.2.2.2.2.2.2.2 else if s.1 = 87 then Ref_cheat_87_b g s.2.2.2.2.2.2.2.2.1 s.2.1 s.2.2.1 s.2.2.2.1 s.2.2.2.2.1 s.2.2.2.2.2.1 s.2.2.2.2.2.2.1 s.2.2.2.2.2.2.2.1 s.2.2.2.2.2.2.2.2.2 else none
theorem Ref_cheat_30_M : Mn Ref_cheat_30_F := fun g g2 hg s => by unfold Ref_cheat_30_F; exact le_i (Ref_cheat_30_m hg s.2.2.2.2.2.2.2.2.1 s.2.1 s.2.2.1 s.2.2.2.1 s.2.2.2.2.1 s.2.2.2.2.2.1 s.2.2.2.2.2.2.1 s.2.2.2.2.2.2.2.2.2) (le_i (Ref_cheat_46_m hg s.2.2.2.2.2.2.2.2.1 s.2.1 s.2.2.1 s.2.2.2.1 s.2.2.2.2.1 s.2.2.2.2.2.1 s.2.2.2.2.2.2.1 s.2.2.2.2.2.2.2.1 s.2.2.2.2.2.2.2.2.2) (le_i (Ref_cheat_87_m hg s.2.2.2.2.2.2.2.2.1 s.2.1 s.2.2.1 s.2.2.2.1 s.2.2.2.2.1 s.2.2.2.2.2.1 s.2.2.2.2.2.2.1 s.2.2.2.2.2.2.2.1 s.2.2.2.2.2.2.2.2.2) (le_r _)))
def Ref_cheat_30_P (s : (Nat × Int32 × Int32 × Int32 × Int32 × Int32 × Int32 × Int32 × Nat × am_H)) (r : (Int32 × am_H)) : Prop := (s.1 = 30 → Sx 90 mX12_cheat 30 [.ref s.2.2.2.2.2.2.2.2.1, .int s.2.1, .int s.2.2.1, .int s.2.2.2.1, .int s.2.2.2.2.1, .int s.2.2.2.2.2.1, .int s.2.2.2.2.2.2.1, .retAddr 0, .retAddr 0] [] s.2.2.2.2.2.2.2.2.2 (some (.int r.1)) r.2) ∧ (s.1 = 46 → Sx 90 mX12_cheat 46 [.ref s.2.2.2.2.2.2.2.2.1, .int s.2.1, .int s.2.2.1, .int s.2.2.2.1, .int s.2.2.2.2.1, .int s.2.2.2.2.2.1, .int s.2.2.2.2.2.2.1, .int s.2.2.2.2.2.2.2.1, .retAddr 0] [] s.2.2.2.2.2.2.2.2.2 (some (.int r.1)) r.2) ∧ (s.1 = 87 → Sx 90 mX12_cheat 87 [.ref s.2.2.2.2.2.2.2.2.1, .int s.2.1, .int s.2.2.1, .int s.2.2.2.1, .int s.2.2.2.2.1, .int s.2.2.2.2.2.1, .int s.2.2.2.2.2.2.1, .int s.2.2.2.2.2.2.2.1, .retAddr 0] [] s.2.2.2.2.2.2.2.2.2 (some (.int r.1)) r.2) ∧ True
set_option maxHeartbeats 1000000 in
set_option maxRecDepth 100000 in
theorem Ref_cheat_30_t {g : (Nat × Int32 × Int32 × Int32 × Int32 × Int32 × Int32 × Int32 × Nat × am_H) → Option (Int32 × am_H)} (hg : ∀ s r, g s = some r → Ref_cheat_30_P s r) {v0 : Nat} {v1 : Int32} {v2 : Int32} {v3 : Int32} {v4 : Int32} {v5 : Int32} {v6 : Int32} {h : am_H} {r : (Int32 × am_H)} (hb : Ref_cheat_30_b g v0 v1 v2 v3 v4 v5 v6 h = some r) : Sx 90 mX12_cheat 30 [.ref v0, .int v1, .int v2, .int v3, .int v4, .int v5, .int v6, .retAddr 0, .retAddr 0] [] h (some (.int r.1)) r.2 := by
  unfold Ref_cheat_30_b at hb
  refine Sx.o (fun _ _ _ k => ex_iload dX12_cheat_30 rfl k) ?_
  refine Sx.o (fun _ _ _ k => ex_aload_n dX12_cheat_32 rfl rfl k) ?_
  refine Sx.o (fun _ _ _ k => ex_iload_n dX12_cheat_33 rfl k) ?_
  obtain ⟨x1, e_x1, hb2⟩ := ob2 hb
  refine sx_callV (dc := 1) (as := [.int v1]) (stq := [.int x1, .int v6]) (by omega) dX12_cheat_34 MX12_manyIn kX12_316 iX12_manyIn sX12_manyIn rfl rfl (Ref_manyIn_o e_x1) rfl rfl (Nat.le_of_ble_eq_true rfl) (Nat.le_of_ble_eq_true rfl) (Ref_manyIn_s e_x1) rfl ?_
  refine Sx.b (fun _ _ _ k1 k2 => ex_icmp_ge 99 dX12_cheat_37 (by decide) k1 k2) (fun q => ?_) (fun q => ?_)
  · have hb3 := ip q hb2
    refine Sx.o (fun _ _ _ k => ex_iload_n dX12_cheat_99 rfl k) ?_
    refine Sx.o (fun _ _ _ k => op_iconst (-1 : Int32) dX12_cheat_100 (by decide) k) ?_
    refine Sx.b (fun _ _ _ k1 k2 => ex_icmp_eq 108 dX12_cheat_101 (by decide) k1 k2) (fun q => ?_) (fun q => ?_)
    · have hb5 := ip q hb3
      refine Sx.o (fun _ _ _ k => ex_iload_n dX12_cheat_108 rfl k) ?_
      refine Sx.o (fun _ _ _ k => ex_goto 124 dX12_cheat_109 (by decide) k) ?_
      obtain rfl := Option.some.inj hb5
      exact Sx.r (fun _ _ _ k => ex_iret rfl dX12_cheat_124 k)
    · have hb6 := iq q hb3
      refine Sx.o (fun _ _ _ k => ex_iload_n dX12_cheat_104 rfl k) ?_
      refine Sx.bn (fun _ _ _ k1 k2 => ex_if_ne 112 dX12_cheat_105 (by decide) k1 k2) (fun q => ?_) (fun q => ?_)
      · have hb7 := iq q hb6
        refine Sx.o (fun _ _ _ k => ex_iload_n dX12_cheat_112 rfl k) ?_
        refine Sx.o (fun _ _ _ k => op_iconst (1 : Int32) dX12_cheat_113 (by decide) k) ?_
        refine Sx.bn (fun _ _ _ k1 k2 => ex_icmp_ne 122 dX12_cheat_114 (by decide) k1 k2) (fun q => ?_) (fun q => ?_)
        · have hb9 := iq q hb7
          refine Sx.o (fun _ _ _ k => ex_iload dX12_cheat_122 rfl k) ?_
          obtain rfl := Option.some.inj hb9
          exact Sx.r (fun _ _ _ k => ex_iret rfl dX12_cheat_124 k)
        · have hb10 := ip q hb7
          refine Sx.o (fun _ _ _ k => ex_iload dX12_cheat_117 rfl k) ?_
          refine Sx.o (fun _ _ _ k => ex_goto 124 dX12_cheat_119 (by decide) k) ?_
          obtain rfl := Option.some.inj hb10
          exact Sx.r (fun _ _ _ k => ex_iret rfl dX12_cheat_124 k)
      · have hb8 := ip q hb6
        refine Sx.o (fun _ _ _ k => ex_iload_n dX12_cheat_108 rfl k) ?_
        refine Sx.o (fun _ _ _ k => ex_goto 124 dX12_cheat_109 (by decide) k) ?_
        obtain rfl := Option.some.inj hb8
        exact Sx.r (fun _ _ _ k => ex_iret rfl dX12_cheat_124 k)
  · have hb4 := iq q hb2
    refine Sx.o (fun _ _ _ k => ex_iload dX12_cheat_40 rfl k) ?_
    refine Sx.o (fun _ _ _ k => op_iconst (1 : Int32) dX12_cheat_42 (by decide) k) ?_
    refine Sx.o (fun _ _ _ k => ex_iadd dX12_cheat_43 k) ?_
    refine Sx.o (L' := [.ref v0, .int v1, .int v2, .int v3, .int v4, .int v5, .int v6, .int (v6 + (1 : Int32)), .retAddr 0]) (fun _ _ _ k => ex_istore dX12_cheat_44 (by decide) k) ?_
    exact (hg _ _ hb4).2.1 rfl
set_option maxHeartbeats 1000000 in
set_option maxRecDepth 100000 in
theorem Ref_cheat_46_t {g : (Nat × Int32 × Int32 × Int32 × Int32 × Int32 × Int32 × Int32 × Nat × am_H) → Option (Int32 × am_H)} (hg : ∀ s r, g s = some r → Ref_cheat_30_P s r) {v0 : Nat} {v1 : Int32} {v2 : Int32} {v3 : Int32} {v4 : Int32} {v5 : Int32} {v6 : Int32} {v7 : Int32} {h : am_H} {r : (Int32 × am_H)} (hb : Ref_cheat_46_b g v0 v1 v2 v3 v4 v5 v6 v7 h = some r) : Sx 90 mX12_cheat 46 [.ref v0, .int v1, .int v2, .int v3, .int v4, .int v5, .int v6, .int v7, .retAddr 0] [] h (some (.int r.1)) r.2 := by
  unfold Ref_cheat_46_b at hb
  refine Sx.o (fun _ _ _ k => ex_iload dX12_cheat_46 rfl k) ?_
  refine Sx.o (fun _ _ _ k => ex_aload_n dX12_cheat_48 rfl rfl k) ?_
  refine Sx.o (fun _ _ _ k => ex_iload_n dX12_cheat_49 rfl k) ?_
  obtain ⟨x11, e_x11, hb12⟩ := ob2 hb
  refine sx_callV (dc := 1) (as := [.int v1]) (stq := [.int x11, .int v7]) (by omega) dX12_cheat_50 MX12_manyIn kX12_316 iX12_manyIn sX12_manyIn rfl rfl (Ref_manyIn_o e_x11) rfl rfl (Nat.le_of_ble_eq_true rfl) (Nat.le_of_ble_eq_true rfl) (Ref_manyIn_s e_x11) rfl ?_
  refine Sx.b (fun _ _ _ k1 k2 => ex_icmp_ge 93 dX12_cheat_53 (by decide) k1 k2) (fun q => ?_) (fun q => ?_)
  · have hb13 := ip q hb12
    refine Sx.o (L' := [.ref v0, .int v1, .int v2, .int v3, .int v4, .int v5, .int (v6 + (1 : Int32)), .int v7, .retAddr 0]) (fun _ _ _ k => op_iinc (1 : Int32) dX12_cheat_93 (by decide) rfl (by decide) k) ?_
    refine Sx.o (fun _ _ _ k => ex_goto 30 dX12_cheat_96 (by decide) k) ?_
    refine Sx.fg [true, true, true, true, true, true, true, false, true] ?_
    exact (hg _ _ hb13).1 rfl
  · have hb14 := iq q hb12
    refine Sx.o (fun _ _ _ k => ex_aload_n dX12_cheat_56 rfl rfl k) ?_
    refine Sx.o (fun _ _ _ k => ex_iload_n dX12_cheat_57 rfl k) ?_
    refine Sx.o (fun _ _ _ k => ex_iload dX12_cheat_58 rfl k) ?_
    refine Sx.o (fun _ _ _ k => ex_iload dX12_cheat_60 rfl k) ?_
    obtain ⟨r15, e_r15, hb16⟩ := ob2 hb14
    refine sx_callV (dc := 89) (as := [.int v1, .int v6, .int v7]) (stq := [.int r15.1]) (by omega) dX12_cheat_62 MX12_endsSwapped kX12_412 iX12_endsSwapped sX12_endsSwapped rfl rfl (Ref_endsSwapped_o e_r15) rfl rfl (Nat.le_of_ble_eq_true rfl) (Nat.le_of_ble_eq_true rfl) (Ref_endsSwapped_s e_r15) rfl ?_
    refine Sx.o (L' := [.ref v0, .int v1, .int v2, .int v3, .int v4, .int v5, .int v6, .int v7, .int r15.1]) (fun _ _ _ k => ex_istore dX12_cheat_65 (by decide) k) ?_
    refine Sx.o (fun _ _ _ k => ex_iload dX12_cheat_67 rfl k) ?_
    refine Sx.o (fun _ _ _ k => ex_iload_n dX12_cheat_69 rfl k) ?_
    refine Sx.b (fun _ _ _ k1 k2 => ex_icmp_gt 76 dX12_cheat_70 (by decide) k1 k2) (fun q => ?_) (fun q => ?_)
    · have hb18 := ip q hb16
      refine Sx.o (fun _ _ _ k => ex_iload dX12_cheat_76 rfl k) ?_
      refine Sx.o (L' := [.ref v0, .int v1, .int v2, .int r15.1, .int v4, .int v5, .int v6, .int v7, .int r15.1]) (fun _ _ _ k => ex_istore_n dX12_cheat_78 (by decide) k) ?_
      refine Sx.o (fun _ _ _ k => ex_iload dX12_cheat_79 rfl k) ?_
      refine Sx.o (L' := [.ref v0, .int v1, .int v2, .int r15.1, .int v6, .int v5, .int v6, .int v7, .int r15.1]) (fun _ _ _ k => ex_istore dX12_cheat_81 (by decide) k) ?_
      refine Sx.o (fun _ _ _ k => ex_iload dX12_cheat_83 rfl k) ?_
      refine Sx.o (L' := [.ref v0, .int v1, .int v2, .int r15.1, .int v6, .int v7, .int v6, .int v7, .int r15.1]) (fun _ _ _ k => ex_istore dX12_cheat_85 (by decide) k) ?_
      refine Sx.fg [true, true, true, true, true, true, true, true, false] ?_
      exact (hg _ _ hb18).2.2.1 rfl
    · have hb19 := iq q hb16
      refine Sx.o (fun _ _ _ k => ex_goto 87 dX12_cheat_73 (by decide) k) ?_
      refine Sx.fg [true, true, true, true, true, true, true, true, false] ?_
      exact (hg _ _ hb19).2.2.1 rfl
set_option maxHeartbeats 1000000 in
set_option maxRecDepth 100000 in
theorem Ref_cheat_87_t {g : (Nat × Int32 × Int32 × Int32 × Int32 × Int32 × Int32 × Int32 × Nat × am_H) → Option (Int32 × am_H)} (hg : ∀ s r, g s = some r → Ref_cheat_30_P s r) {v0 : Nat} {v1 : Int32} {v2 : Int32} {v3 : Int32} {v4 : Int32} {v5 : Int32} {v6 : Int32} {v7 : Int32} {h : am_H} {r : (Int32 × am_H)} (hb : Ref_cheat_87_b g v0 v1 v2 v3 v4 v5 v6 v7 h = some r) : Sx 90 mX12_cheat 87 [.ref v0, .int v1, .int v2, .int v3, .int v4, .int v5, .int v6, .int v7, .retAddr 0] [] h (some (.int r.1)) r.2 := by
  unfold Ref_cheat_87_b at hb
  refine Sx.o (L' := [.ref v0, .int v1, .int v2, .int v3, .int v4, .int v5, .int v6, .int (v7 + (1 : Int32)), .retAddr 0]) (fun _ _ _ k => op_iinc (1 : Int32) dX12_cheat_87 (by decide) rfl (by decide) k) ?_
  refine Sx.o (fun _ _ _ k => ex_goto 46 dX12_cheat_90 (by decide) k) ?_
  exact (hg _ _ hb).2.1 rfl
theorem Ref_cheat_30_T : ∀ s r, fx Ref_cheat_30_F Ref_cheat_30_M s = some r → Ref_cheat_30_P s r := fx_ind Ref_cheat_30_M Ref_cheat_30_P (fun g hg s r hb => by
  unfold Ref_cheat_30_F at hb
  exact ⟨fun q => Ref_cheat_30_t hg (ip q hb), fun q => Ref_cheat_46_t hg (ip q (iq (by rw [q]; decide) hb)), fun q => Ref_cheat_87_t hg (ip q (iq (by rw [q]; decide) (iq (by rw [q]; decide) hb))), trivial⟩)
set_option maxHeartbeats 1000000 in
set_option maxRecDepth 100000 in
theorem Ref_cheat_30_r {g : (Nat × Int32 × Int32 × Int32 × Int32 × Int32 × Int32 × Int32 × Nat × am_H) → Option (Int32 × am_H)} (hg : ∀ s r, g s = some r → Eqs s.2.2.2.2.2.2.2.2.2 r.2) {v0 : Nat} {v1 : Int32} {v2 : Int32} {v3 : Int32} {v4 : Int32} {v5 : Int32} {v6 : Int32} {h : am_H} {r : (Int32 × am_H)} (hb : Ref_cheat_30_b g v0 v1 v2 v3 v4 v5 v6 h = some r) : Eqs h r.2 := by
  unfold Ref_cheat_30_b at hb
  have w0 := Eqs.rf h
  obtain ⟨x1, e_x1, hb2⟩ := ob2 hb
  by_cases q : x1 ≤ v6
  · have hb3 := ip q hb2
    by_cases q : v3 = (-1 : Int32)
    · have hb5 := ip q hb3
      obtain rfl := Option.some.inj hb5
      exact w0
    · have hb6 := iq q hb3
      by_cases q : v2 = (0 : Int32)
      · have hb8 := ip q hb6
        obtain rfl := Option.some.inj hb8
        exact w0
      · have hb7 := iq q hb6
        by_cases q : v2 = (1 : Int32)
        · have hb10 := ip q hb7
          obtain rfl := Option.some.inj hb10
          exact w0
        · have hb9 := iq q hb7
          obtain rfl := Option.some.inj hb9
          exact w0
  · have hb4 := iq q hb2
    exact w0.tr (hg _ _ hb4)
set_option maxHeartbeats 1000000 in
set_option maxRecDepth 100000 in
theorem Ref_cheat_46_r {g : (Nat × Int32 × Int32 × Int32 × Int32 × Int32 × Int32 × Int32 × Nat × am_H) → Option (Int32 × am_H)} (hg : ∀ s r, g s = some r → Eqs s.2.2.2.2.2.2.2.2.2 r.2) {v0 : Nat} {v1 : Int32} {v2 : Int32} {v3 : Int32} {v4 : Int32} {v5 : Int32} {v6 : Int32} {v7 : Int32} {h : am_H} {r : (Int32 × am_H)} (hb : Ref_cheat_46_b g v0 v1 v2 v3 v4 v5 v6 v7 h = some r) : Eqs h r.2 := by
  unfold Ref_cheat_46_b at hb
  have w0 := Eqs.rf h
  obtain ⟨x11, e_x11, hb12⟩ := ob2 hb
  by_cases q : x11 ≤ v7
  · have hb13 := ip q hb12
    exact w0.tr (hg _ _ hb13)
  · have hb14 := iq q hb12
    obtain ⟨r15, e_r15, hb16⟩ := ob2 hb14
    have w17 := w0.tr (Ref_endsSwapped_q e_r15)
    by_cases q : v3 < r15.1
    · have hb18 := ip q hb16
      exact w17.tr (hg _ _ hb18)
    · have hb19 := iq q hb16
      exact w17.tr (hg _ _ hb19)
set_option maxHeartbeats 1000000 in
set_option maxRecDepth 100000 in
theorem Ref_cheat_87_r {g : (Nat × Int32 × Int32 × Int32 × Int32 × Int32 × Int32 × Int32 × Nat × am_H) → Option (Int32 × am_H)} (hg : ∀ s r, g s = some r → Eqs s.2.2.2.2.2.2.2.2.2 r.2) {v0 : Nat} {v1 : Int32} {v2 : Int32} {v3 : Int32} {v4 : Int32} {v5 : Int32} {v6 : Int32} {v7 : Int32} {h : am_H} {r : (Int32 × am_H)} (hb : Ref_cheat_87_b g v0 v1 v2 v3 v4 v5 v6 v7 h = some r) : Eqs h r.2 := by
  unfold Ref_cheat_87_b at hb
  have w0 := Eqs.rf h
  exact w0.tr (hg _ _ hb)
theorem Ref_cheat_30_Q : ∀ s r, fx Ref_cheat_30_F Ref_cheat_30_M s = some r → Eqs s.2.2.2.2.2.2.2.2.2 r.2 := fx_ind Ref_cheat_30_M (fun s r => Eqs s.2.2.2.2.2.2.2.2.2 r.2) (fun g hg s r hb => by
  unfold Ref_cheat_30_F at hb
  by_cases q0 : s.1 = 30
  · exact Ref_cheat_30_r hg (ip q0 hb)
  · have hb0 := iq q0 hb
    by_cases q1 : s.1 = 46
    · exact Ref_cheat_46_r hg (ip q1 hb0)
    · have hb1 := iq q1 hb0
      by_cases q2 : s.1 = 87
      · exact Ref_cheat_87_r hg (ip q2 hb1)
      · have hb2 := iq q2 hb1
        exact nomatch hb2)
noncomputable def Ref_cheat_30 (v0 : Nat) (v1 : Int32) (v2 : Int32) (v3 : Int32) (v4 : Int32) (v5 : Int32) (v6 : Int32) (h : am_H) : Option (Int32 × am_H) := fx Ref_cheat_30_F Ref_cheat_30_M (30, v1, v2, v3, v4, v5, v6, 0, v0, h)
noncomputable def Ref_cheat_46 (v0 : Nat) (v1 : Int32) (v2 : Int32) (v3 : Int32) (v4 : Int32) (v5 : Int32) (v6 : Int32) (v7 : Int32) (h : am_H) : Option (Int32 × am_H) := fx Ref_cheat_30_F Ref_cheat_30_M (46, v1, v2, v3, v4, v5, v6, v7, v0, h)
noncomputable def Ref_cheat_87 (v0 : Nat) (v1 : Int32) (v2 : Int32) (v3 : Int32) (v4 : Int32) (v5 : Int32) (v6 : Int32) (v7 : Int32) (h : am_H) : Option (Int32 × am_H) := fx Ref_cheat_30_F Ref_cheat_30_M (87, v1, v2, v3, v4, v5, v6, v7, v0, h)
set_option maxHeartbeats 1000000 in
set_option maxRecDepth 100000 in
theorem Ref_cheat_30_e (v0 : Nat) (v1 : Int32) (v2 : Int32) (v3 : Int32) (v4 : Int32) (v5 : Int32) (v6 : Int32) (h : am_H) : Ref_cheat_30 v0 v1 v2 v3 v4 v5 v6 h = ((Ref_manyIn v0 v1 h).bind fun x1 => if x1 ≤ v6 then if v3 = (-1 : Int32) then some (v3, h) else if v2 = (0 : Int32) then some (v3, h) else if v2 = (1 : Int32) then some (v4, h) else some (v5, h) else Ref_cheat_46 v0 v1 v2 v3 v4 v5 v6 (v6 + (1 : Int32)) h) := (fx_eq Ref_cheat_30_M (30, v1, v2, v3, v4, v5, v6, 0, v0, h)).trans (if_pos rfl)
theorem Ref_cheat_30_q {v0 : Nat} {v1 : Int32} {v2 : Int32} {v3 : Int32} {v4 : Int32} {v5 : Int32} {v6 : Int32} {h : am_H} {r : (Int32 × am_H)} (hb : Ref_cheat_30 v0 v1 v2 v3 v4 v5 v6 h = some r) : Eqs h r.2 := Ref_cheat_30_Q _ _ hb
theorem Ref_cheat_30_s {v0 : Nat} {v1 : Int32} {v2 : Int32} {v3 : Int32} {v4 : Int32} {v5 : Int32} {v6 : Int32} {h : am_H} {r : (Int32 × am_H)} (hb : Ref_cheat_30 v0 v1 v2 v3 v4 v5 v6 h = some r) : Sx 90 mX12_cheat 30 [.ref v0, .int v1, .int v2, .int v3, .int v4, .int v5, .int v6, .retAddr 0, .retAddr 0] [] h (some (.int r.1)) r.2 := (Ref_cheat_30_T _ _ hb).1 rfl
set_option maxHeartbeats 1000000 in
set_option maxRecDepth 100000 in
theorem Ref_cheat_46_e (v0 : Nat) (v1 : Int32) (v2 : Int32) (v3 : Int32) (v4 : Int32) (v5 : Int32) (v6 : Int32) (v7 : Int32) (h : am_H) : Ref_cheat_46 v0 v1 v2 v3 v4 v5 v6 v7 h = ((Ref_manyIn v0 v1 h).bind fun x11 => if x11 ≤ v7 then Ref_cheat_30 v0 v1 v2 v3 v4 v5 (v6 + (1 : Int32)) h else (Ref_endsSwapped v0 v1 v6 v7 h).bind fun r15 => if v3 < r15.1 then Ref_cheat_87 v0 v1 v2 r15.1 v6 v7 v6 v7 r15.2 else Ref_cheat_87 v0 v1 v2 v3 v4 v5 v6 v7 r15.2) := (fx_eq Ref_cheat_30_M (46, v1, v2, v3, v4, v5, v6, v7, v0, h)).trans ((if_neg (show ¬ (46 : Nat) = 30 by decide)).trans (if_pos rfl))
theorem Ref_cheat_46_q {v0 : Nat} {v1 : Int32} {v2 : Int32} {v3 : Int32} {v4 : Int32} {v5 : Int32} {v6 : Int32} {v7 : Int32} {h : am_H} {r : (Int32 × am_H)} (hb : Ref_cheat_46 v0 v1 v2 v3 v4 v5 v6 v7 h = some r) : Eqs h r.2 := Ref_cheat_30_Q _ _ hb
theorem Ref_cheat_46_s {v0 : Nat} {v1 : Int32} {v2 : Int32} {v3 : Int32} {v4 : Int32} {v5 : Int32} {v6 : Int32} {v7 : Int32} {h : am_H} {r : (Int32 × am_H)} (hb : Ref_cheat_46 v0 v1 v2 v3 v4 v5 v6 v7 h = some r) : Sx 90 mX12_cheat 46 [.ref v0, .int v1, .int v2, .int v3, .int v4, .int v5, .int v6, .int v7, .retAddr 0] [] h (some (.int r.1)) r.2 := (Ref_cheat_30_T _ _ hb).2.1 rfl
set_option maxHeartbeats 1000000 in
set_option maxRecDepth 100000 in
theorem Ref_cheat_87_e (v0 : Nat) (v1 : Int32) (v2 : Int32) (v3 : Int32) (v4 : Int32) (v5 : Int32) (v6 : Int32) (v7 : Int32) (h : am_H) : Ref_cheat_87 v0 v1 v2 v3 v4 v5 v6 v7 h = (Ref_cheat_46 v0 v1 v2 v3 v4 v5 v6 (v7 + (1 : Int32)) h) := (fx_eq Ref_cheat_30_M (87, v1, v2, v3, v4, v5, v6, v7, v0, h)).trans ((if_neg (show ¬ (87 : Nat) = 30 by decide)).trans ((if_neg (show ¬ (87 : Nat) = 46 by decide)).trans (if_pos rfl)))
theorem Ref_cheat_87_q {v0 : Nat} {v1 : Int32} {v2 : Int32} {v3 : Int32} {v4 : Int32} {v5 : Int32} {v6 : Int32} {v7 : Int32} {h : am_H} {r : (Int32 × am_H)} (hb : Ref_cheat_87 v0 v1 v2 v3 v4 v5 v6 v7 h = some r) : Eqs h r.2 := Ref_cheat_30_Q _ _ hb
theorem Ref_cheat_87_s {v0 : Nat} {v1 : Int32} {v2 : Int32} {v3 : Int32} {v4 : Int32} {v5 : Int32} {v6 : Int32} {v7 : Int32} {h : am_H} {r : (Int32 × am_H)} (hb : Ref_cheat_87 v0 v1 v2 v3 v4 v5 v6 v7 h = some r) : Sx 90 mX12_cheat 87 [.ref v0, .int v1, .int v2, .int v3, .int v4, .int v5, .int v6, .int v7, .retAddr 0] [] h (some (.int r.1)) r.2 := (Ref_cheat_30_T _ _ hb).2.2.1 rfl
set_option maxHeartbeats 1000000 in
set_option maxRecDepth 100000 in
noncomputable def Ref_cheat (v0 : Nat) (v1 : Int32) (v2 : Int32) (h : am_H) : Option (Int32 × am_H) := if isO h 12 v0 = true then (Ref_isHeap v0 v1 h).bind fun x20 => if x20 = (0 : Int32) then some ((-1 : Int32), h) else (Ref_lies v2 (0 : Int32) (2 : Int32) h).bind fun x24 => if x24 = (0 : Int32) then some ((-1 : Int32), h) else Ref_cheat_30 v0 v1 v2 (-1 : Int32) (0 : Int32) (0 : Int32) (0 : Int32) h else none
set_option maxHeartbeats 1000000 in
set_option maxRecDepth 100000 in
theorem Ref_cheat_s {v0 : Nat} {v1 : Int32} {v2 : Int32} {h : am_H} {r : (Int32 × am_H)} (hb : Ref_cheat v0 v1 v2 h = some r) : Sx 90 mX12_cheat 0 (am_en [.ref v0, .int v1, .int v2] 9) [] h (some (.int r.1)) r.2 := by
  unfold Ref_cheat at hb
  have hb := (iz hb).2
  show Sx 90 mX12_cheat 0 [.ref v0, .int v1, .int v2, .retAddr 0, .retAddr 0, .retAddr 0, .retAddr 0, .retAddr 0, .retAddr 0] [] h (some (.int r.1)) r.2
  refine Sx.o (fun _ _ _ k => ex_aload_n dX12_cheat_0 rfl rfl k) ?_
  refine Sx.o (fun _ _ _ k => ex_iload_n dX12_cheat_1 rfl k) ?_
  obtain ⟨x20, e_x20, hb21⟩ := ob2 hb
  refine sx_callV (dc := 1) (as := [.int v1]) (stq := [.int x20]) (by omega) dX12_cheat_2 MX12_isHeap kX12_122 iX12_isHeap sX12_isHeap rfl rfl (Ref_isHeap_o e_x20) rfl rfl (Nat.le_of_ble_eq_true rfl) (Nat.le_of_ble_eq_true rfl) (Ref_isHeap_s e_x20) rfl ?_
  refine Sx.b (fun _ _ _ k1 k2 => ex_if_eq 17 dX12_cheat_5 (by decide) k1 k2) (fun q => ?_) (fun q => ?_)
  · have hb22 := ip q hb21
    refine Sx.o (fun _ _ _ k => op_iconst (-1 : Int32) dX12_cheat_17 (by decide) k) ?_
    obtain rfl := Option.some.inj hb22
    exact Sx.r (fun _ _ _ k => ex_iret rfl dX12_cheat_18 k)
  · have hb23 := iq q hb21
    refine Sx.o (fun _ _ _ k => ex_iload_n dX12_cheat_8 rfl k) ?_
    refine Sx.o (fun _ _ _ k => op_iconst (0 : Int32) dX12_cheat_9 (by decide) k) ?_
    refine Sx.o (fun _ _ _ k => op_iconst (2 : Int32) dX12_cheat_10 (by decide) k) ?_
    obtain ⟨x24, e_x24, hb25⟩ := ob2 hb23
    refine sx_callS (dc := 0) (as := [.int v2, .int (0 : Int32), .int (2 : Int32)]) (stq := [.int x24]) (by omega) dX12_cheat_11 MX12_lies kX12_102 tX12_lies rfl rfl (Nat.le_of_ble_eq_true rfl) (Nat.le_of_ble_eq_true rfl) (Ref_lies_s e_x24) rfl ?_
    refine Sx.bn (fun _ _ _ k1 k2 => ex_if_ne 19 dX12_cheat_14 (by decide) k1 k2) (fun q => ?_) (fun q => ?_)
    · have hb26 := iq q hb25
      refine Sx.o (fun _ _ _ k => op_iconst (-1 : Int32) dX12_cheat_19 (by decide) k) ?_
      refine Sx.o (L' := [.ref v0, .int v1, .int v2, .int (-1 : Int32), .retAddr 0, .retAddr 0, .retAddr 0, .retAddr 0, .retAddr 0]) (fun _ _ _ k => ex_istore_n dX12_cheat_20 (by decide) k) ?_
      refine Sx.o (fun _ _ _ k => op_iconst (0 : Int32) dX12_cheat_21 (by decide) k) ?_
      refine Sx.o (L' := [.ref v0, .int v1, .int v2, .int (-1 : Int32), .int (0 : Int32), .retAddr 0, .retAddr 0, .retAddr 0, .retAddr 0]) (fun _ _ _ k => ex_istore dX12_cheat_22 (by decide) k) ?_
      refine Sx.o (fun _ _ _ k => op_iconst (0 : Int32) dX12_cheat_24 (by decide) k) ?_
      refine Sx.o (L' := [.ref v0, .int v1, .int v2, .int (-1 : Int32), .int (0 : Int32), .int (0 : Int32), .retAddr 0, .retAddr 0, .retAddr 0]) (fun _ _ _ k => ex_istore dX12_cheat_25 (by decide) k) ?_
      refine Sx.o (fun _ _ _ k => op_iconst (0 : Int32) dX12_cheat_27 (by decide) k) ?_
      refine Sx.o (L' := [.ref v0, .int v1, .int v2, .int (-1 : Int32), .int (0 : Int32), .int (0 : Int32), .int (0 : Int32), .retAddr 0, .retAddr 0]) (fun _ _ _ k => ex_istore dX12_cheat_28 (by decide) k) ?_
      exact Ref_cheat_30_s hb26
    · have hb27 := ip q hb25
      refine Sx.o (fun _ _ _ k => op_iconst (-1 : Int32) dX12_cheat_17 (by decide) k) ?_
      obtain rfl := Option.some.inj hb27
      exact Sx.r (fun _ _ _ k => ex_iret rfl dX12_cheat_18 k)
set_option maxHeartbeats 1000000 in
set_option maxRecDepth 100000 in
theorem Ref_cheat_q {v0 : Nat} {v1 : Int32} {v2 : Int32} {h : am_H} {r : (Int32 × am_H)} (hb : Ref_cheat v0 v1 v2 h = some r) : Eqs h r.2 := by
  unfold Ref_cheat at hb
  have hb := (iz hb).2
  have w0 := Eqs.rf h
  obtain ⟨x20, e_x20, hb21⟩ := ob2 hb
  by_cases q : x20 = (0 : Int32)
  · have hb22 := ip q hb21
    obtain rfl := Option.some.inj hb22
    exact w0
  · have hb23 := iq q hb21
    obtain ⟨x24, e_x24, hb25⟩ := ob2 hb23
    by_cases q : x24 = (0 : Int32)
    · have hb27 := ip q hb25
      obtain rfl := Option.some.inj hb27
      exact w0
    · have hb26 := iq q hb25
      exact w0.tr (Ref_cheat_30_q hb26)
theorem Ref_cheat_o {v0 : Nat} {v1 : Int32} {v2 : Int32} {h : am_H} {r : (Int32 × am_H)} (hb : Ref_cheat v0 v1 v2 h = some r) : isO h 12 v0 = true := by
  unfold Ref_cheat at hb
  exact (iz hb).1
