/-! THE REFERENCE: what is plain; whole tests are answered as told -/
set_option maxHeartbeats 400000 in
set_option maxRecDepth 100000 in
theorem l_plain {b : Nat} {h0 : am_H} {σ : am_S} {ge : Nat} {live : Bool} {dC d : Nat} {P : Bool → Nat → Bool → EvB} (hge : σ.1 22 = nI ge) (hge2 : ge ≤ 2800) (hd : dC + 1 ≤ d) (hd2 : 2 ≤ d) (hP : OkB mX12_positiveOf dC b σ P) {vr : Bool} {gr : Nat} {br2 : Bool} : ∀ (f : Nat) (nt : Bool) (g : Nat) (br : Bool) (h : am_H) (y : Nat), y = bN (nt = true) → nlp P σ.2.1 ge live f nt g br = some (vr, gr, br2) → Mo b h (evS σ g br) → Same b h0 h → Ex d 0 0 mX12_plainOf 2 [.ref b, .int (nI (bN (live = true))), .int (nI y)] [] h (fun r h2 => r = some (.int (nI (bN (vr = true)))) ∧ Mo b h2 (evS σ gr br2) ∧ Same b h0 h2) := by
  intro f
  induction f with
  | zero => intro nt g br h y hy hv; cases hv
  | succ f ih =>
    intro nt g br h y hy hv hm hs
    subst hy
    simp only [nlp] at hv
    by_cases hg : g < 2799
    · rw [if_pos hg] at hv
      by_cases hc : cdA σ.2.1 ge g = nI 7
      · rw [if_pos hc] at hv
        refine ex_aload_n dX12_plainOf_2 rfl rfl ?_
        refine ex_bipushN (nI 7) dX12_plainOf_3 (by decide) ?_
        refine ex_callV0 (dc := 1) (as := [.int _]) dX12_plainOf_5 MX12_passes0 kX12_283 iX12_passes0 sX12_passes0 rfl rfl hm.1 rfl rfl (Nat.le_of_ble_eq_true rfl) (Nat.le_of_ble_eq_true rfl) (by first | decide | omega) (e_passes0 _ (by omega) hge hge2 hm) (fun r h2 q => ?_)
        obtain ⟨rfl, hm, hs2⟩ := q
        have hs := hs.tr hs2
        rw [if_pos hc] at hm
        rw [bN_t hc]
        show Ex _ 0 0 _ _ _ (Value.int _ :: _) _ _
        refine ex_if_eqN 24 dX12_plainOf_8 (by decide) (by first | omega | exact bN_lt) (fun q8 => ?_) (fun q8 => ?_)
        · skip
          exact absurd q8 (by decide)
        · skip
          refine ex_iload_n dX12_plainOf_11 rfl ?_
          refine ex_if_neN 19 dX12_plainOf_12 (by decide) (by first | omega | exact bN_lt) (fun q12 => ?_) (fun q12 => ?_)
          · skip
            refine ex_iconstN (nI 0) dX12_plainOf_19 (by decide) ?_
            refine ex_istore_n dX12_plainOf_20 (by decide) ?_
            refine ex_goto 2 dX12_plainOf_21 (by decide) ?_
            exact ih _ _ _ _ 0 (by rw [bn.mp q12]; rfl) hv hm hs
          · skip
            refine ex_iconstN (nI 1) dX12_plainOf_15 (by decide) ?_
            refine ex_goto 20 dX12_plainOf_16 (by decide) ?_
            refine ex_istore_n dX12_plainOf_20 (by decide) ?_
            refine ex_goto 2 dX12_plainOf_21 (by decide) ?_
            exact ih _ _ _ _ 1 (by rw [bt.mp q12]; rfl) hv hm hs
      · rw [if_neg hc] at hv
        cases hPv : P live g br with
        | none => rw [hPv] at hv; cases hv
        | some q =>
          obtain ⟨x, g2, b2⟩ := q
          rw [hPv] at hv
          simp only [Option.some.injEq, Prod.mk.injEq] at hv
          obtain ⟨e1, e2, e3⟩ := hv
          refine ex_aload_n dX12_plainOf_2 rfl rfl ?_
          refine ex_bipushN (nI 7) dX12_plainOf_3 (by decide) ?_
          refine ex_callV0 (dc := 1) (as := [.int _]) dX12_plainOf_5 MX12_passes0 kX12_283 iX12_passes0 sX12_passes0 rfl rfl hm.1 rfl rfl (Nat.le_of_ble_eq_true rfl) (Nat.le_of_ble_eq_true rfl) (by first | decide | omega) (e_passes0 _ (by omega) hge hge2 hm) (fun r h2 q => ?_)
          obtain ⟨rfl, hm, hs2⟩ := q
          have hs := hs.tr hs2
          rw [if_neg hc] at hm
          rw [bN_f hc]
          show Ex _ 0 0 _ _ _ (Value.int _ :: _) _ _
          refine ex_if_eqN 24 dX12_plainOf_8 (by decide) (by first | omega | exact bN_lt) (fun q8 => ?_) (fun q8 => ?_)
          · skip
            refine ex_aload_n dX12_plainOf_24 rfl rfl ?_
            refine ex_iload_n dX12_plainOf_25 rfl ?_
            refine ex_callV0 (dc := dC) (as := [.int _]) dX12_plainOf_26 MX12_positiveOf kX12_301 iX12_positiveOf sX12_positiveOf rfl rfl hm.1 rfl rfl (Nat.le_of_ble_eq_true rfl) (Nat.le_of_ble_eq_true rfl) (by first | decide | omega) (hP _ _ _ _ _ _ _ hPv hm) (fun r h2 q => ?_)
            obtain ⟨rfl, hm, hs2⟩ := q
            have hs := hs.tr hs2
            show Ex _ 0 0 _ _ _ (Value.int _ :: _) _ _
            refine ex_iload_n dX12_plainOf_29 rfl ?_
            refine ex_icmp_eqN 37 dX12_plainOf_30 (by decide) (by first | omega | exact bN_lt) (by first | omega | exact bN_lt) (fun q30 => ?_) (fun q30 => ?_)
            · skip
              refine ex_iconstN (nI 0) dX12_plainOf_37 (by decide) ?_
              refine ex_zret rfl (by first | exact bN_z | rfl | decide | assumption) dX12_plainOf_38 ?_
              exact ⟨by rw [← e1]; cases x <;> cases nt <;> first | rfl | exact absurd q30 (by decide) | exact absurd rfl q30, by rw [← e2, ← e3]; exact hm, hs⟩
            · skip
              refine ex_iconstN (nI 1) dX12_plainOf_33 (by decide) ?_
              refine ex_goto 38 dX12_plainOf_34 (by decide) ?_
              refine ex_zret rfl (by first | exact bN_z | rfl | decide | assumption) dX12_plainOf_38 ?_
              exact ⟨by rw [← e1]; cases x <;> cases nt <;> first | rfl | exact absurd q30 (by decide) | exact absurd rfl q30, by rw [← e2, ← e3]; exact hm, hs⟩
          · skip
            exact absurd rfl q8
    · rw [if_neg hg] at hv
      cases hv
set_option maxHeartbeats 400000 in
set_option maxRecDepth 100000 in
theorem ok_plain {b : Nat} {σ : am_S} {ge : Nat} {dC d : Nat} {P : Bool → Nat → Bool → EvB} (hge : σ.1 22 = nI ge) (hge2 : ge ≤ 2800) (hd : dC + 1 ≤ d) (hd2 : 2 ≤ d) (hP : OkB mX12_positiveOf dC b σ P) : OkB mX12_plainOf d b σ (fun live g br => nlp P σ.2.1 ge live 402 false g br) := by
  intro live g br v g2 b2 h hv hm
  have hs : Same b h h := Same.rf
  refine ex_iconstN (nI 0) dX12_plainOf_0 (by decide) ?_
  refine ex_istore_n dX12_plainOf_1 (by decide) ?_
  exact l_plain hge hge2 hd hd2 hP _ _ _ _ _ _ (show 0 = bN (false = true) from rfl) hv hm hs
theorem po1 {live b2 x : Bool} (hl : ¬ bN (live = true) = 0) (hb : bN (b2 = true) = 0) (hc : x = true) : 1 = bN ((live && (!b2 && x)) = true) := by
  rw [bn.mp hl, bt.mp hb, hc]; rfl
theorem po0a {live b2 x : Bool} (hl : bN (live = true) = 0) : 0 = bN ((live && (!b2 && x)) = true) := by
  rw [bt.mp hl]; rfl
theorem po0b {live b2 x : Bool} (hb : ¬ bN (b2 = true) = 0) : 0 = bN ((live && (!b2 && x)) = true) := by
  rw [bn.mp hb]; cases live <;> rfl
theorem po0c {live b2 x : Bool} (hc : x = false) : 0 = bN ((live && (!b2 && x)) = true) := by
  rw [hc]; cases live <;> cases b2 <;> rfl
theorem cv_lt {s : Int32} {a c : Int64} (h : s = nI 160) : cmpv s a c = decide (a < c) := if_pos h
theorem cv_gt {s : Int32} {a c : Int64} (h : ¬ s = nI 160) (h2 : s = nI 162) : cmpv s a c = decide (c < a) := (if_neg h).trans (if_pos h2)
theorem cv_eq {s : Int32} {a c : Int64} (h : ¬ s = nI 160) (h2 : ¬ s = nI 162) : cmpv s a c = decide (a = c) := (if_neg h).trans (if_neg h2)
def pov (T : Bool → Nat → Bool → EvB) (S : Bool → Nat → Bool → EvR) (A : Nat → Nat → Int32) (ge : Nat) (live : Bool) (g : Nat) (br : Bool) : EvB :=
  if g < 2799 then
    (if cdA A ge g = nI 140 then (match T live (g + 1) br with
      | none => none
      | some (x, g2, b2) => some (x, g2 + 1, b2))
    else (match S live g br with
      | none => none
      | some (a, g1, b1) => if g1 < 2799 then (match S live (g1 + 1) b1 with
        | none => none
        | some (c, g2, b2) => some (live && (!b2 && cmpv (cdA A ge g1) a c), g2, b2)) else none))
  else none
set_option maxHeartbeats 4000000 in
set_option maxRecDepth 100000 in
theorem p_cmp {b : Nat} {h : am_H} {σ : am_S} {ge g g1 g2 : Nat} {br b1 b2 live : Bool} {a c : Int64} {dS d : Nat} {S : Bool → Nat → Bool → EvR} (hge : σ.1 22 = nI ge) (hge2 : ge ≤ 2800) (hg : g < 2799) (hg1 : g1 < 2799) (hc : ¬ cdA σ.2.1 ge g = nI (100 + 40)) (hd : dS + 1 ≤ d) (hd2 : 2 ≤ d) (hS : ∀ live, OkP mX12_sumOf dS b σ live (S live)) (hS1 : S live g br = some (a, g1, b1)) (hS2 : S live (g1 + 1) b1 = some (c, g2, b2)) (hm : Mo b h (evS σ g br)) : Ex d 0 0 mX12_positiveOf 0 (am_en [.ref b, .int (nI (bN (live = true)))] 7) [] h (fun r h2 => r = some (.int (nI (bN ((live && (!b2 && cmpv (cdA σ.2.1 ge g1) a c)) = true)))) ∧ Mo b h2 (evS σ g2 b2) ∧ Same b h h2) := by
  have hs : Same b h h := Same.rf
  refine ex_aload_n dX12_positiveOf_0 rfl rfl ?_
  refine ex_bipushN (nI 40) dX12_positiveOf_1 (by decide) ?_
  refine ex_callS0 (dc := 0) (as := [.int _]) dX12_positiveOf_3 MX12_sign kX12_215 tX12_sign rfl rfl (Nat.le_of_ble_eq_true rfl) (Nat.le_of_ble_eq_true rfl) (by first | decide | omega) (e_sign _ _) (fun r h2 q => ?_)
  obtain ⟨rfl, rfl⟩ := q
  show Ex _ 0 0 _ _ _ (Value.int _ :: _) _ _
  rw [sgn]
  refine ex_callV0 (dc := 1) (as := [.int _]) dX12_positiveOf_6 MX12_passes0 kX12_283 iX12_passes0 sX12_passes0 rfl rfl hm.1 rfl rfl (Nat.le_of_ble_eq_true rfl) (Nat.le_of_ble_eq_true rfl) (by first | decide | omega) (e_passes0 _ (by omega) hge hge2 hm) (fun r h2 q => ?_)
  obtain ⟨rfl, hm, hs2⟩ := q
  have hs := hs.tr hs2
  rw [if_neg hc] at hm
  rw [bN_f hc]
  show Ex _ 0 0 _ _ _ (Value.int _ :: _) _ _
  refine ex_if_eqN 30 dX12_positiveOf_9 (by decide) (by first | omega | exact bN_lt) (fun q9 => ?_) (fun q9 => ?_)
  · skip
    refine ex_aload_n dX12_positiveOf_30 rfl rfl ?_
    refine ex_iload_n dX12_positiveOf_31 rfl ?_
    refine ex_callV0 (dc := dS) (as := [.int _]) dX12_positiveOf_32 MX12_sumOf kX12_286 iX12_sumOf sX12_sumOf rfl rfl hm.1 rfl rfl (Nat.le_of_ble_eq_true rfl) (Nat.le_of_ble_eq_true rfl) (by first | decide | omega) (hS live _ _ _ _ _ _ hS1 hm) (fun r h2 q => ?_)
    obtain ⟨rfl, hm, hs2⟩ := q
    have hs := hs.tr hs2
    show Ex _ 0 0 _ _ _ (Value.long _ :: _) _ _
    refine ex_lstore_n dX12_positiveOf_35 (by decide) ?_
    refine ex_aload_n dX12_positiveOf_36 rfl rfl ?_
    refine ex_aload_n dX12_positiveOf_37 rfl rfl ?_
    refine ex_getf fX12_256 dX12_positiveOf_38 hm.1 (congrArg (fun z => some (Value.int z)) (show (evS σ (g1) b1).1 21 = nI (g1) from rfl)) ?_
    refine ex_callV0 (dc := 0) (as := [.int _]) dX12_positiveOf_41 MX12_codeAt kX12_259 iX12_codeAt sX12_codeAt rfl rfl hm.1 rfl rfl (Nat.le_of_ble_eq_true rfl) (Nat.le_of_ble_eq_true rfl) (by first | decide | omega) (e_codeAt _ (by omega) hge hge2 hm) (fun r h2 q => ?_)
    obtain ⟨rfl, rfl⟩ := q
    show Ex _ 0 0 _ _ _ (Value.int _ :: _) _ _
    refine ex_istore dX12_positiveOf_44 (by decide) ?_
    refine ex_aload_n dX12_positiveOf_46 rfl rfl ?_
    refine ex_dup dX12_positiveOf_47 rfl ?_
    refine ex_getf fX12_256 dX12_positiveOf_48 hm.1 (congrArg (fun z => some (Value.int z)) (show (evS σ (g1) b1).1 21 = nI (g1) from rfl)) ?_
    refine ex_iconstN (nI 1) dX12_positiveOf_51 (by decide) ?_
    refine ex_iaddN dX12_positiveOf_52 ?_
    refine m_put hm hs pX12_256 dX12_positiveOf_53 (by decide) (ms21 _ _ _) (fun h1 hm hs => ?_)
    rw [evS_go] at hm
    refine ex_aload_n dX12_positiveOf_56 rfl rfl ?_
    refine ex_iload_n dX12_positiveOf_57 rfl ?_
    refine ex_callV0 (dc := dS) (as := [.int _]) dX12_positiveOf_58 MX12_sumOf kX12_286 iX12_sumOf sX12_sumOf rfl rfl hm.1 rfl rfl (Nat.le_of_ble_eq_true rfl) (Nat.le_of_ble_eq_true rfl) (by first | decide | omega) (hS live _ _ _ _ _ _ hS2 hm) (fun r h2 q => ?_)
    obtain ⟨rfl, hm, hs2⟩ := q
    have hs := hs.tr hs2
    show Ex _ 0 0 _ _ _ (Value.long _ :: _) _ _
    refine ex_lstore dX12_positiveOf_61 (by decide) ?_
    refine ex_iload_n dX12_positiveOf_63 rfl ?_
    refine ex_if_eqN 125 dX12_positiveOf_64 (by decide) (by first | omega | exact bN_lt) (fun q64 => ?_) (fun q64 => ?_)
    · skip
      refine ex_iconstN (nI 0) dX12_positiveOf_125 (by decide) ?_
      refine ex_zret rfl (by first | exact bN_z | rfl | decide | assumption) dX12_positiveOf_126 ?_
      exact ⟨congrArg (fun z => some (Value.int (nI z))) (po0a q64), hm, hs⟩
    · skip
      refine ex_aload_n dX12_positiveOf_67 rfl rfl ?_
      refine ex_getf fX12_266 dX12_positiveOf_68 hm.1 (congrArg (fun z => some (Value.int z)) (show (evS σ g2 b2).1 23 = nI (bN (b2 = true)) from rfl)) ?_
      refine ex_if_neN 125 dX12_positiveOf_71 (by decide) (by first | omega | exact bN_lt) (fun q71 => ?_) (fun q71 => ?_)
      · skip
        refine ex_iconstN (nI 0) dX12_positiveOf_125 (by decide) ?_
        refine ex_zret rfl (by first | exact bN_z | rfl | decide | assumption) dX12_positiveOf_126 ?_
        exact ⟨congrArg (fun z => some (Value.int (nI z))) (po0b q71), hm, hs⟩
      · skip
        refine ex_iload dX12_positiveOf_74 rfl ?_
        refine ex_bipushN (nI 60) dX12_positiveOf_76 (by decide) ?_
        refine ex_callS0 (dc := 0) (as := [.int _]) dX12_positiveOf_78 MX12_sign kX12_215 tX12_sign rfl rfl (Nat.le_of_ble_eq_true rfl) (Nat.le_of_ble_eq_true rfl) (by first | decide | omega) (e_sign _ _) (fun r h2 q => ?_)
        obtain ⟨rfl, rfl⟩ := q
        show Ex _ 0 0 _ _ _ (Value.int _ :: _) _ _
        rw [sgn]
        refine ex_icmp_ne 94 dX12_positiveOf_81 (by decide) (fun q81 => ?_) (fun q81 => ?_)
        · skip
          refine ex_iload dX12_positiveOf_94 rfl ?_
          refine ex_bipushN (nI 62) dX12_positiveOf_96 (by decide) ?_
          refine ex_callS0 (dc := 0) (as := [.int _]) dX12_positiveOf_98 MX12_sign kX12_215 tX12_sign rfl rfl (Nat.le_of_ble_eq_true rfl) (Nat.le_of_ble_eq_true rfl) (by first | decide | omega) (e_sign _ _) (fun r h2 q => ?_)
          obtain ⟨rfl, rfl⟩ := q
          show Ex _ 0 0 _ _ _ (Value.int _ :: _) _ _
          rw [sgn]
          refine ex_icmp_ne 114 dX12_positiveOf_101 (by decide) (fun q101 => ?_) (fun q101 => ?_)
          · skip
            refine ex_lload_n dX12_positiveOf_114 rfl ?_
            refine ex_lload dX12_positiveOf_115 rfl ?_
            refine ex_lcmp dX12_positiveOf_117 ?_
            refine ex_if_ne 125 dX12_positiveOf_118 (by decide) (fun q118 => ?_) (fun q118 => ?_)
            · skip
              refine ex_iconstN (nI 0) dX12_positiveOf_125 (by decide) ?_
              refine ex_zret rfl (by first | exact bN_z | rfl | decide | assumption) dX12_positiveOf_126 ?_
              exact ⟨congrArg (fun z => some (Value.int (nI z))) (po0c ((cv_eq q81 q101).trans (decide_eq_false (fun z => q118 ((lg_cmp_eq _ _).mpr z))))), hm, hs⟩
            · skip
              refine ex_iconstN (nI 1) dX12_positiveOf_121 (by decide) ?_
              refine ex_goto 126 dX12_positiveOf_122 (by decide) ?_
              refine ex_zret rfl (by first | exact bN_z | rfl | decide | assumption) dX12_positiveOf_126 ?_
              exact ⟨congrArg (fun z => some (Value.int (nI z))) (po1 q64 q71 ((cv_eq q81 q101).trans (decide_eq_true ((lg_cmp_eq _ _).mp q118)))), hm, hs⟩
          · skip
            refine ex_lload_n dX12_positiveOf_104 rfl ?_
            refine ex_lload dX12_positiveOf_105 rfl ?_
            refine ex_lcmp dX12_positiveOf_107 ?_
            refine ex_if_le 125 dX12_positiveOf_108 (by decide) (fun q108 => ?_) (fun q108 => ?_)
            · skip
              refine ex_iconstN (nI 0) dX12_positiveOf_125 (by decide) ?_
              refine ex_zret rfl (by first | exact bN_z | rfl | decide | assumption) dX12_positiveOf_126 ?_
              exact ⟨congrArg (fun z => some (Value.int (nI z))) (po0c ((cv_gt q81 q101).trans (decide_eq_false (Int64.not_lt.mpr ((lg_cmp_le _ _).mp q108))))), hm, hs⟩
            · skip
              refine ex_goto 121 dX12_positiveOf_111 (by decide) ?_
              refine ex_iconstN (nI 1) dX12_positiveOf_121 (by decide) ?_
              refine ex_goto 126 dX12_positiveOf_122 (by decide) ?_
              refine ex_zret rfl (by first | exact bN_z | rfl | decide | assumption) dX12_positiveOf_126 ?_
              exact ⟨congrArg (fun z => some (Value.int (nI z))) (po1 q64 q71 ((cv_gt q81 q101).trans (decide_eq_true (Int64.not_le.mp (fun z => q108 ((lg_cmp_le _ _).mpr z)))))), hm, hs⟩
        · skip
          refine ex_lload_n dX12_positiveOf_84 rfl ?_
          refine ex_lload dX12_positiveOf_85 rfl ?_
          refine ex_lcmp dX12_positiveOf_87 ?_
          refine ex_if_ge 125 dX12_positiveOf_88 (by decide) (fun q88 => ?_) (fun q88 => ?_)
          · skip
            refine ex_iconstN (nI 0) dX12_positiveOf_125 (by decide) ?_
            refine ex_zret rfl (by first | exact bN_z | rfl | decide | assumption) dX12_positiveOf_126 ?_
            exact ⟨congrArg (fun z => some (Value.int (nI z))) (po0c ((cv_lt q81).trans (decide_eq_false (Int64.not_lt.mpr ((lg_cmp_ge _ _).mp q88))))), hm, hs⟩
          · skip
            refine ex_goto 121 dX12_positiveOf_91 (by decide) ?_
            refine ex_iconstN (nI 1) dX12_positiveOf_121 (by decide) ?_
            refine ex_goto 126 dX12_positiveOf_122 (by decide) ?_
            refine ex_zret rfl (by first | exact bN_z | rfl | decide | assumption) dX12_positiveOf_126 ?_
            exact ⟨congrArg (fun z => some (Value.int (nI z))) (po1 q64 q71 ((cv_lt q81).trans (decide_eq_true (Int64.not_le.mp (fun z => q88 ((lg_cmp_ge _ _).mpr z)))))), hm, hs⟩
  · skip
    exact absurd rfl q9
set_option maxHeartbeats 400000 in
set_option maxRecDepth 100000 in
theorem p_par {b : Nat} {h : am_H} {σ : am_S} {ge g g2 : Nat} {br b2 live x : Bool} {dT d : Nat} {T : Bool → Nat → Bool → EvB} (hge : σ.1 22 = nI ge) (hge2 : ge ≤ 2800) (hg : g < 2799) (hc : cdA σ.2.1 ge g = nI (100 + 40)) (hd : dT + 1 ≤ d) (hd2 : 2 ≤ d) (hT : OkB mX12_testOf dT b σ T) (hv : T live (g + 1) br = some (x, g2, b2)) (hm : Mo b h (evS σ g br)) : Ex d 0 0 mX12_positiveOf 0 (am_en [.ref b, .int (nI (bN (live = true)))] 7) [] h (fun r h2 => r = some (.int (nI (bN (x = true)))) ∧ Mo b h2 (evS σ (g2 + 1) b2) ∧ Same b h h2) := by
  have hs : Same b h h := Same.rf
  refine ex_aload_n dX12_positiveOf_0 rfl rfl ?_
  refine ex_bipushN (nI 40) dX12_positiveOf_1 (by decide) ?_
  refine ex_callS0 (dc := 0) (as := [.int _]) dX12_positiveOf_3 MX12_sign kX12_215 tX12_sign rfl rfl (Nat.le_of_ble_eq_true rfl) (Nat.le_of_ble_eq_true rfl) (by first | decide | omega) (e_sign _ _) (fun r h2 q => ?_)
  obtain ⟨rfl, rfl⟩ := q
  show Ex _ 0 0 _ _ _ (Value.int _ :: _) _ _
  rw [sgn]
  refine ex_callV0 (dc := 1) (as := [.int _]) dX12_positiveOf_6 MX12_passes0 kX12_283 iX12_passes0 sX12_passes0 rfl rfl hm.1 rfl rfl (Nat.le_of_ble_eq_true rfl) (Nat.le_of_ble_eq_true rfl) (by first | decide | omega) (e_passes0 _ (by omega) hge hge2 hm) (fun r h2 q => ?_)
  obtain ⟨rfl, hm, hs2⟩ := q
  have hs := hs.tr hs2
  rw [if_pos hc] at hm
  rw [bN_t hc]
  show Ex _ 0 0 _ _ _ (Value.int _ :: _) _ _
  refine ex_if_eqN 30 dX12_positiveOf_9 (by decide) (by first | omega | exact bN_lt) (fun q9 => ?_) (fun q9 => ?_)
  · skip
    exact absurd q9 (by decide)
  · skip
    refine ex_aload_n dX12_positiveOf_12 rfl rfl ?_
    refine ex_iload_n dX12_positiveOf_13 rfl ?_
    refine ex_callV0 (dc := dT) (as := [.int _]) dX12_positiveOf_14 MX12_testOf kX12_304 iX12_testOf sX12_testOf rfl rfl hm.1 rfl rfl (Nat.le_of_ble_eq_true rfl) (Nat.le_of_ble_eq_true rfl) (by first | decide | omega) (hT _ _ _ _ _ _ _ hv hm) (fun r h2 q => ?_)
    obtain ⟨rfl, hm, hs2⟩ := q
    have hs := hs.tr hs2
    show Ex _ 0 0 _ _ _ (Value.int _ :: _) _ _
    refine ex_istore_n dX12_positiveOf_17 (by decide) ?_
    refine ex_aload_n dX12_positiveOf_18 rfl rfl ?_
    refine ex_dup dX12_positiveOf_19 rfl ?_
    refine ex_getf fX12_256 dX12_positiveOf_20 hm.1 (congrArg (fun z => some (Value.int z)) (show (evS σ (g2) b2).1 21 = nI (g2) from rfl)) ?_
    refine ex_iconstN (nI 1) dX12_positiveOf_23 (by decide) ?_
    refine ex_iaddN dX12_positiveOf_24 ?_
    refine m_put hm hs pX12_256 dX12_positiveOf_25 (by decide) (ms21 _ _ _) (fun h1 hm hs => ?_)
    rw [evS_go] at hm
    refine ex_iload_n dX12_positiveOf_28 rfl ?_
    refine ex_zret rfl (by first | exact bN_z | rfl | decide | assumption) dX12_positiveOf_29 ?_
    exact ⟨rfl, hm, hs⟩
theorem ok_pos {b : Nat} {σ : am_S} {ge : Nat} {dS dT d : Nat} {T : Bool → Nat → Bool → EvB} {S : Bool → Nat → Bool → EvR} (hge : σ.1 22 = nI ge) (hge2 : ge ≤ 2800) (hd : dS + 1 ≤ d) (hdT : dT + 1 ≤ d) (hd2 : 2 ≤ d) (hS : ∀ live, OkP mX12_sumOf dS b σ live (S live)) (hT : OkB mX12_testOf dT b σ T) : OkB mX12_positiveOf d b σ (pov T S σ.2.1 ge) := by
  intro live g br v g2 b2 h hv hm
  unfold pov at hv
  by_cases hg : g < 2799
  · rw [if_pos hg] at hv
    by_cases hc : cdA σ.2.1 ge g = nI 140
    · rw [if_pos hc] at hv
      cases hq : T live (g + 1) br with
      | none => rw [hq] at hv; cases hv
      | some q =>
        obtain ⟨x0, g0, b0⟩ := q
        rw [hq] at hv
        simp only [Option.some.injEq, Prod.mk.injEq] at hv
        obtain ⟨e1, e2, e3⟩ := hv
        rw [← e1, ← e2, ← e3]
        exact p_par hge hge2 hg hc hdT hd2 hT hq hm
    · rw [if_neg hc] at hv
      cases hq : S live g br with
      | none => rw [hq] at hv; cases hv
      | some q =>
        obtain ⟨a, g1, b1⟩ := q
        rw [hq] at hv
        dsimp only at hv
        by_cases hg1 : g1 < 2799
        · rw [if_pos hg1] at hv
          cases hq2 : S live (g1 + 1) b1 with
          | none => rw [hq2] at hv; cases hv
          | some q2 =>
            obtain ⟨c, g3, b3⟩ := q2
            rw [hq2] at hv
            simp only [Option.some.injEq, Prod.mk.injEq] at hv
            obtain ⟨e1, e2, e3⟩ := hv
            rw [← e1, ← e2, ← e3]
            exact p_cmp hge hge2 hg hg1 hc hd hd2 hS hq hq2 hm
        · rw [if_neg hg1] at hv
          cases hv
  · rw [if_neg hg] at hv
    cases hv
/-- a test, with at most D brackets "(" within one another -/
def tsv (S : Bool → Nat → Bool → EvR) (A : Nat → Nat → Int32) (ge : Nat) : Nat → Bool → Nat → Bool → EvB
  | 0 => fun _ _ _ => none
  | D + 1 => tev (bov (fun live g br => nlp (pov (tsv S A ge D) S A ge) A ge live 402 false g br) A ge) A ge
theorem ok_test {b : Nat} {σ : am_S} {ge : Nat} {dS : Nat} {S : Bool → Nat → Bool → EvR} (hge : σ.1 22 = nI ge) (hge2 : ge ≤ 2800) (hS : ∀ live, OkP mX12_sumOf dS b σ live (S live)) : ∀ D : Nat, OkB mX12_testOf (dS + 4 * D + 4) b σ (tsv S σ.2.1 ge D) := by
  intro D
  induction D with
  | zero =>
    intro live g br v g2 b2 h hv hm
    cases hv
  | succ D ih =>
    exact ok_testOf (dC := dS + 4 * D + 7) hge hge2 (by omega) (by omega) (ok_bothOf (dC := dS + 4 * D + 6) hge hge2 (by omega) (by omega) (ok_plain (dC := dS + 4 * D + 5) hge hge2 (by omega) (by omega) (ok_pos (dT := dS + 4 * D + 4) hge hge2 (by omega) (by omega) (by omega) hS ih)))
