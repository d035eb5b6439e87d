/-! THE REFERENCE: sums, brackets: whole sums are answered as told -/
set_option maxHeartbeats 400000 in
set_option maxRecDepth 100000 in
theorem l_sum38 {b : Nat} {h0 h : am_H} {σ : am_S} {ge g g2 : Nat} {live br b1 : Bool} {v w : Int64} {dT d : Nat} {P : Nat → Bool → EvR} {x4 x5 x6 : Value} (hge : σ.1 22 = nI ge) (hge2 : ge ≤ 2800) (hg : g < 2799) (hd : dT + 1 ≤ d) {Q : Option Value → am_H → Prop} (hT : OkP mX12_termOf dT b σ live P) (hTv : P (g + 1) br = some (w, g2, b1)) (hm : Mo b h (evS σ g br)) (hs : Same b h0 h)
    (hk : ∀ (h2 : am_H) (z : Int32), Mo b h2 (evS σ g2 (bdb (sx (cdA σ.2.1 ge g) v w) live b1)) → Same b h0 h2 → Ex d 0 0 mX12_sumOf 6 [.ref b, .int (nI (bN (live = true))), .long (bdv (sx (cdA σ.2.1 ge g) v w) live b1), .retAddr 0, .int z, .long w, .retAddr 0] [] h2 Q) : Ex d 0 0 mX12_sumOf 38 [.ref b, .int (nI (bN (live = true))), .long v, .retAddr 0, x4, x5, x6] [] h Q := by
  refine ex_aload_n dX12_sumOf_38 rfl rfl ?_
  refine ex_aload_n dX12_sumOf_39 rfl rfl ?_
  refine ex_getf fX12_256 dX12_sumOf_40 hm.1 (congrArg (fun z => some (Value.int z)) (show (evS σ (g) br).1 21 = nI (g) from rfl)) ?_
  refine ex_callV0 (dc := 0) (as := [.int _]) dX12_sumOf_43 MX12_codeAt kX12_259 iX12_codeAt sX12_codeAt rfl rfl hm.1 rfl rfl (Nat.le_of_ble_eq_true rfl) (Nat.le_of_ble_eq_true rfl) (by first | decide | omega) (e_codeAt _ (by omega) hge hge2 hm) (fun r h2 q => ?_)
  obtain ⟨rfl, rfl⟩ := q
  show Ex _ 0 0 _ _ _ (Value.int _ :: _) _ _
  refine ex_bipushN (nI 43) dX12_sumOf_46 (by decide) ?_
  refine ex_callS0 (dc := 0) (as := [.int _]) dX12_sumOf_48 MX12_sign kX12_215 tX12_sign rfl rfl (Nat.le_of_ble_eq_true rfl) (Nat.le_of_ble_eq_true rfl) (by first | decide | omega) (e_sign _ _) (fun r h2 q => ?_)
  obtain ⟨rfl, rfl⟩ := q
  show Ex _ 0 0 _ _ _ (Value.int _ :: _) _ _
  rw [sgn]
  refine ex_icmp_ne 58 dX12_sumOf_51 (by decide) (fun q51 => ?_) (fun q51 => ?_)
  · skip
    refine ex_iconstN (nI 0) dX12_sumOf_58 (by decide) ?_
    refine ex_istore dX12_sumOf_59 (by decide) ?_
    refine ex_aload_n dX12_sumOf_61 rfl rfl ?_
    refine ex_dup dX12_sumOf_62 rfl ?_
    refine ex_getf fX12_256 dX12_sumOf_63 hm.1 (congrArg (fun z => some (Value.int z)) (show (evS σ (g) br).1 21 = nI (g) from rfl)) ?_
    refine ex_iconstN (nI 1) dX12_sumOf_66 (by decide) ?_
    refine ex_iaddN dX12_sumOf_67 ?_
    refine m_put hm hs pX12_256 dX12_sumOf_68 (by decide) (ms21 _ _ _) (fun h1 hm hs => ?_)
    rw [evS_go] at hm
    refine ex_aload_n dX12_sumOf_71 rfl rfl ?_
    refine ex_iload_n dX12_sumOf_72 rfl ?_
    refine ex_callV0 (dc := dT) (as := [.int _]) dX12_sumOf_73 MX12_termOf kX12_269 iX12_termOf sX12_termOf rfl rfl hm.1 rfl rfl (Nat.le_of_ble_eq_true rfl) (Nat.le_of_ble_eq_true rfl) (by first | decide | omega) (hT _ _ _ _ _ _ hTv hm) (fun r h2 q => ?_)
    obtain ⟨rfl, hm, hs2⟩ := q
    have hs := hs.tr hs2
    show Ex _ 0 0 _ _ _ (Value.long _ :: _) _ _
    refine ex_lstore dX12_sumOf_76 (by decide) ?_
    refine ex_aload_n dX12_sumOf_78 rfl rfl ?_
    refine ex_iload dX12_sumOf_79 rfl ?_
    refine ex_if_eqN 91 dX12_sumOf_81 (by decide) (by first | omega | exact bN_lt) (fun q81 => ?_) (fun q81 => ?_)
    · skip
      refine ex_lload_n dX12_sumOf_91 rfl ?_
      refine ex_lload dX12_sumOf_92 rfl ?_
      refine ex_lsub dX12_sumOf_94 ?_
      refine ex_iload_n dX12_sumOf_95 rfl ?_
      refine ex_callV0 (dc := 0) (as := [.long _, .int _]) dX12_sumOf_96 MX12_bounded kX12_273 iX12_bounded sX12_bounded rfl rfl hm.1 rfl rfl (Nat.le_of_ble_eq_true rfl) (Nat.le_of_ble_eq_true rfl) (by first | decide | omega) (e_bounded _ live b1 rfl hm) (fun r h2 q => ?_)
      obtain ⟨rfl, hm, hs2⟩ := q
      have hs := hs.tr hs2
      rw [evS_br] at hm
      show Ex _ 0 0 _ _ _ (Value.long _ :: _) _ _
      refine ex_lstore_n dX12_sumOf_99 (by decide) ?_
      refine ex_goto 6 dX12_sumOf_100 (by decide) ?_
      rw [show sx (cdA σ.2.1 ge g) v w = v - w from if_neg q51] at hk
      exact hk _ _ hm hs
    · skip
      exact absurd rfl q81
  · skip
    refine ex_iconstN (nI 1) dX12_sumOf_54 (by decide) ?_
    refine ex_goto 59 dX12_sumOf_55 (by decide) ?_
    refine ex_istore dX12_sumOf_59 (by decide) ?_
    refine ex_aload_n dX12_sumOf_61 rfl rfl ?_
    refine ex_dup dX12_sumOf_62 rfl ?_
    refine ex_getf fX12_256 dX12_sumOf_63 hm.1 (congrArg (fun z => some (Value.int z)) (show (evS σ (g) br).1 21 = nI (g) from rfl)) ?_
    refine ex_iconstN (nI 1) dX12_sumOf_66 (by decide) ?_
    refine ex_iaddN dX12_sumOf_67 ?_
    refine m_put hm hs pX12_256 dX12_sumOf_68 (by decide) (ms21 _ _ _) (fun h1 hm hs => ?_)
    rw [evS_go] at hm
    refine ex_aload_n dX12_sumOf_71 rfl rfl ?_
    refine ex_iload_n dX12_sumOf_72 rfl ?_
    refine ex_callV0 (dc := dT) (as := [.int _]) dX12_sumOf_73 MX12_termOf kX12_269 iX12_termOf sX12_termOf rfl rfl hm.1 rfl rfl (Nat.le_of_ble_eq_true rfl) (Nat.le_of_ble_eq_true rfl) (by first | decide | omega) (hT _ _ _ _ _ _ hTv hm) (fun r h2 q => ?_)
    obtain ⟨rfl, hm, hs2⟩ := q
    have hs := hs.tr hs2
    show Ex _ 0 0 _ _ _ (Value.long _ :: _) _ _
    refine ex_lstore dX12_sumOf_76 (by decide) ?_
    refine ex_aload_n dX12_sumOf_78 rfl rfl ?_
    refine ex_iload dX12_sumOf_79 rfl ?_
    refine ex_if_eqN 91 dX12_sumOf_81 (by decide) (by first | omega | exact bN_lt) (fun q81 => ?_) (fun q81 => ?_)
    · skip
      exact absurd q81 (by decide)
    · skip
      refine ex_lload_n dX12_sumOf_84 rfl ?_
      refine ex_lload dX12_sumOf_85 rfl ?_
      refine ex_ladd dX12_sumOf_87 ?_
      refine ex_goto 95 dX12_sumOf_88 (by decide) ?_
      refine ex_iload_n dX12_sumOf_95 rfl ?_
      refine ex_callV0 (dc := 0) (as := [.long _, .int _]) dX12_sumOf_96 MX12_bounded kX12_273 iX12_bounded sX12_bounded rfl rfl hm.1 rfl rfl (Nat.le_of_ble_eq_true rfl) (Nat.le_of_ble_eq_true rfl) (by first | decide | omega) (e_bounded _ live b1 rfl hm) (fun r h2 q => ?_)
      obtain ⟨rfl, hm, hs2⟩ := q
      have hs := hs.tr hs2
      rw [evS_br] at hm
      show Ex _ 0 0 _ _ _ (Value.long _ :: _) _ _
      refine ex_lstore_n dX12_sumOf_99 (by decide) ?_
      refine ex_goto 6 dX12_sumOf_100 (by decide) ?_
      rw [show sx (cdA σ.2.1 ge g) v w = v + w from if_pos q51] at hk
      exact hk _ _ hm hs
set_option maxHeartbeats 400000 in
set_option maxRecDepth 100000 in
theorem l_sums {b : Nat} {h0 : am_H} {σ : am_S} {ge : Nat} {live : Bool} {dT d : Nat} {P : Nat → Bool → EvR} (hge : σ.1 22 = nI ge) (hge2 : ge ≤ 2800) (hd : dT + 1 ≤ d) (hT : OkP mX12_termOf dT b σ live (tmv P σ.2.1 ge live)) {vr : Int64} {gr : Nat} {br2 : Bool} : ∀ (f : Nat) (v : Int64) (g : Nat) (br : Bool) (h : am_H) (x4 x5 x6 : Value), slp P σ.2.1 ge live f v g br = some (vr, gr, br2) → Mo b h (evS σ g br) → Same b h0 h → Ex d 0 0 mX12_sumOf 6 [.ref b, .int (nI (bN (live = true))), .long v, .retAddr 0, x4, x5, x6] [] h (fun r h2 => r = some (.long vr) ∧ Mo b h2 (evS σ gr br2) ∧ Same b h0 h2) := by
  intro f
  induction f with
  | zero => intro v g br h x4 x5 x6 hv; cases hv
  | succ f ih =>
    intro v g br h x4 x5 x6 hv hm hs
    simp only [slp] at hv
    by_cases hg : g < 2799
    · rw [if_pos hg] at hv
      by_cases hc : cdA σ.2.1 ge g = nI 143 ∨ cdA σ.2.1 ge g = nI 145
      · rw [if_pos hc] at hv
        cases hTv : tmv P σ.2.1 ge live (g + 1) br with
        | none => rw [hTv] at hv; cases hv
        | some q =>
          obtain ⟨w, g2, b1⟩ := q
          rw [hTv] at hv
          dsimp only at hv
          refine ex_aload_n dX12_sumOf_6 rfl rfl ?_
          refine ex_aload_n dX12_sumOf_7 rfl rfl ?_
          refine ex_getf fX12_256 dX12_sumOf_8 hm.1 (congrArg (fun z => some (Value.int z)) (show (evS σ (g) br).1 21 = nI (g) from rfl)) ?_
          refine ex_callV0 (dc := 0) (as := [.int _]) dX12_sumOf_11 MX12_codeAt kX12_259 iX12_codeAt sX12_codeAt rfl rfl hm.1 rfl rfl (Nat.le_of_ble_eq_true rfl) (Nat.le_of_ble_eq_true rfl) (by first | decide | omega) (e_codeAt _ (by omega) hge hge2 hm) (fun r h2 q => ?_)
          obtain ⟨rfl, rfl⟩ := q
          show Ex _ 0 0 _ _ _ (Value.int _ :: _) _ _
          refine ex_bipushN (nI 43) dX12_sumOf_14 (by decide) ?_
          refine ex_callS0 (dc := 0) (as := [.int _]) dX12_sumOf_16 MX12_sign kX12_215 tX12_sign rfl rfl (Nat.le_of_ble_eq_true rfl) (Nat.le_of_ble_eq_true rfl) (by first | decide | omega) (e_sign _ _) (fun r h2 q => ?_)
          obtain ⟨rfl, rfl⟩ := q
          show Ex _ 0 0 _ _ _ (Value.int _ :: _) _ _
          rw [sgn]
          refine ex_icmp_eq 38 dX12_sumOf_19 (by decide) (fun q19 => ?_) (fun q19 => ?_)
          · skip
            exact l_sum38 hge hge2 hg hd hT hTv hm hs (fun h2 z hm hs => ih _ _ _ _ _ _ _ hv hm hs)
          · skip
            refine ex_aload_n dX12_sumOf_22 rfl rfl ?_
            refine ex_aload_n dX12_sumOf_23 rfl rfl ?_
            refine ex_getf fX12_256 dX12_sumOf_24 hm.1 (congrArg (fun z => some (Value.int z)) (show (evS σ (g) br).1 21 = nI (g) from rfl)) ?_
            refine ex_callV0 (dc := 0) (as := [.int _]) dX12_sumOf_27 MX12_codeAt kX12_259 iX12_codeAt sX12_codeAt rfl rfl hm.1 rfl rfl (Nat.le_of_ble_eq_true rfl) (Nat.le_of_ble_eq_true rfl) (by first | decide | omega) (e_codeAt _ (by omega) hge hge2 hm) (fun r h2 q => ?_)
            obtain ⟨rfl, rfl⟩ := q
            show Ex _ 0 0 _ _ _ (Value.int _ :: _) _ _
            refine ex_bipushN (nI 45) dX12_sumOf_30 (by decide) ?_
            refine ex_callS0 (dc := 0) (as := [.int _]) dX12_sumOf_32 MX12_sign kX12_215 tX12_sign rfl rfl (Nat.le_of_ble_eq_true rfl) (Nat.le_of_ble_eq_true rfl) (by first | decide | omega) (e_sign _ _) (fun r h2 q => ?_)
            obtain ⟨rfl, rfl⟩ := q
            show Ex _ 0 0 _ _ _ (Value.int _ :: _) _ _
            rw [sgn]
            refine ex_icmp_ne 103 dX12_sumOf_35 (by decide) (fun q35 => ?_) (fun q35 => ?_)
            · skip
              exact absurd hc (fun z => by rcases z with z | z; exact q19 z; exact q35 z)
            · skip
              exact l_sum38 hge hge2 hg hd hT hTv hm hs (fun h2 z hm hs => ih _ _ _ _ _ _ _ hv hm hs)
      · rw [if_neg hc] at hv
        simp only [Option.some.injEq, Prod.mk.injEq] at hv
        obtain ⟨e1, e2, e3⟩ := hv
        refine ex_aload_n dX12_sumOf_6 rfl rfl ?_
        refine ex_aload_n dX12_sumOf_7 rfl rfl ?_
        refine ex_getf fX12_256 dX12_sumOf_8 hm.1 (congrArg (fun z => some (Value.int z)) (show (evS σ (g) br).1 21 = nI (g) from rfl)) ?_
        refine ex_callV0 (dc := 0) (as := [.int _]) dX12_sumOf_11 MX12_codeAt kX12_259 iX12_codeAt sX12_codeAt rfl rfl hm.1 rfl rfl (Nat.le_of_ble_eq_true rfl) (Nat.le_of_ble_eq_true rfl) (by first | decide | omega) (e_codeAt _ (by omega) hge hge2 hm) (fun r h2 q => ?_)
        obtain ⟨rfl, rfl⟩ := q
        show Ex _ 0 0 _ _ _ (Value.int _ :: _) _ _
        refine ex_bipushN (nI 43) dX12_sumOf_14 (by decide) ?_
        refine ex_callS0 (dc := 0) (as := [.int _]) dX12_sumOf_16 MX12_sign kX12_215 tX12_sign rfl rfl (Nat.le_of_ble_eq_true rfl) (Nat.le_of_ble_eq_true rfl) (by first | decide | omega) (e_sign _ _) (fun r h2 q => ?_)
        obtain ⟨rfl, rfl⟩ := q
        show Ex _ 0 0 _ _ _ (Value.int _ :: _) _ _
        rw [sgn]
        refine ex_icmp_eq 38 dX12_sumOf_19 (by decide) (fun q19 => ?_) (fun q19 => ?_)
        · skip
          exact absurd (Or.inl q19) hc
        · skip
          refine ex_aload_n dX12_sumOf_22 rfl rfl ?_
          refine ex_aload_n dX12_sumOf_23 rfl rfl ?_
          refine ex_getf fX12_256 dX12_sumOf_24 hm.1 (congrArg (fun z => some (Value.int z)) (show (evS σ (g) br).1 21 = nI (g) from rfl)) ?_
          refine ex_callV0 (dc := 0) (as := [.int _]) dX12_sumOf_27 MX12_codeAt kX12_259 iX12_codeAt sX12_codeAt rfl rfl hm.1 rfl rfl (Nat.le_of_ble_eq_true rfl) (Nat.le_of_ble_eq_true rfl) (by first | decide | omega) (e_codeAt _ (by omega) hge hge2 hm) (fun r h2 q => ?_)
          obtain ⟨rfl, rfl⟩ := q
          show Ex _ 0 0 _ _ _ (Value.int _ :: _) _ _
          refine ex_bipushN (nI 45) dX12_sumOf_30 (by decide) ?_
          refine ex_callS0 (dc := 0) (as := [.int _]) dX12_sumOf_32 MX12_sign kX12_215 tX12_sign rfl rfl (Nat.le_of_ble_eq_true rfl) (Nat.le_of_ble_eq_true rfl) (by first | decide | omega) (e_sign _ _) (fun r h2 q => ?_)
          obtain ⟨rfl, rfl⟩ := q
          show Ex _ 0 0 _ _ _ (Value.int _ :: _) _ _
          rw [sgn]
          refine ex_icmp_ne 103 dX12_sumOf_35 (by decide) (fun q35 => ?_) (fun q35 => ?_)
          · skip
            refine ex_lload_n dX12_sumOf_103 rfl ?_
            refine ex_lret rfl dX12_sumOf_104 ?_
            exact ⟨by rw [e1], by rw [← e2, ← e3]; exact hm, hs⟩
          · skip
            exact absurd (Or.inr q35) hc
    · rw [if_neg hg] at hv
      cases hv
set_option maxHeartbeats 400000 in
set_option maxRecDepth 100000 in
theorem ok_sum {b : Nat} {σ : am_S} {ge : Nat} {live : Bool} {dT d : Nat} {P : Nat → Bool → EvR} (hge : σ.1 22 = nI ge) (hge2 : ge ≤ 2800) (hd : dT + 1 ≤ d) (hT : OkP mX12_termOf dT b σ live (tmv P σ.2.1 ge live)) : OkP mX12_sumOf d b σ live (smv P σ.2.1 ge live) := by
  intro g br v g2 b2 h hv hm
  have hs : Same b h h := Same.rf
  unfold smv at hv
  cases hTv : tmv P σ.2.1 ge live g br with
  | none => rw [hTv] at hv; cases hv
  | some q =>
    obtain ⟨v0, g0, b0⟩ := q
    rw [hTv] at hv
    dsimp only at hv
    refine ex_aload_n dX12_sumOf_0 rfl rfl ?_
    refine ex_iload_n dX12_sumOf_1 rfl ?_
    refine ex_callV0 (dc := dT) (as := [.int _]) dX12_sumOf_2 MX12_termOf kX12_269 iX12_termOf sX12_termOf rfl rfl hm.1 rfl rfl (Nat.le_of_ble_eq_true rfl) (Nat.le_of_ble_eq_true rfl) (by first | decide | omega) (hT _ _ _ _ _ _ hTv hm) (fun r h2 q => ?_)
    obtain ⟨rfl, hm, hs2⟩ := q
    have hs := hs.tr hs2
    show Ex _ 0 0 _ _ _ (Value.long _ :: _) _ _
    refine ex_lstore_n dX12_sumOf_5 (by decide) ?_
    exact l_sums hge hge2 hd hT _ _ _ _ _ _ _ _ hv hm hs
set_option maxHeartbeats 400000 in
set_option maxRecDepth 100000 in
theorem p_br {b : Nat} {h : am_H} {σ : am_S} {ge g g2 : Nat} {br b2 live : Bool} {v : Int64} {dS d : Nat} {P : Nat → Bool → EvR} (hge : σ.1 22 = nI ge) (hge2 : ge ≤ 2800) (hg : g < 2799) (hc : cdA σ.2.1 ge g = nI (100 + 91)) (hd : dS + 1 ≤ d) (hd2 : 2 ≤ d) (hS : OkP mX12_sumOf dS b σ live P) (hv : P (g + 1) br = some (v, g2, b2)) (hm : Mo b h (evS σ g br)) : Ex d 0 0 mX12_partOf 0 (am_en [.ref b, .int (nI (bN (live = true)))] 4) [] h (fun r h2 => r = some (.long v) ∧ Mo b h2 (evS σ (g2 + 1) b2) ∧ Same b h h2) := by
  have hs : Same b h h := Same.rf
  refine ex_aload_n dX12_partOf_0 rfl rfl ?_
  refine ex_bipushN (nI 91) dX12_partOf_1 (by decide) ?_
  refine ex_callS0 (dc := 0) (as := [.int _]) dX12_partOf_3 MX12_sign kX12_215 tX12_sign rfl rfl (Nat.le_of_ble_eq_true rfl) (Nat.le_of_ble_eq_true rfl) (by first | decide | omega) (e_sign _ _) (fun r h2 q => ?_)
  obtain ⟨rfl, rfl⟩ := q
  show Ex _ 0 0 _ _ _ (Value.int _ :: _) _ _
  rw [sgn]
  refine ex_callV0 (dc := 1) (as := [.int _]) dX12_partOf_6 MX12_passes0 kX12_283 iX12_passes0 sX12_passes0 rfl rfl hm.1 rfl rfl (Nat.le_of_ble_eq_true rfl) (Nat.le_of_ble_eq_true rfl) (by first | decide | omega) (e_passes0 _ (by omega) hge hge2 hm) (fun r h2 q => ?_)
  obtain ⟨rfl, hm, hs2⟩ := q
  have hs := hs.tr hs2
  rw [if_pos hc] at hm
  rw [bN_t hc]
  show Ex _ 0 0 _ _ _ (Value.int _ :: _) _ _
  refine ex_if_eqN 30 dX12_partOf_9 (by decide) (by first | omega | exact bN_lt) (fun q9 => ?_) (fun q9 => ?_)
  · skip
    exact absurd q9 (by decide)
  · skip
    refine ex_aload_n dX12_partOf_12 rfl rfl ?_
    refine ex_iload_n dX12_partOf_13 rfl ?_
    refine ex_callV0 (dc := dS) (as := [.int _]) dX12_partOf_14 MX12_sumOf kX12_286 iX12_sumOf sX12_sumOf rfl rfl hm.1 rfl rfl (Nat.le_of_ble_eq_true rfl) (Nat.le_of_ble_eq_true rfl) (by first | decide | omega) (hS _ _ _ _ _ _ hv hm) (fun r h2 q => ?_)
    obtain ⟨rfl, hm, hs2⟩ := q
    have hs := hs.tr hs2
    show Ex _ 0 0 _ _ _ (Value.long _ :: _) _ _
    refine ex_lstore_n dX12_partOf_17 (by decide) ?_
    refine ex_aload_n dX12_partOf_18 rfl rfl ?_
    refine ex_dup dX12_partOf_19 rfl ?_
    refine ex_getf fX12_256 dX12_partOf_20 hm.1 (congrArg (fun z => some (Value.int z)) (show (evS σ (g2) b2).1 21 = nI (g2) from rfl)) ?_
    refine ex_iconstN (nI 1) dX12_partOf_23 (by decide) ?_
    refine ex_iaddN dX12_partOf_24 ?_
    refine m_put hm hs pX12_256 dX12_partOf_25 (by decide) (ms21 _ _ _) (fun h1 hm hs => ?_)
    rw [evS_go] at hm
    refine ex_lload_n dX12_partOf_28 rfl ?_
    refine ex_lret rfl dX12_partOf_29 ?_
    exact ⟨rfl, hm, hs⟩
theorem ok_part {b : Nat} {σ : am_S} {ge n : Nat} {live inO : Bool} (hge : σ.1 22 = nI ge) (hge2 : ge ≤ 2800) (h24 : σ.1 24 = nI (bN (inO = true))) (hn : σ.2.1 1 96 = nI n) (hn6 : n ≤ 6) : ∀ D : Nat, OkP mX12_partOf (3 * D + 3) b σ live (ptv σ.2.1 ge n inO live D) := by
  intro D
  induction D with
  | zero =>
    intro g br v g2 b2 h hv hm
    simp only [ptv] at hv
    by_cases hg : g < 2799
    · rw [if_pos hg] at hv
      exact ok_leaf live inO hge hge2 hg h24 hn hn6 hv hm
    · rw [if_neg hg] at hv
      cases hv
  | succ D ih =>
    intro g br v g2 b2 h hv hm
    simp only [ptv] at hv
    by_cases hg : g < 2799
    · rw [if_pos hg] at hv
      by_cases hc : cdA σ.2.1 ge g = nI 191
      · rw [if_pos hc] at hv
        cases hq : smv (ptv σ.2.1 ge n inO live D) σ.2.1 ge live (g + 1) br with
        | none => rw [hq] at hv; cases hv
        | some q =>
          obtain ⟨v0, g0, b0⟩ := q
          rw [hq] at hv
          simp only [Option.some.injEq, Prod.mk.injEq] at hv
          obtain ⟨e1, e2, e3⟩ := hv
          rw [← e1, ← e2, ← e3]
          exact p_br (dS := 3 * D + 5) hge hge2 hg hc (by omega) (by omega) (ok_sum (dT := 3 * D + 4) hge hge2 (by omega) (ok_term (dP := 3 * D + 3) hge hge2 (by omega) ih)) hq hm
      · rw [if_neg hc] at hv
        exact (ok_leaf live inO hge hge2 hg h24 hn hn6 hv hm).widen (by omega) (Nat.le_refl _) (Nat.le_refl _)
    · rw [if_neg hg] at hv
      cases hv
/-- a sum, at most 8 brackets deep -/
abbrev sumv (A : Nat → Nat → Int32) (ge n : Nat) (inO live : Bool) : Nat → Bool → EvR := smv (ptv A ge n inO live 8) A ge live
theorem ok_sumv {b : Nat} {σ : am_S} {ge n : Nat} {live inO : Bool} (hge : σ.1 22 = nI ge) (hge2 : ge ≤ 2800) (h24 : σ.1 24 = nI (bN (inO = true))) (hn : σ.2.1 1 96 = nI n) (hn6 : n ≤ 6) : OkP mX12_sumOf 29 b σ live (sumv σ.2.1 ge n inO live) := ok_sum (dT := 28) hge hge2 (by omega) (ok_term (dP := 27) hge hge2 (by omega) (ok_part hge hge2 h24 hn hn6 8))
