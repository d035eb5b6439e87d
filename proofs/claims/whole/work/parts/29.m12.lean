/-! THE REFERENCE: terms and sums, their loops -/
set_option maxHeartbeats 400000 in
set_option maxRecDepth 100000 in
theorem l_term54 {b : Nat} {h0 h : am_H} {σ : am_S} {ge g g2 : Nat} {live br b1 : Bool} {v w : Int64} {dP d : Nat} {P : Nat → Bool → EvR} {x4 x5 x6 : Value} (hge : σ.1 22 = nI ge) (hge2 : ge ≤ 2800) (hg : g < 2799) (hd : dP + 1 ≤ d) {Q : Option Value → am_H → Prop} (hP : OkP mX12_partOf dP b σ live P) (hPv : P (g + 1) br = some (w, g2, b1)) (hm : Mo b h (evS σ g br)) (hs : Same b h0 h)
    (hk : ∀ h2, Mo b h2 (evS σ g2 (bdb (tx (cdA σ.2.1 ge g) v (tw (cdA σ.2.1 ge g) w)) live (tb (cdA σ.2.1 ge g) w live b1))) → Same b h0 h2 → Ex d 0 0 mX12_termOf 6 [.ref b, .int (nI (bN (live = true))), .long (bdv (tx (cdA σ.2.1 ge g) v (tw (cdA σ.2.1 ge g) w)) live (tb (cdA σ.2.1 ge g) w live b1)), .retAddr 0, .int (cdA σ.2.1 ge g), .long (tw (cdA σ.2.1 ge g) w), .retAddr 0] [] h2 Q) : Ex d 0 0 mX12_termOf 54 [.ref b, .int (nI (bN (live = true))), .long v, .retAddr 0, x4, x5, x6] [] h Q := by
  refine ex_aload_n dX12_termOf_54 rfl rfl ?_
  refine ex_aload_n dX12_termOf_55 rfl rfl ?_
  refine ex_getf fX12_256 dX12_termOf_56 hm.1 (congrArg (fun z => some (Value.int z)) (show (evS σ (g) br).1 21 = nI (g) from rfl)) ?_
  refine ex_callV0 (dc := 0) (as := [.int _]) dX12_termOf_59 MX12_codeAt kX12_259 iX12_codeAt sX12_codeAt rfl rfl hm.1 rfl rfl (Nat.le_of_ble_eq_true rfl) (Nat.le_of_ble_eq_true rfl) (by first | decide | omega) (e_codeAt _ (by omega) hge hge2 hm) (fun r h2 q => ?_)
  obtain ⟨rfl, rfl⟩ := q
  show Ex _ 0 0 _ _ _ (Value.int _ :: _) _ _
  refine ex_istore dX12_termOf_62 (by decide) ?_
  refine ex_aload_n dX12_termOf_64 rfl rfl ?_
  refine ex_dup dX12_termOf_65 rfl ?_
  refine ex_getf fX12_256 dX12_termOf_66 hm.1 (congrArg (fun z => some (Value.int z)) (show (evS σ (g) br).1 21 = nI (g) from rfl)) ?_
  refine ex_iconstN (nI 1) dX12_termOf_69 (by decide) ?_
  refine ex_iaddN dX12_termOf_70 ?_
  refine m_put hm hs pX12_256 dX12_termOf_71 (by decide) (ms21 _ _ _) (fun h1 hm hs => ?_)
  rw [evS_go] at hm
  refine ex_aload_n dX12_termOf_74 rfl rfl ?_
  refine ex_iload_n dX12_termOf_75 rfl ?_
  refine ex_callV0 (dc := dP) (as := [.int _]) dX12_termOf_76 MX12_partOf kX12_277 iX12_partOf sX12_partOf rfl rfl hm.1 rfl rfl (Nat.le_of_ble_eq_true rfl) (Nat.le_of_ble_eq_true rfl) (by first | decide | omega) (hP _ _ _ _ _ _ hPv hm) (fun r h2 q => ?_)
  obtain ⟨rfl, hm, hs2⟩ := q
  have hs := hs.tr hs2
  show Ex _ 0 0 _ _ _ (Value.long _ :: _) _ _
  refine ex_lstore dX12_termOf_79 (by decide) ?_
  refine ex_iload dX12_termOf_81 rfl ?_
  refine ex_bipushN (nI 42) dX12_termOf_83 (by decide) ?_
  refine ex_callS0 (dc := 0) (as := [.int _]) dX12_termOf_85 MX12_sign kX12_215 tX12_sign rfl rfl (Nat.le_of_ble_eq_true rfl) (Nat.le_of_ble_eq_true rfl) (by first | decide | omega) (e_sign _ _) (fun r h2 q => ?_)
  obtain ⟨rfl, rfl⟩ := q
  show Ex _ 0 0 _ _ _ (Value.int _ :: _) _ _
  rw [sgn]
  refine ex_icmp_eq 121 dX12_termOf_88 (by decide) (fun q88 => ?_) (fun q88 => ?_)
  · skip
    have ez : tz (cdA σ.2.1 ge g) w = false := by unfold tz; rw [decide_eq_false (fun z => z (show cdA σ.2.1 ge g = nI 142 from q88))]; rfl
    have et : tb (cdA σ.2.1 ge g) w live b1 = b1 := by unfold tb; rw [ez]; exact if_neg Bool.false_ne_true
    have ew : tw (cdA σ.2.1 ge g) w = w := by unfold tw; rw [ez]; exact if_neg Bool.false_ne_true
    rw [et, ew] at hk
    exact l_term121 (by omega) (fun z => absurd q88 z) hm hs hk
  · skip
    refine ex_lload dX12_termOf_91 rfl ?_
    refine ex_lconst dX12_termOf_93 ?_
    refine ex_lcmp dX12_termOf_94 ?_
    refine ex_if_ne 121 dX12_termOf_95 (by decide) (fun q95 => ?_) (fun q95 => ?_)
    · skip
      have hw : ¬ w = 0 := fun z => q95 ((lg_cmp_eq _ _).mpr z)
      have ez : tz (cdA σ.2.1 ge g) w = false := by unfold tz; rw [decide_eq_false hw]; exact Bool.and_false _
      have et : tb (cdA σ.2.1 ge g) w live b1 = b1 := by unfold tb; rw [ez]; exact if_neg Bool.false_ne_true
      have ew : tw (cdA σ.2.1 ge g) w = w := by unfold tw; rw [ez]; exact if_neg Bool.false_ne_true
      rw [et, ew] at hk
      exact l_term121 (by omega) (fun _ => hw) hm hs hk
    · skip
      refine ex_aload_n dX12_termOf_98 rfl rfl ?_
      refine ex_aload_n dX12_termOf_99 rfl rfl ?_
      refine ex_getf fX12_266 dX12_termOf_100 hm.1 (congrArg (fun z => some (Value.int z)) (show (evS σ g2 b1).1 23 = nI (bN (b1 = true)) from rfl)) ?_
      refine ex_if_neN 110 dX12_termOf_103 (by decide) (by first | omega | exact bN_lt) (fun q103 => ?_) (fun q103 => ?_)
      · skip
        refine ex_iconstN (nI 1) dX12_termOf_110 (by decide) ?_
        refine ex_goto 115 dX12_termOf_111 (by decide) ?_
        refine m_putz hm hs pX12_266 dX12_termOf_115 (by decide) (by first | exact Or.inl rfl | exact Or.inr rfl | assumption) (ms23 _ _ _) (fun h1 hm hs => ?_)
        first | (rw [show nI 1 = nI (bN ((b1 || live) = true)) from congrArg nI (bN_t (by rw [bN_n.mp q103]; rfl)).symm, evS_br] at hm) | (rw [show nI 1 = nI (bN ((b1 || live) = true)) from congrArg nI (bN_t (by rw [bN_n.mp q107]; exact Bool.or_true _)).symm, evS_br] at hm) | (rw [show nI 0 = nI (bN ((b1 || live) = true)) from congrArg nI (bN_f (by rw [Bool.eq_false_iff.mpr (bN_0.mp q103), Bool.eq_false_iff.mpr (bN_0.mp q107)]; decide)).symm, evS_br] at hm)
        refine ex_lconst dX12_termOf_118 ?_
        refine ex_lstore dX12_termOf_119 (by decide) ?_
        have ez : tz (cdA σ.2.1 ge g) w = true := by unfold tz; rw [decide_eq_true (show ¬ cdA σ.2.1 ge g = nI 142 from q88), decide_eq_true (show w = 0 from (lg_cmp_eq _ _).mp q95)]; rfl
        have et : tb (cdA σ.2.1 ge g) w live b1 = (b1 || live) := by unfold tb; rw [ez]; exact if_pos rfl
        have ew : tw (cdA σ.2.1 ge g) w = 1 := by unfold tw; rw [ez]; exact if_pos rfl
        rw [et, ew] at hk
        exact l_term121 (w := 1) (by omega) (fun _ => by decide) hm hs hk
      · skip
        refine ex_iload_n dX12_termOf_106 rfl ?_
        refine ex_if_eqN 114 dX12_termOf_107 (by decide) (by first | omega | exact bN_lt) (fun q107 => ?_) (fun q107 => ?_)
        · skip
          refine ex_iconstN (nI 0) dX12_termOf_114 (by decide) ?_
          refine m_putz hm hs pX12_266 dX12_termOf_115 (by decide) (by first | exact Or.inl rfl | exact Or.inr rfl | assumption) (ms23 _ _ _) (fun h1 hm hs => ?_)
          first | (rw [show nI 1 = nI (bN ((b1 || live) = true)) from congrArg nI (bN_t (by rw [bN_n.mp q103]; rfl)).symm, evS_br] at hm) | (rw [show nI 1 = nI (bN ((b1 || live) = true)) from congrArg nI (bN_t (by rw [bN_n.mp q107]; exact Bool.or_true _)).symm, evS_br] at hm) | (rw [show nI 0 = nI (bN ((b1 || live) = true)) from congrArg nI (bN_f (by rw [Bool.eq_false_iff.mpr (bN_0.mp q103), Bool.eq_false_iff.mpr (bN_0.mp q107)]; decide)).symm, evS_br] at hm)
          refine ex_lconst dX12_termOf_118 ?_
          refine ex_lstore dX12_termOf_119 (by decide) ?_
          have ez : tz (cdA σ.2.1 ge g) w = true := by unfold tz; rw [decide_eq_true (show ¬ cdA σ.2.1 ge g = nI 142 from q88), decide_eq_true (show w = 0 from (lg_cmp_eq _ _).mp q95)]; rfl
          have et : tb (cdA σ.2.1 ge g) w live b1 = (b1 || live) := by unfold tb; rw [ez]; exact if_pos rfl
          have ew : tw (cdA σ.2.1 ge g) w = 1 := by unfold tw; rw [ez]; exact if_pos rfl
          rw [et, ew] at hk
          exact l_term121 (w := 1) (by omega) (fun _ => by decide) hm hs hk
        · skip
          refine ex_iconstN (nI 1) dX12_termOf_110 (by decide) ?_
          refine ex_goto 115 dX12_termOf_111 (by decide) ?_
          refine m_putz hm hs pX12_266 dX12_termOf_115 (by decide) (by first | exact Or.inl rfl | exact Or.inr rfl | assumption) (ms23 _ _ _) (fun h1 hm hs => ?_)
          first | (rw [show nI 1 = nI (bN ((b1 || live) = true)) from congrArg nI (bN_t (by rw [bN_n.mp q103]; rfl)).symm, evS_br] at hm) | (rw [show nI 1 = nI (bN ((b1 || live) = true)) from congrArg nI (bN_t (by rw [bN_n.mp q107]; exact Bool.or_true _)).symm, evS_br] at hm) | (rw [show nI 0 = nI (bN ((b1 || live) = true)) from congrArg nI (bN_f (by rw [Bool.eq_false_iff.mpr (bN_0.mp q103), Bool.eq_false_iff.mpr (bN_0.mp q107)]; decide)).symm, evS_br] at hm)
          refine ex_lconst dX12_termOf_118 ?_
          refine ex_lstore dX12_termOf_119 (by decide) ?_
          have ez : tz (cdA σ.2.1 ge g) w = true := by unfold tz; rw [decide_eq_true (show ¬ cdA σ.2.1 ge g = nI 142 from q88), decide_eq_true (show w = 0 from (lg_cmp_eq _ _).mp q95)]; rfl
          have et : tb (cdA σ.2.1 ge g) w live b1 = (b1 || live) := by unfold tb; rw [ez]; exact if_pos rfl
          have ew : tw (cdA σ.2.1 ge g) w = 1 := by unfold tw; rw [ez]; exact if_pos rfl
          rw [et, ew] at hk
          exact l_term121 (w := 1) (by omega) (fun _ => by decide) hm hs hk
set_option maxHeartbeats 400000 in
set_option maxRecDepth 100000 in
theorem l_term {b : Nat} {h0 : am_H} {σ : am_S} {ge : Nat} {live : Bool} {dP d : Nat} {P : Nat → Bool → EvR} (hge : σ.1 22 = nI ge) (hge2 : ge ≤ 2800) (hd : dP + 1 ≤ d) (hP : OkP mX12_partOf dP b σ live P) {vr : Int64} {gr : Nat} {br2 : Bool} : ∀ (f : Nat) (v : Int64) (g : Nat) (br : Bool) (h : am_H) (x4 x5 x6 : Value), tlp P σ.2.1 ge live f v g br = some (vr, gr, br2) → Mo b h (evS σ g br) → Same b h0 h → Ex d 0 0 mX12_termOf 6 [.ref b, .int (nI (bN (live = true))), .long v, .retAddr 0, x4, x5, x6] [] h (fun r h2 => r = some (.long vr) ∧ Mo b h2 (evS σ gr br2) ∧ Same b h0 h2) := by
  intro f
  induction f with
  | zero => intro v g br h x4 x5 x6 hv; cases hv
  | succ f ih0 =>
    intro v g br h x4 x5 x6 hv hm hs
    have ih : ∀ (v : Int64) (g : Nat) (br : Bool) (h : am_H) (x4 x5 x6 : Value), tlp P σ.2.1 ge live f v g br = some (vr, gr, br2) → Mo b h (evS σ g br) → Same b h0 h → Ex d 0 0 mX12_termOf 6 [.ref b, .int (nI (bN (live = true))), .long v, .retAddr 0, x4, x5, x6] [] h (fun r h2 => r = some (.long vr) ∧ Mo b h2 (evS σ gr br2) ∧ Same b h0 h2) := ih0
    simp only [tlp] at hv
    by_cases hg : g < 2799
    · rw [if_pos hg] at hv
      by_cases hc : cdA σ.2.1 ge g = nI 142 ∨ cdA σ.2.1 ge g = nI 147 ∨ cdA σ.2.1 ge g = nI 137
      · rw [if_pos hc] at hv
        cases hPv : P (g + 1) br with
        | none => rw [hPv] at hv; cases hv
        | some q =>
          obtain ⟨w, g2, b1⟩ := q
          rw [hPv] at hv
          dsimp only at hv
          refine ex_aload_n dX12_termOf_6 rfl rfl ?_
          refine ex_aload_n dX12_termOf_7 rfl rfl ?_
          refine ex_getf fX12_256 dX12_termOf_8 hm.1 (congrArg (fun z => some (Value.int z)) (show (evS σ (g) br).1 21 = nI (g) from rfl)) ?_
          refine ex_callV0 (dc := 0) (as := [.int _]) dX12_termOf_11 MX12_codeAt kX12_259 iX12_codeAt sX12_codeAt rfl rfl hm.1 rfl rfl (Nat.le_of_ble_eq_true rfl) (Nat.le_of_ble_eq_true rfl) (by first | decide | omega) (e_codeAt _ (by omega) hge hge2 hm) (fun r h2 q => ?_)
          obtain ⟨rfl, rfl⟩ := q
          show Ex _ 0 0 _ _ _ (Value.int _ :: _) _ _
          refine ex_bipushN (nI 42) dX12_termOf_14 (by decide) ?_
          refine ex_callS0 (dc := 0) (as := [.int _]) dX12_termOf_16 MX12_sign kX12_215 tX12_sign rfl rfl (Nat.le_of_ble_eq_true rfl) (Nat.le_of_ble_eq_true rfl) (by first | decide | omega) (e_sign _ _) (fun r h2 q => ?_)
          obtain ⟨rfl, rfl⟩ := q
          show Ex _ 0 0 _ _ _ (Value.int _ :: _) _ _
          rw [sgn]
          refine ex_icmp_eq 54 dX12_termOf_19 (by decide) (fun q19 => ?_) (fun q19 => ?_)
          · skip
            exact l_term54 hge hge2 hg hd hP hPv hm hs (fun h2 hm hs => ih _ _ _ _ _ _ _ hv hm hs)
          · skip
            refine ex_aload_n dX12_termOf_22 rfl rfl ?_
            refine ex_aload_n dX12_termOf_23 rfl rfl ?_
            refine ex_getf fX12_256 dX12_termOf_24 hm.1 (congrArg (fun z => some (Value.int z)) (show (evS σ (g) br).1 21 = nI (g) from rfl)) ?_
            refine ex_callV0 (dc := 0) (as := [.int _]) dX12_termOf_27 MX12_codeAt kX12_259 iX12_codeAt sX12_codeAt rfl rfl hm.1 rfl rfl (Nat.le_of_ble_eq_true rfl) (Nat.le_of_ble_eq_true rfl) (by first | decide | omega) (e_codeAt _ (by omega) hge hge2 hm) (fun r h2 q => ?_)
            obtain ⟨rfl, rfl⟩ := q
            show Ex _ 0 0 _ _ _ (Value.int _ :: _) _ _
            refine ex_bipushN (nI 47) dX12_termOf_30 (by decide) ?_
            refine ex_callS0 (dc := 0) (as := [.int _]) dX12_termOf_32 MX12_sign kX12_215 tX12_sign rfl rfl (Nat.le_of_ble_eq_true rfl) (Nat.le_of_ble_eq_true rfl) (by first | decide | omega) (e_sign _ _) (fun r h2 q => ?_)
            obtain ⟨rfl, rfl⟩ := q
            show Ex _ 0 0 _ _ _ (Value.int _ :: _) _ _
            rw [sgn]
            refine ex_icmp_eq 54 dX12_termOf_35 (by decide) (fun q35 => ?_) (fun q35 => ?_)
            · skip
              exact l_term54 hge hge2 hg hd hP hPv hm hs (fun h2 hm hs => ih _ _ _ _ _ _ _ hv hm hs)
            · skip
              refine ex_aload_n dX12_termOf_38 rfl rfl ?_
              refine ex_aload_n dX12_termOf_39 rfl rfl ?_
              refine ex_getf fX12_256 dX12_termOf_40 hm.1 (congrArg (fun z => some (Value.int z)) (show (evS σ (g) br).1 21 = nI (g) from rfl)) ?_
              refine ex_callV0 (dc := 0) (as := [.int _]) dX12_termOf_43 MX12_codeAt kX12_259 iX12_codeAt sX12_codeAt rfl rfl hm.1 rfl rfl (Nat.le_of_ble_eq_true rfl) (Nat.le_of_ble_eq_true rfl) (by first | decide | omega) (e_codeAt _ (by omega) hge hge2 hm) (fun r h2 q => ?_)
              obtain ⟨rfl, rfl⟩ := q
              show Ex _ 0 0 _ _ _ (Value.int _ :: _) _ _
              refine ex_bipushN (nI 37) dX12_termOf_46 (by decide) ?_
              refine ex_callS0 (dc := 0) (as := [.int _]) dX12_termOf_48 MX12_sign kX12_215 tX12_sign rfl rfl (Nat.le_of_ble_eq_true rfl) (Nat.le_of_ble_eq_true rfl) (by first | decide | omega) (e_sign _ _) (fun r h2 q => ?_)
              obtain ⟨rfl, rfl⟩ := q
              show Ex _ 0 0 _ _ _ (Value.int _ :: _) _ _
              rw [sgn]
              refine ex_icmp_ne 168 dX12_termOf_51 (by decide) (fun q51 => ?_) (fun q51 => ?_)
              · skip
                exact absurd hc (fun z => by rcases z with z | z | z; exact q19 z; exact q35 z; exact q51 z)
              · skip
                exact l_term54 hge hge2 hg hd hP hPv hm hs (fun h2 hm hs => ih _ _ _ _ _ _ _ hv hm hs)
      · rw [if_neg hc] at hv
        simp only [Option.some.injEq, Prod.mk.injEq] at hv
        obtain ⟨e1, e2, e3⟩ := hv
        refine ex_aload_n dX12_termOf_6 rfl rfl ?_
        refine ex_aload_n dX12_termOf_7 rfl rfl ?_
        refine ex_getf fX12_256 dX12_termOf_8 hm.1 (congrArg (fun z => some (Value.int z)) (show (evS σ (g) br).1 21 = nI (g) from rfl)) ?_
        refine ex_callV0 (dc := 0) (as := [.int _]) dX12_termOf_11 MX12_codeAt kX12_259 iX12_codeAt sX12_codeAt rfl rfl hm.1 rfl rfl (Nat.le_of_ble_eq_true rfl) (Nat.le_of_ble_eq_true rfl) (by first | decide | omega) (e_codeAt _ (by omega) hge hge2 hm) (fun r h2 q => ?_)
        obtain ⟨rfl, rfl⟩ := q
        show Ex _ 0 0 _ _ _ (Value.int _ :: _) _ _
        refine ex_bipushN (nI 42) dX12_termOf_14 (by decide) ?_
        refine ex_callS0 (dc := 0) (as := [.int _]) dX12_termOf_16 MX12_sign kX12_215 tX12_sign rfl rfl (Nat.le_of_ble_eq_true rfl) (Nat.le_of_ble_eq_true rfl) (by first | decide | omega) (e_sign _ _) (fun r h2 q => ?_)
        obtain ⟨rfl, rfl⟩ := q
        show Ex _ 0 0 _ _ _ (Value.int _ :: _) _ _
        rw [sgn]
        refine ex_icmp_eq 54 dX12_termOf_19 (by decide) (fun q19 => ?_) (fun q19 => ?_)
        · skip
          exact absurd (Or.inl q19) hc
        · skip
          refine ex_aload_n dX12_termOf_22 rfl rfl ?_
          refine ex_aload_n dX12_termOf_23 rfl rfl ?_
          refine ex_getf fX12_256 dX12_termOf_24 hm.1 (congrArg (fun z => some (Value.int z)) (show (evS σ (g) br).1 21 = nI (g) from rfl)) ?_
          refine ex_callV0 (dc := 0) (as := [.int _]) dX12_termOf_27 MX12_codeAt kX12_259 iX12_codeAt sX12_codeAt rfl rfl hm.1 rfl rfl (Nat.le_of_ble_eq_true rfl) (Nat.le_of_ble_eq_true rfl) (by first | decide | omega) (e_codeAt _ (by omega) hge hge2 hm) (fun r h2 q => ?_)
          obtain ⟨rfl, rfl⟩ := q
          show Ex _ 0 0 _ _ _ (Value.int _ :: _) _ _
          refine ex_bipushN (nI 47) dX12_termOf_30 (by decide) ?_
          refine ex_callS0 (dc := 0) (as := [.int _]) dX12_termOf_32 MX12_sign kX12_215 tX12_sign rfl rfl (Nat.le_of_ble_eq_true rfl) (Nat.le_of_ble_eq_true rfl) (by first | decide | omega) (e_sign _ _) (fun r h2 q => ?_)
          obtain ⟨rfl, rfl⟩ := q
          show Ex _ 0 0 _ _ _ (Value.int _ :: _) _ _
          rw [sgn]
          refine ex_icmp_eq 54 dX12_termOf_35 (by decide) (fun q35 => ?_) (fun q35 => ?_)
          · skip
            exact absurd (Or.inr (Or.inl q35)) hc
          · skip
            refine ex_aload_n dX12_termOf_38 rfl rfl ?_
            refine ex_aload_n dX12_termOf_39 rfl rfl ?_
            refine ex_getf fX12_256 dX12_termOf_40 hm.1 (congrArg (fun z => some (Value.int z)) (show (evS σ (g) br).1 21 = nI (g) from rfl)) ?_
            refine ex_callV0 (dc := 0) (as := [.int _]) dX12_termOf_43 MX12_codeAt kX12_259 iX12_codeAt sX12_codeAt rfl rfl hm.1 rfl rfl (Nat.le_of_ble_eq_true rfl) (Nat.le_of_ble_eq_true rfl) (by first | decide | omega) (e_codeAt _ (by omega) hge hge2 hm) (fun r h2 q => ?_)
            obtain ⟨rfl, rfl⟩ := q
            show Ex _ 0 0 _ _ _ (Value.int _ :: _) _ _
            refine ex_bipushN (nI 37) dX12_termOf_46 (by decide) ?_
            refine ex_callS0 (dc := 0) (as := [.int _]) dX12_termOf_48 MX12_sign kX12_215 tX12_sign rfl rfl (Nat.le_of_ble_eq_true rfl) (Nat.le_of_ble_eq_true rfl) (by first | decide | omega) (e_sign _ _) (fun r h2 q => ?_)
            obtain ⟨rfl, rfl⟩ := q
            show Ex _ 0 0 _ _ _ (Value.int _ :: _) _ _
            rw [sgn]
            refine ex_icmp_ne 168 dX12_termOf_51 (by decide) (fun q51 => ?_) (fun q51 => ?_)
            · skip
              refine ex_lload_n dX12_termOf_168 rfl ?_
              refine ex_lret rfl dX12_termOf_169 ?_
              exact ⟨by rw [e1], by rw [← e2, ← e3]; exact hm, hs⟩
            · skip
              exact absurd (Or.inr (Or.inr q51)) hc
    · rw [if_neg hg] at hv
      cases hv
set_option maxHeartbeats 400000 in
set_option maxRecDepth 100000 in
theorem ok_term {b : Nat} {σ : am_S} {ge : Nat} {live : Bool} {dP d : Nat} {P : Nat → Bool → EvR} (hge : σ.1 22 = nI ge) (hge2 : ge ≤ 2800) (hd : dP + 1 ≤ d) (hP : OkP mX12_partOf dP b σ live P) : OkP mX12_termOf d b σ live (tmv P σ.2.1 ge live) := by
  intro g br v g2 b2 h hv hm
  have hs : Same b h h := Same.rf
  unfold tmv at hv
  cases hPv : P g br with
  | none => rw [hPv] at hv; cases hv
  | some q =>
    obtain ⟨v0, g0, b0⟩ := q
    rw [hPv] at hv
    dsimp only at hv
    refine ex_aload_n dX12_termOf_0 rfl rfl ?_
    refine ex_iload_n dX12_termOf_1 rfl ?_
    refine ex_callV0 (dc := dP) (as := [.int _]) dX12_termOf_2 MX12_partOf kX12_277 iX12_partOf sX12_partOf rfl rfl hm.1 rfl rfl (Nat.le_of_ble_eq_true rfl) (Nat.le_of_ble_eq_true rfl) (by first | decide | omega) (hP _ _ _ _ _ _ hPv hm) (fun r h2 q => ?_)
    obtain ⟨rfl, hm, hs2⟩ := q
    have hs := hs.tr hs2
    show Ex _ 0 0 _ _ _ (Value.long _ :: _) _ _
    refine ex_lstore_n dX12_termOf_5 (by decide) ?_
    exact l_term hge hge2 hd hP _ _ _ _ _ _ _ _ hv hm hs
