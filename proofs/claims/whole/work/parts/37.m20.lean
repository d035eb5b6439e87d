/-! THE REFERENCE: ends, turns, sinks, sticks, steps -/
abbrev FT : List Nat := [21, 22, 23, 24, 25, 26]
def Lq (F R : List Nat) (b : Nat) (h : am_H) (σ : am_S) (m : Nat) (h2 : am_H) : Prop := ∃ σ2, Mo b h2 σ2 ∧ Lk F R σ σ2 ∧ Ps σ2 m ∧ Same b h h2
theorem po_eq {σ σ2 : am_S} {m : Nat} (hl : Lk FT [11] σ σ2) : po σ2 m = po σ m := by
  unfold po; rw [hl.2.1 13 (by decide), hl.1 32 (by decide), hl.1 33 (by decide)]
theorem kp_eq {σ σ2 : am_S} (hl : Lk FT [11] σ σ2) : σ2.2.1 1 = σ.2.1 1 := hl.2.1 1 (by decide)
def endv (K : Nat → Int32) (p : Po) : Bool := match sayv K p (nI 3) 0 with
  | some (_, hh, it) => if hh = true then it else decide (p.1 0 = nI 1)
  | none => false
def trnw (p : Po) : Int64 := if p.1 0 = 0 then p.2.2.1.toInt64 else (p.1 0).toInt64
def trnv (K : Nat → Int32) (p : Po) : Int64 := match sayv K p (nI 1) (trnw p) with
  | some (v, _, _) => v
  | none => 0
def snkv (K : Nat → Int32) (p : Po) : Int64 := match sayv K p (nI 2) 0 with
  | some (v, _, _) => v
  | none => 0
def canv (t : Int64) (m : Nat) : Bool := decide (t < 0) || decide ((nI m).toInt64 < t)
def stkv (K : Nat → Int32) (p : Po) : Bool := !endv K p && (canv (trnv K p) p.2.1 || canv (snkv K p) p.2.1)
set_option maxHeartbeats 400000 in
set_option maxRecDepth 100000 in
theorem e_hasEnded {b : Nat} {h : am_H} {σ : am_S} {m : Nat} (hw : WK (σ.2.1 1)) (hp : Ps σ m) (hm : Mo b h σ) : Ex 71 0 0 mX12_hasEnded 0 (am_en [.ref b] 1) [] h (fun r h2 => r = some (.int (nI (bN (endv (σ.2.1 1) (po σ m) = true)))) ∧ Lq FT [11] b h σ m h2) := by
  have hs : Same b h h := Same.rf
  obtain ⟨⟨v, hh, it⟩, hv⟩ := hw (po σ m) (nI 3) 0 hp.2.1 hp.2.2.1
  have ee : endv (σ.2.1 1) (po σ m) = (if hh = true then it else decide (σ.2.1 13 0 = nI 1)) := by unfold endv; rw [hv]; rfl
  refine ex_aload_n dX12_hasEnded_0 rfl rfl ?_
  refine ex_iconstN (nI 3) dX12_hasEnded_1 (by decide) ?_
  refine ex_lconst dX12_hasEnded_2 ?_
  refine ex_callV0 (dc := 70) (as := [.int _, .long _]) dX12_hasEnded_3 MX12_tells kX12_319 iX12_tells sX12_tells rfl rfl hm.1 rfl rfl (Nat.le_of_ble_eq_true rfl) (Nat.le_of_ble_eq_true rfl) (by first | decide | omega) (e_tl hp hv hm) (fun r h2 q => ?_)
  obtain ⟨rfl, σ1, hm, hl, hp, h25, h26, hs2⟩ := q
  have hs := hs.tr hs2
  show Ex _ 0 0 _ _ _ (Value.long _ :: _) _ _
  refine ex_pop2l dX12_hasEnded_6 rfl ?_
  refine ex_aload_n dX12_hasEnded_7 rfl rfl ?_
  refine ex_getf fX12_307 dX12_hasEnded_8 hm.1 (congrArg (fun z => some (Value.int z)) h25) ?_
  refine ex_if_eqN 21 dX12_hasEnded_11 (by decide) (by first | omega | exact bN_lt) (fun q11 => ?_) (fun q11 => ?_)
  · skip
    refine ex_aload_n dX12_hasEnded_21 rfl rfl ?_
    refine ex_getf fX12_65 dX12_hasEnded_22 hm.1 rfl ?_
    refine ex_iconstN (nI 0) dX12_hasEnded_25 (by decide) ?_
    refine m_ald hm dX12_hasEnded_26 (by decide) (by decide) rfl (by show _ < 13; first | omega | exact bN_lt) ?_
    refine ex_iconstN (nI 1) dX12_hasEnded_27 (by decide) ?_
    refine ex_icmp_ne 35 dX12_hasEnded_28 (by decide) (fun q28 => ?_) (fun q28 => ?_)
    · skip
      refine ex_iconstN (nI 0) dX12_hasEnded_35 (by decide) ?_
      refine ex_zret rfl (by first | exact bN_z | rfl | decide | assumption) dX12_hasEnded_36 ?_
      exact ⟨by rw [ee, if_neg (fun z => Bool.false_ne_true ((bt.mp q11).symm.trans z)), ← hl.2.1 13 (by decide), decide_eq_false q28]; rfl, _, hm, hl, hp, hs⟩
    · skip
      refine ex_iconstN (nI 1) dX12_hasEnded_31 (by decide) ?_
      refine ex_goto 36 dX12_hasEnded_32 (by decide) ?_
      refine ex_zret rfl (by first | exact bN_z | rfl | decide | assumption) dX12_hasEnded_36 ?_
      exact ⟨by rw [ee, if_neg (fun z => Bool.false_ne_true ((bt.mp q11).symm.trans z)), ← hl.2.1 13 (by decide), decide_eq_true q28]; rfl, _, hm, hl, hp, hs⟩
  · skip
    refine ex_aload_n dX12_hasEnded_14 rfl rfl ?_
    refine ex_getf fX12_310 dX12_hasEnded_15 hm.1 (congrArg (fun z => some (Value.int z)) h26) ?_
    refine ex_goto 36 dX12_hasEnded_18 (by decide) ?_
    refine ex_zret rfl (by first | exact bN_z | rfl | decide | assumption) dX12_hasEnded_36 ?_
    exact ⟨by rw [ee, if_pos (bn.mp q11)], _, hm, hl, hp, hs⟩
set_option maxHeartbeats 400000 in
set_option maxRecDepth 100000 in
theorem e_turnsBy {b : Nat} {h : am_H} {σ : am_S} {m : Nat} (hw : WK (σ.2.1 1)) (hp : Ps σ m) (hm : Mo b h σ) : Ex 71 0 0 mX12_turnsBy 0 (am_en [.ref b] 1) [] h (fun r h2 => r = some (.long (trnv (σ.2.1 1) (po σ m))) ∧ Lq FT [11] b h σ m h2) := by
  have hs : Same b h h := Same.rf
  obtain ⟨⟨v, hh, it⟩, hv⟩ := hw (po σ m) (nI 1) (trnw (po σ m)) hp.2.1 hp.2.2.1
  have ee : trnv (σ.2.1 1) (po σ m) = v := by unfold trnv; rw [hv]
  refine ex_aload_n dX12_turnsBy_0 rfl rfl ?_
  refine ex_iconstN (nI 1) dX12_turnsBy_1 (by decide) ?_
  refine ex_aload_n dX12_turnsBy_2 rfl rfl ?_
  refine ex_getf fX12_65 dX12_turnsBy_3 hm.1 rfl ?_
  refine ex_iconstN (nI 0) dX12_turnsBy_6 (by decide) ?_
  refine m_ald hm dX12_turnsBy_7 (by decide) (by decide) rfl (by show _ < 13; first | omega | exact bN_lt) ?_
  refine ex_if_ne 19 dX12_turnsBy_8 (by decide) (fun q8 => ?_) (fun q8 => ?_)
  · skip
    rw [show trnw (po σ m) = (σ.2.1 13 0).toInt64 from if_neg q8] at hv
    refine ex_aload_n dX12_turnsBy_19 rfl rfl ?_
    refine ex_getf fX12_65 dX12_turnsBy_20 hm.1 rfl ?_
    refine ex_iconstN (nI 0) dX12_turnsBy_23 (by decide) ?_
    refine m_ald hm dX12_turnsBy_24 (by decide) (by decide) rfl (by show _ < 13; first | omega | exact bN_lt) ?_
    refine ex_i2l dX12_turnsBy_25 ?_
    refine ex_callV0 (dc := 70) (as := [.int _, .long _]) dX12_turnsBy_26 MX12_tells kX12_319 iX12_tells sX12_tells rfl rfl hm.1 rfl rfl (Nat.le_of_ble_eq_true rfl) (Nat.le_of_ble_eq_true rfl) (by first | decide | omega) (e_tl hp hv hm) (fun r h2 q => ?_)
    obtain ⟨rfl, σ1, hm, hl, hp, h25, h26, hs2⟩ := q
    have hs := hs.tr hs2
    show Ex _ 0 0 _ _ _ (Value.long _ :: _) _ _
    refine ex_lret rfl dX12_turnsBy_29 ?_
    exact ⟨by rw [ee], _, hm, hl, hp, hs⟩
  · skip
    rw [show trnw (po σ m) = (σ.1 32).toInt64 from if_pos q8] at hv
    refine ex_aload_n dX12_turnsBy_11 rfl rfl ?_
    refine ex_getf fX12_133 dX12_turnsBy_12 hm.1 rfl ?_
    refine ex_i2l dX12_turnsBy_15 ?_
    refine ex_goto 26 dX12_turnsBy_16 (by decide) ?_
    refine ex_callV0 (dc := 70) (as := [.int _, .long _]) dX12_turnsBy_26 MX12_tells kX12_319 iX12_tells sX12_tells rfl rfl hm.1 rfl rfl (Nat.le_of_ble_eq_true rfl) (Nat.le_of_ble_eq_true rfl) (by first | decide | omega) (e_tl hp hv hm) (fun r h2 q => ?_)
    obtain ⟨rfl, σ1, hm, hl, hp, h25, h26, hs2⟩ := q
    have hs := hs.tr hs2
    show Ex _ 0 0 _ _ _ (Value.long _ :: _) _ _
    refine ex_lret rfl dX12_turnsBy_29 ?_
    exact ⟨by rw [ee], _, hm, hl, hp, hs⟩
set_option maxHeartbeats 400000 in
set_option maxRecDepth 100000 in
theorem e_sinksBy {b : Nat} {h : am_H} {σ : am_S} {m : Nat} (hw : WK (σ.2.1 1)) (hp : Ps σ m) (hm : Mo b h σ) : Ex 71 0 0 mX12_sinksBy 0 (am_en [.ref b] 1) [] h (fun r h2 => r = some (.long (snkv (σ.2.1 1) (po σ m))) ∧ Lq FT [11] b h σ m h2) := by
  have hs : Same b h h := Same.rf
  obtain ⟨⟨v, hh, it⟩, hv⟩ := hw (po σ m) (nI 2) 0 hp.2.1 hp.2.2.1
  have ee : snkv (σ.2.1 1) (po σ m) = v := by unfold snkv; rw [hv]
  refine ex_aload_n dX12_sinksBy_0 rfl rfl ?_
  refine ex_iconstN (nI 2) dX12_sinksBy_1 (by decide) ?_
  refine ex_lconst dX12_sinksBy_2 ?_
  refine ex_callV0 (dc := 70) (as := [.int _, .long _]) dX12_sinksBy_3 MX12_tells kX12_319 iX12_tells sX12_tells rfl rfl hm.1 rfl rfl (Nat.le_of_ble_eq_true rfl) (Nat.le_of_ble_eq_true rfl) (by first | decide | omega) (e_tl hp hv hm) (fun r h2 q => ?_)
  obtain ⟨rfl, σ1, hm, hl, hp, h25, h26, hs2⟩ := q
  have hs := hs.tr hs2
  show Ex _ 0 0 _ _ _ (Value.long _ :: _) _ _
  refine ex_lret rfl dX12_sinksBy_6 ?_
  exact ⟨by rw [ee], _, hm, hl, hp, hs⟩
set_option maxHeartbeats 400000 in
set_option maxRecDepth 100000 in
theorem e_cannot {b : Nat} {h : am_H} {σ : am_S} {m : Nat} (t : Int64) (h31 : σ.1 31 = nI m) (hm : Mo b h σ) : Ex 0 0 0 mX12_cannot 0 (am_en [.ref b, .long t] 3) [] h (fun r h2 => r = some (.int (nI (bN (canv t m = true)))) ∧ h2 = h) := by
  have hs : Same b h h := Same.rf
  refine ex_lload_n dX12_cannot_0 rfl ?_
  refine ex_lconst dX12_cannot_1 ?_
  refine ex_lcmp dX12_cannot_2 ?_
  refine ex_if_lt 16 dX12_cannot_3 (by decide) (fun q3 => ?_) (fun q3 => ?_)
  · skip
    refine ex_iconstN (nI 1) dX12_cannot_16 (by decide) ?_
    refine ex_goto 21 dX12_cannot_17 (by decide) ?_
    refine ex_zret rfl (by first | exact bN_z | rfl | decide | assumption) dX12_cannot_21 ?_
    exact ⟨by rw [show canv t m = true by unfold canv; rw [decide_eq_true (show t < 0 from (lg_cmp_lt _ _).mp q3)]; rfl]; rfl, rfl⟩
  · skip
    refine ex_lload_n dX12_cannot_6 rfl ?_
    refine ex_aload_n dX12_cannot_7 rfl rfl ?_
    refine ex_getf fX12_130 dX12_cannot_8 hm.1 (congrArg (fun z => some (Value.int z)) h31) ?_
    refine ex_i2l dX12_cannot_11 ?_
    refine ex_lcmp dX12_cannot_12 ?_
    refine ex_if_le 20 dX12_cannot_13 (by decide) (fun q13 => ?_) (fun q13 => ?_)
    · skip
      refine ex_iconstN (nI 0) dX12_cannot_20 (by decide) ?_
      refine ex_zret rfl (by first | exact bN_z | rfl | decide | assumption) dX12_cannot_21 ?_
      exact ⟨by rw [show canv t m = false by unfold canv; rw [decide_eq_false (show ¬ t < 0 from fun z => q3 ((lg_cmp_lt _ _).mpr z)), decide_eq_false (show ¬ (nI m).toInt64 < t from Int64.not_lt.mpr ((lg_cmp_le _ _).mp q13))]; rfl]; rfl, rfl⟩
    · skip
      refine ex_iconstN (nI 1) dX12_cannot_16 (by decide) ?_
      refine ex_goto 21 dX12_cannot_17 (by decide) ?_
      refine ex_zret rfl (by first | exact bN_z | rfl | decide | assumption) dX12_cannot_21 ?_
      exact ⟨by rw [show canv t m = true by unfold canv; rw [decide_eq_true (show (nI m).toInt64 < t from Int64.not_le.mp (fun z => q13 ((lg_cmp_le _ _).mpr z)))]; exact Bool.or_true _]; rfl, rfl⟩
set_option maxHeartbeats 400000 in
set_option maxRecDepth 100000 in
theorem e_isStuck {b : Nat} {h : am_H} {σ : am_S} {m : Nat} (hw : WK (σ.2.1 1)) (hp : Ps σ m) (hm : Mo b h σ) : Ex 72 0 0 mX12_isStuck 0 (am_en [.ref b] 1) [] h (fun r h2 => r = some (.int (nI (bN (stkv (σ.2.1 1) (po σ m) = true)))) ∧ Lq FT [11] b h σ m h2) := by
  have hs : Same b h h := Same.rf
  have hl : Lk FT [11] σ σ := Lk.rf
  refine ex_aload_n dX12_isStuck_0 rfl rfl ?_
  refine ex_callV0 (dc := 71) (as := []) dX12_isStuck_1 MX12_hasEnded kX12_136 iX12_hasEnded sX12_hasEnded rfl rfl hm.1 rfl rfl (Nat.le_of_ble_eq_true rfl) (Nat.le_of_ble_eq_true rfl) (by first | decide | omega) (e_hasEnded (by rw [kp_eq hl]; exact hw) hp hm) (fun r h2 q => ?_)
  obtain ⟨rfl, σ1, hm, hk, hp, hs2⟩ := q
  have hs := hs.tr hs2
  rw [po_eq hl, kp_eq hl]
  have hl := hl.tr hk
  show Ex _ 0 0 _ _ _ (Value.int _ :: _) _ _
  refine ex_if_neN 33 dX12_isStuck_4 (by decide) (by first | omega | exact bN_lt) (fun q4 => ?_) (fun q4 => ?_)
  · skip
    refine ex_iconstN (nI 0) dX12_isStuck_33 (by decide) ?_
    refine ex_zret rfl (by first | exact bN_z | rfl | decide | assumption) dX12_isStuck_34 ?_
    exact ⟨by rw [show stkv (σ.2.1 1) (po σ m) = false by unfold stkv; rw [bn.mp q4]; rfl]; rfl, _, hm, hl, hp, hs⟩
  · skip
    refine ex_aload_n dX12_isStuck_7 rfl rfl ?_
    refine ex_aload_n dX12_isStuck_8 rfl rfl ?_
    refine ex_callV0 (dc := 71) (as := []) dX12_isStuck_9 MX12_turnsBy kX12_143 iX12_turnsBy sX12_turnsBy rfl rfl hm.1 rfl rfl (Nat.le_of_ble_eq_true rfl) (Nat.le_of_ble_eq_true rfl) (by first | decide | omega) (e_turnsBy (by rw [kp_eq hl]; exact hw) hp hm) (fun r h2 q => ?_)
    obtain ⟨rfl, σ2, hm, hk, hp, hs2⟩ := q
    have hs := hs.tr hs2
    rw [po_eq hl, kp_eq hl]
    have hl := hl.tr hk
    show Ex _ 0 0 _ _ _ (Value.long _ :: _) _ _
    refine ex_callV0 (dc := 0) (as := [.long _]) dX12_isStuck_12 MX12_cannot kX12_323 iX12_cannot sX12_cannot rfl rfl hm.1 rfl rfl (Nat.le_of_ble_eq_true rfl) (Nat.le_of_ble_eq_true rfl) (by first | decide | omega) (e_cannot _ hp.1 hm) (fun r h2 q => ?_)
    obtain ⟨rfl, rfl⟩ := q
    show Ex _ 0 0 _ _ _ (Value.int _ :: _) _ _
    refine ex_if_neN 29 dX12_isStuck_15 (by decide) (by first | omega | exact bN_lt) (fun q15 => ?_) (fun q15 => ?_)
    · skip
      refine ex_iconstN (nI 1) dX12_isStuck_29 (by decide) ?_
      refine ex_goto 34 dX12_isStuck_30 (by decide) ?_
      refine ex_zret rfl (by first | exact bN_z | rfl | decide | assumption) dX12_isStuck_34 ?_
      exact ⟨by rw [show stkv (σ.2.1 1) (po σ m) = true by unfold stkv; rw [bt.mp q4, show canv (trnv (σ.2.1 1) (po σ m)) (po σ m).2.1 = true from bn.mp q15]; rfl]; rfl, _, hm, hl, hp, hs⟩
    · skip
      refine ex_aload_n dX12_isStuck_18 rfl rfl ?_
      refine ex_aload_n dX12_isStuck_19 rfl rfl ?_
      refine ex_callV0 (dc := 71) (as := []) dX12_isStuck_20 MX12_sinksBy kX12_151 iX12_sinksBy sX12_sinksBy rfl rfl hm.1 rfl rfl (Nat.le_of_ble_eq_true rfl) (Nat.le_of_ble_eq_true rfl) (by first | decide | omega) (e_sinksBy (by rw [kp_eq hl]; exact hw) hp hm) (fun r h2 q => ?_)
      obtain ⟨rfl, σ3, hm, hk, hp, hs2⟩ := q
      have hs := hs.tr hs2
      rw [po_eq hl, kp_eq hl]
      have hl := hl.tr hk
      show Ex _ 0 0 _ _ _ (Value.long _ :: _) _ _
      refine ex_callV0 (dc := 0) (as := [.long _]) dX12_isStuck_23 MX12_cannot kX12_323 iX12_cannot sX12_cannot rfl rfl hm.1 rfl rfl (Nat.le_of_ble_eq_true rfl) (Nat.le_of_ble_eq_true rfl) (by first | decide | omega) (e_cannot _ hp.1 hm) (fun r h2 q => ?_)
      obtain ⟨rfl, rfl⟩ := q
      show Ex _ 0 0 _ _ _ (Value.int _ :: _) _ _
      refine ex_if_eqN 33 dX12_isStuck_26 (by decide) (by first | omega | exact bN_lt) (fun q26 => ?_) (fun q26 => ?_)
      · skip
        refine ex_iconstN (nI 0) dX12_isStuck_33 (by decide) ?_
        refine ex_zret rfl (by first | exact bN_z | rfl | decide | assumption) dX12_isStuck_34 ?_
        exact ⟨by rw [show stkv (σ.2.1 1) (po σ m) = false by unfold stkv; rw [bt.mp q4, show canv (snkv (σ.2.1 1) (po σ m)) (po σ m).2.1 = false from bt.mp q26, show canv (trnv (σ.2.1 1) (po σ m)) (po σ m).2.1 = false from bt.mp q15]; rfl]; rfl, _, hm, hl, hp, hs⟩
      · skip
        refine ex_iconstN (nI 1) dX12_isStuck_29 (by decide) ?_
        refine ex_goto 34 dX12_isStuck_30 (by decide) ?_
        refine ex_zret rfl (by first | exact bN_z | rfl | decide | assumption) dX12_isStuck_34 ?_
        exact ⟨by rw [show stkv (σ.2.1 1) (po σ m) = true by unfold stkv; rw [bt.mp q4, show canv (snkv (σ.2.1 1) (po σ m)) (po σ m).2.1 = true from bn.mp q26]; cases canv (trnv (σ.2.1 1) (po σ m)) (po σ m).2.1 <;> rfl]; rfl, _, hm, hl, hp, hs⟩
def cstv (K : Nat → Int32) (p : Po) : Bool := !endv K p && !stkv K p
set_option maxHeartbeats 400000 in
set_option maxRecDepth 100000 in
theorem e_canStep {b : Nat} {h : am_H} {σ : am_S} {m : Nat} (hw : WK (σ.2.1 1)) (hp : Ps σ m) (hm : Mo b h σ) : Ex 73 0 0 mX12_canStep 0 (am_en [.ref b] 1) [] h (fun r h2 => r = some (.int (nI (bN (cstv (σ.2.1 1) (po σ m) = true)))) ∧ Lq FT [11] b h σ m h2) := by
  have hs : Same b h h := Same.rf
  have hl : Lk FT [11] σ σ := Lk.rf
  refine ex_aload_n dX12_canStep_0 rfl rfl ?_
  refine ex_callV0 (dc := 71) (as := []) dX12_canStep_1 MX12_hasEnded kX12_136 iX12_hasEnded sX12_hasEnded rfl rfl hm.1 rfl rfl (Nat.le_of_ble_eq_true rfl) (Nat.le_of_ble_eq_true rfl) (by first | decide | omega) (e_hasEnded (by rw [kp_eq hl]; exact hw) hp hm) (fun r h2 q => ?_)
  obtain ⟨rfl, σ1, hm, hk, hp, hs2⟩ := q
  have hs := hs.tr hs2
  rw [po_eq hl, kp_eq hl]
  have hl := hl.tr hk
  show Ex _ 0 0 _ _ _ (Value.int _ :: _) _ _
  refine ex_if_neN 18 dX12_canStep_4 (by decide) (by first | omega | exact bN_lt) (fun q4 => ?_) (fun q4 => ?_)
  · skip
    refine ex_iconstN (nI 0) dX12_canStep_18 (by decide) ?_
    refine ex_zret rfl (by first | exact bN_z | rfl | decide | assumption) dX12_canStep_19 ?_
    exact ⟨by rw [show cstv (σ.2.1 1) (po σ m) = false by unfold cstv; rw [bn.mp q4]; rfl]; rfl, _, hm, hl, hp, hs⟩
  · skip
    refine ex_aload_n dX12_canStep_7 rfl rfl ?_
    refine ex_callV0 (dc := 72) (as := []) dX12_canStep_8 MX12_isStuck kX12_140 iX12_isStuck sX12_isStuck rfl rfl hm.1 rfl rfl (Nat.le_of_ble_eq_true rfl) (Nat.le_of_ble_eq_true rfl) (by first | decide | omega) (e_isStuck (by rw [kp_eq hl]; exact hw) hp hm) (fun r h2 q => ?_)
    obtain ⟨rfl, σ2, hm, hk, hp, hs2⟩ := q
    have hs := hs.tr hs2
    rw [po_eq hl, kp_eq hl]
    have hl := hl.tr hk
    show Ex _ 0 0 _ _ _ (Value.int _ :: _) _ _
    refine ex_if_neN 18 dX12_canStep_11 (by decide) (by first | omega | exact bN_lt) (fun q11 => ?_) (fun q11 => ?_)
    · skip
      refine ex_iconstN (nI 0) dX12_canStep_18 (by decide) ?_
      refine ex_zret rfl (by first | exact bN_z | rfl | decide | assumption) dX12_canStep_19 ?_
      exact ⟨by rw [show cstv (σ.2.1 1) (po σ m) = false by unfold cstv; rw [bn.mp q11]; exact Bool.and_false _]; rfl, _, hm, hl, hp, hs⟩
    · skip
      refine ex_iconstN (nI 1) dX12_canStep_14 (by decide) ?_
      refine ex_goto 19 dX12_canStep_15 (by decide) ?_
      refine ex_zret rfl (by first | exact bN_z | rfl | decide | assumption) dX12_canStep_19 ?_
      exact ⟨by rw [show cstv (σ.2.1 1) (po σ m) = true by unfold cstv; rw [bt.mp q11, bt.mp q4]; rfl]; rfl, _, hm, hl, hp, hs⟩
