/-! THE REFERENCE: sums asked of a text's codes -/
theorem l_bd25 {b : Nat} {h : am_H} {σ : am_S} {v : Int64} {b2 : Bool} {x3 : Value} {Q : Option Value → am_H → Prop} (h23 : σ.1 23 = nI (bN (b2 = true))) (hm : Mo b h σ) (hQ : Q (some (.long (if b2 = true then 0 else v))) h) : Ex 0 0 0 mX12_bounded 25 [.ref b, .long v, .retAddr 0, x3] [] h Q := by
  refine ex_aload_n dX12_bounded_25 rfl rfl ?_
  refine ex_getf fX12_266 dX12_bounded_26 hm.1 (congrArg (fun z => some (Value.int z)) h23) ?_
  refine ex_if_eqN 36 dX12_bounded_29 (by decide) (by first | omega | exact bN_lt) (fun q29 => ?_) (fun q29 => ?_)
  · skip
    refine ex_lload_n dX12_bounded_36 rfl ?_
    refine ex_lret rfl dX12_bounded_37 ?_
    first | (rw [if_pos (bN_n.mp q29)] at hQ; exact hQ) | (rw [if_neg (bN_0.mp q29)] at hQ; exact hQ)
  · skip
    refine ex_lconst dX12_bounded_32 ?_
    refine ex_goto 37 dX12_bounded_33 (by decide) ?_
    refine ex_lret rfl dX12_bounded_37 ?_
    first | (rw [if_pos (bN_n.mp q29)] at hQ; exact hQ) | (rw [if_neg (bN_0.mp q29)] at hQ; exact hQ)
set_option maxHeartbeats 400000 in
set_option maxRecDepth 100000 in
theorem e_bounded {b : Nat} {h : am_H} {σ : am_S} (v : Int64) (live br : Bool) (hb : σ.1 23 = nI (bN (br = true))) (hm : Mo b h σ) : Ex 0 0 0 mX12_bounded 0 (am_en [.ref b, .long v, .int (nI (bN (live = true)))] 4) [] h (fun r h2 => r = some (.long (bdv v live br)) ∧ Mo b h2 (upd σ.1 23 (nI (bN (bdb v live br = true))), σ.2) ∧ Same b h h2) := by
  have hs : Same b h h := Same.rf
  refine ex_iload_n dX12_bounded_0 rfl ?_
  refine ex_if_eqN 25 dX12_bounded_1 (by decide) (by first | omega | exact bN_lt) (fun q1 => ?_) (fun q1 => ?_)
  · skip
    have e : bdb v live br = br := by have e1 : live = false := Bool.eq_false_iff.mpr (bN_0.mp q1); simp [bdb, e1]
    exact l_bd25 (b2 := br) hb hm ⟨by rw [bdv, e], by rw [e, ← hb, upd_self]; exact hm, hs⟩
  · skip
    refine ex_lload_n dX12_bounded_4 rfl ?_
    refine ex_ldc2 dX12_bounded_5 qX12_262 ?_
    refine ex_lcmp dX12_bounded_8 ?_
    refine ex_if_gt 20 dX12_bounded_9 (by decide) (fun q9 => ?_) (fun q9 => ?_)
    · skip
      refine ex_aload_n dX12_bounded_20 rfl rfl ?_
      refine ex_iconstN (nI 1) dX12_bounded_21 (by decide) ?_
      refine m_putz hm hs pX12_266 dX12_bounded_22 (by decide) (by first | exact Or.inl rfl | exact Or.inr rfl | assumption) (ms23 _ _ _) (fun h1 hm hs => ?_)
      have e : bdb v live br = true := by first | simp [bdb, bN_n.mp q1, (lg_cmp_gt _ _).mp q9] | simp [bdb, bN_n.mp q1, Int64.not_le.mp (fun z => q17 ((lg_cmp_ge _ _).mpr z))]
      exact l_bd25 (b2 := true) rfl hm ⟨by rw [bdv, e], by rw [e]; exact hm, hs⟩
    · skip
      refine ex_lload_n dX12_bounded_12 rfl ?_
      refine ex_ldc2 dX12_bounded_13 qX12_264 ?_
      refine ex_lcmp dX12_bounded_16 ?_
      refine ex_if_ge 25 dX12_bounded_17 (by decide) (fun q17 => ?_) (fun q17 => ?_)
      · skip
        have e : bdb v live br = br := by have e1 : ¬ 1000000000 < v := fun z => q9 ((lg_cmp_gt _ _).mpr z); have e2 : ¬ v < -1000000000 := Int64.not_lt.mpr ((lg_cmp_ge _ _).mp q17); simp [bdb, e1, e2]
        exact l_bd25 (b2 := br) hb hm ⟨by rw [bdv, e], by rw [e, ← hb, upd_self]; exact hm, hs⟩
      · skip
        refine ex_aload_n dX12_bounded_20 rfl rfl ?_
        refine ex_iconstN (nI 1) dX12_bounded_21 (by decide) ?_
        refine m_putz hm hs pX12_266 dX12_bounded_22 (by decide) (by first | exact Or.inl rfl | exact Or.inr rfl | assumption) (ms23 _ _ _) (fun h1 hm hs => ?_)
        have e : bdb v live br = true := by first | simp [bdb, bN_n.mp q1, (lg_cmp_gt _ _).mp q9] | simp [bdb, bN_n.mp q1, Int64.not_le.mp (fun z => q17 ((lg_cmp_ge _ _).mpr z))]
        exact l_bd25 (b2 := true) rfl hm ⟨by rw [bdv, e], by rw [e]; exact hm, hs⟩
set_option maxHeartbeats 400000 in
set_option maxRecDepth 100000 in
theorem e_isOfHeap (v : Int32) (h : am_H) : Ex 0 0 0 mX12_isOfHeap 0 (am_en [.int v] 1) [] h (fun r h2 => r = some (.int (nI (bN (v = nI 14 ∨ v = nI 15 ∨ v = nI 19)))) ∧ h2 = h) := by
  refine ex_iload_n dX12_isOfHeap_0 rfl ?_
  refine ex_bipushN (nI 14) dX12_isOfHeap_1 (by decide) ?_
  refine ex_icmp_eq 18 dX12_isOfHeap_3 (by decide) (fun q3 => ?_) (fun q3 => ?_)
  · skip
    refine ex_iconstN (nI 1) dX12_isOfHeap_18 (by decide) ?_
    refine ex_goto 23 dX12_isOfHeap_19 (by decide) ?_
    refine ex_zret rfl (by first | exact bN_z | rfl | decide | assumption) dX12_isOfHeap_23 ?_
    exact ⟨by first | rw [bN_t (Or.inl (by assumption))] | rw [bN_t (Or.inr (Or.inl (by assumption)))] | rw [bN_t (Or.inr (Or.inr (by assumption)))] | rw [bN_f (fun z => by rcases z with z | z | z <;> exact absurd z (by assumption))], rfl⟩
  · skip
    refine ex_iload_n dX12_isOfHeap_6 rfl ?_
    refine ex_bipushN (nI 15) dX12_isOfHeap_7 (by decide) ?_
    refine ex_icmp_eq 18 dX12_isOfHeap_9 (by decide) (fun q9 => ?_) (fun q9 => ?_)
    · skip
      refine ex_iconstN (nI 1) dX12_isOfHeap_18 (by decide) ?_
      refine ex_goto 23 dX12_isOfHeap_19 (by decide) ?_
      refine ex_zret rfl (by first | exact bN_z | rfl | decide | assumption) dX12_isOfHeap_23 ?_
      exact ⟨by first | rw [bN_t (Or.inl (by assumption))] | rw [bN_t (Or.inr (Or.inl (by assumption)))] | rw [bN_t (Or.inr (Or.inr (by assumption)))] | rw [bN_f (fun z => by rcases z with z | z | z <;> exact absurd z (by assumption))], rfl⟩
    · skip
      refine ex_iload_n dX12_isOfHeap_12 rfl ?_
      refine ex_bipushN (nI 19) dX12_isOfHeap_13 (by decide) ?_
      refine ex_icmp_ne 22 dX12_isOfHeap_15 (by decide) (fun q15 => ?_) (fun q15 => ?_)
      · skip
        refine ex_iconstN (nI 0) dX12_isOfHeap_22 (by decide) ?_
        refine ex_zret rfl (by first | exact bN_z | rfl | decide | assumption) dX12_isOfHeap_23 ?_
        exact ⟨by first | rw [bN_t (Or.inl (by assumption))] | rw [bN_t (Or.inr (Or.inl (by assumption)))] | rw [bN_t (Or.inr (Or.inr (by assumption)))] | rw [bN_f (fun z => by rcases z with z | z | z <;> exact absurd z (by assumption))], rfl⟩
      · skip
        refine ex_iconstN (nI 1) dX12_isOfHeap_18 (by decide) ?_
        refine ex_goto 23 dX12_isOfHeap_19 (by decide) ?_
        refine ex_zret rfl (by first | exact bN_z | rfl | decide | assumption) dX12_isOfHeap_23 ?_
        exact ⟨by first | rw [bN_t (Or.inl (by assumption))] | rw [bN_t (Or.inr (Or.inl (by assumption)))] | rw [bN_t (Or.inr (Or.inr (by assumption)))] | rw [bN_f (fun z => by rcases z with z | z | z <;> exact absurd z (by assumption))], rfl⟩
def hvl (A : Nat → Nat → Int32) (n : Nat) (c : Int32) (k : Nat) : Int32 := if k < n then (if c = nI 14 then A 1 (16 * k + 3 + 0) else A 1 (16 * k + (if c = nI 15 then 0 else 1))) else -1
set_option maxHeartbeats 400000 in
set_option maxRecDepth 100000 in
theorem e_heapValue {b : Nat} {h : am_H} {σ : am_S} {n k : Nat} (c : Int32) (hn : σ.2.1 1 96 = nI n) (hn6 : n ≤ 6) (hk : k < 6) (hm : Mo b h σ) : Ex 2 0 0 mX12_heapValue 0 (am_en [.ref b, .int c, .int (nI k)] 3) [] h (fun r h2 => r = some (.int (hvl σ.2.1 n c k)) ∧ h2 = h) := by
  have hs : Same b h h := Same.rf
  refine ex_aload_n dX12_heapValue_0 rfl rfl ?_
  refine ex_iload_n dX12_heapValue_1 rfl ?_
  refine ex_callV0 (dc := 1) (as := [.int _]) dX12_heapValue_2 MX12_isHeap kX12_122 iX12_isHeap sX12_isHeap rfl rfl hm.1 rfl rfl (Nat.le_of_ble_eq_true rfl) (Nat.le_of_ble_eq_true rfl) (by decide) (e_isHeap _ hn hn6 hm) (fun r h2 q => ?_)
  obtain ⟨rfl, rfl⟩ := q
  show Ex _ 0 0 _ _ _ (Value.int _ :: _) _ _
  refine ex_if_neN 10 dX12_heapValue_5 (by decide) (by first | omega | exact bN_lt) (fun q5 => ?_) (fun q5 => ?_)
  · skip
    have hkn : k < n := by have := (bN_n.mp q5).2; rw [nI_toInt (by omega)] at this; omega
    refine ex_iload_n dX12_heapValue_10 rfl ?_
    refine ex_bipushN (nI 14) dX12_heapValue_11 (by decide) ?_
    refine ex_icmp_ne 25 dX12_heapValue_13 (by decide) (fun q13 => ?_) (fun q13 => ?_)
    · skip
      refine ex_aload_n dX12_heapValue_25 rfl rfl ?_
      refine ex_getf fX12_24 dX12_heapValue_26 hm.1 rfl ?_
      refine ex_iload_n dX12_heapValue_29 rfl ?_
      refine ex_callS0 (dc := 0) (as := [.int _]) dX12_heapValue_30 MX12_placeOf kX12_112 tX12_placeOf rfl rfl (Nat.le_of_ble_eq_true rfl) (Nat.le_of_ble_eq_true rfl) (by decide) (e_placeOf _ _) (fun r h2 q => ?_)
      obtain ⟨rfl, rfl⟩ := q
      show Ex _ 0 0 _ _ _ (Value.int _ :: _) _ _
      rw [pl_nI]
      refine ex_iload_n dX12_heapValue_33 rfl ?_
      refine ex_bipushN (nI 15) dX12_heapValue_34 (by decide) ?_
      refine ex_icmp_ne 43 dX12_heapValue_36 (by decide) (fun q36 => ?_) (fun q36 => ?_)
      · skip
        refine ex_iconstN (nI 1) dX12_heapValue_43 (by decide) ?_
        refine ex_iaddN dX12_heapValue_44 ?_
        refine m_ald hm dX12_heapValue_45 (by decide) (by decide) rfl (by show _ < 5725; first | omega | exact bN_lt) ?_
        refine ex_iret rfl dX12_heapValue_46 ?_
        exact ⟨by unfold hvl; first | rw [if_neg hkn] | rw [if_pos hkn, if_pos q13] | rw [if_pos hkn, if_neg q13, if_pos q36] | rw [if_pos hkn, if_neg q13, if_neg q36], rfl⟩
      · skip
        refine ex_iconstN (nI 0) dX12_heapValue_39 (by decide) ?_
        refine ex_goto 44 dX12_heapValue_40 (by decide) ?_
        refine ex_iaddN dX12_heapValue_44 ?_
        refine m_ald hm dX12_heapValue_45 (by decide) (by decide) rfl (by show _ < 5725; first | omega | exact bN_lt) ?_
        refine ex_iret rfl dX12_heapValue_46 ?_
        exact ⟨by unfold hvl; first | rw [if_neg hkn] | rw [if_pos hkn, if_pos q13] | rw [if_pos hkn, if_neg q13, if_pos q36] | rw [if_pos hkn, if_neg q13, if_neg q36], rfl⟩
    · skip
      refine ex_aload_n dX12_heapValue_16 rfl rfl ?_
      refine ex_iload_n dX12_heapValue_17 rfl ?_
      refine ex_iconstN (nI 0) dX12_heapValue_18 (by decide) ?_
      refine ex_callV0 (dc := 1) (as := [.int _, .int _]) dX12_heapValue_19 MX12_cardOf kX12_280 iX12_cardOf sX12_cardOf rfl rfl hm.1 rfl rfl (Nat.le_of_ble_eq_true rfl) (Nat.le_of_ble_eq_true rfl) (by decide) (e_cardOf _ _ (by omega) (by omega) hm) (fun r h2 q => ?_)
      obtain ⟨rfl, rfl⟩ := q
      show Ex _ 0 0 _ _ _ (Value.int _ :: _) _ _
      refine ex_goto 46 dX12_heapValue_22 (by decide) ?_
      refine ex_iret rfl dX12_heapValue_46 ?_
      exact ⟨by unfold hvl; first | rw [if_neg hkn] | rw [if_pos hkn, if_pos q13] | rw [if_pos hkn, if_neg q13, if_pos q36] | rw [if_pos hkn, if_neg q13, if_neg q36], rfl⟩
  · skip
    have hkn : ¬ k < n := fun z => bN_0.mp q5 ⟨by rw [nI_toInt (by omega)]; omega, by rw [nI_toInt (by omega)]; omega⟩
    refine ex_iconstN (-1) dX12_heapValue_8 (by decide) ?_
    refine ex_iret rfl dX12_heapValue_9 ?_
    exact ⟨by unfold hvl; first | rw [if_neg hkn] | rw [if_pos hkn, if_pos q13] | rw [if_pos hkn, if_neg q13, if_pos q36] | rw [if_pos hkn, if_neg q13, if_neg q36], rfl⟩
def pv0 (live br : Bool) (x : Int32) : Int64 := if live = true ∧ ¬ br = true then x.toInt64 else 0
theorem pv_t {live br : Bool} {x : Int32} (h1 : live = true) (h2 : ¬ br = true) : pv0 live br x = x.toInt64 := if_pos ⟨h1, h2⟩
theorem pv_f1 {live br : Bool} {x : Int32} (h1 : ¬ live = true) : pv0 live br x = 0 := if_neg (fun z => h1 z.1)
theorem pv_f2 {live br : Bool} {x : Int32} (h1 : br = true) : pv0 live br x = 0 := if_neg (fun z => z.2 h1)
theorem sgn (n : Nat) : nI 100 + nI n = nI (100 + n) := nI_add 100 n
set_option maxHeartbeats 400000 in
set_option maxRecDepth 100000 in
theorem p_num {b : Nat} {h : am_H} {σ : am_S} {ge g n : Nat} {br : Bool} (live inO : Bool) (hge : σ.1 22 = nI ge) (hge2 : ge ≤ 2800) (hg : g < 2799) (h24 : σ.1 24 = nI (bN (inO = true))) (hn : σ.2.1 1 96 = nI n) (hn6 : n ≤ 6) (hc : cdA σ.2.1 ge g = nI 50) (hm : Mo b h (evS σ g br)) : Ex 3 0 0 mX12_partOf 0 (am_en [.ref b, .int (nI (bN (live = true)))] 4) [] h (fun r h2 => r = some (.long (pv0 live br (σ.2.1 1 (2925 + g)))) ∧ Mo b h2 (evS σ (g + 1) br) ∧ Same b h h2) := by
  have hs : Same b h h := Same.rf
  have hb91 : ¬ cdA σ.2.1 ge g = nI (100 + 91) := by rw [hc]; decide
  refine ex_aload_n dX12_partOf_0 rfl rfl ?_
  refine ex_bipushN (nI 91) dX12_partOf_1 (by decide) ?_
  refine ex_callS0 (dc := 0) (as := [.int _]) dX12_partOf_3 MX12_sign kX12_215 tX12_sign rfl rfl (Nat.le_of_ble_eq_true rfl) (Nat.le_of_ble_eq_true rfl) (by decide) (e_sign _ _) (fun r h2 q => ?_)
  obtain ⟨rfl, rfl⟩ := q
  show Ex _ 0 0 _ _ _ (Value.int _ :: _) _ _
  rw [sgn]
  refine ex_callV0 (dc := 1) (as := [.int _]) dX12_partOf_6 MX12_passes0 kX12_283 iX12_passes0 sX12_passes0 rfl rfl hm.1 rfl rfl (Nat.le_of_ble_eq_true rfl) (Nat.le_of_ble_eq_true rfl) (by decide) (e_passes0 _ (by omega) hge hge2 hm) (fun r h2 q => ?_)
  obtain ⟨rfl, hm, hs2⟩ := q
  have hs := hs.tr hs2
  rw [if_neg hb91] at hm
  rw [bN_f hb91]
  show Ex _ 0 0 _ _ _ (Value.int _ :: _) _ _
  refine ex_if_eqN 30 dX12_partOf_9 (by decide) (by first | omega | exact bN_lt) (fun q9 => ?_) (fun q9 => ?_)
  · skip
    refine ex_aload_n dX12_partOf_30 rfl rfl ?_
    refine ex_aload_n dX12_partOf_31 rfl rfl ?_
    refine ex_getf fX12_256 dX12_partOf_32 hm.1 (congrArg (fun z => some (Value.int z)) (show (evS σ (g) br).1 21 = nI (g) from rfl)) ?_
    refine ex_callV0 (dc := 0) (as := [.int _]) dX12_partOf_35 MX12_codeAt kX12_259 iX12_codeAt sX12_codeAt rfl rfl hm.1 rfl rfl (Nat.le_of_ble_eq_true rfl) (Nat.le_of_ble_eq_true rfl) (by decide) (e_codeAt _ (by omega) hge hge2 hm) (fun r h2 q => ?_)
    obtain ⟨rfl, rfl⟩ := q
    rw [hc]
    show Ex _ 0 0 _ _ _ (Value.int _ :: _) _ _
    refine ex_istore_n dX12_partOf_38 (by decide) ?_
    refine ex_iconstN (nI 0) dX12_partOf_39 (by decide) ?_
    refine ex_istore_n dX12_partOf_40 (by decide) ?_
    refine ex_aload_n dX12_partOf_41 rfl rfl ?_
    refine ex_dup dX12_partOf_42 rfl ?_
    refine ex_getf fX12_256 dX12_partOf_43 hm.1 (congrArg (fun z => some (Value.int z)) (show (evS σ (g) br).1 21 = nI (g) from rfl)) ?_
    refine ex_iconstN (nI 1) dX12_partOf_46 (by decide) ?_
    refine ex_iaddN dX12_partOf_47 ?_
    refine m_put hm hs pX12_256 dX12_partOf_48 (by decide) (ms21 _ _ _) (fun h1 hm hs => ?_)
    rw [evS_go] at hm
    refine ex_aload_n dX12_partOf_51 rfl rfl ?_
    refine ex_getf fX12_289 dX12_partOf_52 hm.1 (congrArg (fun z => some (Value.int z)) h24) ?_
    refine ex_if_eqN 89 dX12_partOf_55 (by decide) (by first | omega | exact bN_lt) (fun q55 => ?_) (fun q55 => ?_)
    · skip
      refine ex_iload_n dX12_partOf_89 rfl ?_
      refine ex_if_eqN 100 dX12_partOf_90 (by decide) (by first | omega | exact bN_lt) (fun q90 => ?_) (fun q90 => ?_)
      · skip
        refine ex_lconst dX12_partOf_100 ?_
        refine ex_lret rfl dX12_partOf_101 ?_
        first | exact ⟨by rw [pv_f1 (bN_0.mp q90)]; rfl, hm, hs⟩ | exact ⟨by rw [pv_f2 (bN_n.mp q97)]; rfl, hm, hs⟩ | exact ⟨by rw [pv_t (bN_n.mp q90) (bN_0.mp q97)] <;> rfl, hm, hs⟩
      · skip
        refine ex_aload_n dX12_partOf_93 rfl rfl ?_
        refine ex_getf fX12_266 dX12_partOf_94 hm.1 (congrArg (fun z => some (Value.int z)) (show (evS σ 0 br).1 23 = nI (bN (br = true)) from rfl)) ?_
        refine ex_if_eqN 102 dX12_partOf_97 (by decide) (by first | omega | exact bN_lt) (fun q97 => ?_) (fun q97 => ?_)
        · skip
          refine ex_iload_n dX12_partOf_102 rfl ?_
          refine ex_bipushN (nI 50) dX12_partOf_103 (by decide) ?_
          refine ex_icmp_neN 125 dX12_partOf_105 (by decide) (by first | omega | exact bN_lt) (by first | omega | exact bN_lt) (fun q105 => ?_) (fun q105 => ?_)
          · skip
            exact absurd rfl q105
          · skip
            refine ex_aload_n dX12_partOf_108 rfl rfl ?_
            refine ex_getf fX12_24 dX12_partOf_109 hm.1 rfl ?_
            refine ex_sipushN (nI 2925) dX12_partOf_112 (by decide) ?_
            refine ex_aload_n dX12_partOf_115 rfl rfl ?_
            refine ex_getf fX12_256 dX12_partOf_116 hm.1 (congrArg (fun z => some (Value.int z)) (show (evS σ (g + 1) br).1 21 = nI (g + 1) from rfl)) ?_
            refine ex_iaddN dX12_partOf_119 ?_
            refine ex_iconstN (nI 1) dX12_partOf_120 (by decide) ?_
            refine ex_isubN dX12_partOf_121 (by first | omega | exact bN_lt) ?_
            refine m_ald hm dX12_partOf_122 (by decide) (by decide) rfl (by show _ < 5725; first | omega | exact bN_lt) ?_
            refine ex_i2l dX12_partOf_123 ?_
            refine ex_lret rfl dX12_partOf_124 ?_
            first | exact ⟨by rw [pv_f1 (bN_0.mp q90)]; rfl, hm, hs⟩ | exact ⟨by rw [pv_f2 (bN_n.mp q97)]; rfl, hm, hs⟩ | exact ⟨by rw [pv_t (bN_n.mp q90) (bN_0.mp q97)] <;> rfl, hm, hs⟩
        · skip
          refine ex_lconst dX12_partOf_100 ?_
          refine ex_lret rfl dX12_partOf_101 ?_
          first | exact ⟨by rw [pv_f1 (bN_0.mp q90)]; rfl, hm, hs⟩ | exact ⟨by rw [pv_f2 (bN_n.mp q97)]; rfl, hm, hs⟩ | exact ⟨by rw [pv_t (bN_n.mp q90) (bN_0.mp q97)] <;> rfl, hm, hs⟩
    · skip
      refine ex_iload_n dX12_partOf_58 rfl ?_
      refine ex_callS0 (dc := 0) (as := [.int _]) dX12_partOf_59 MX12_isOfHeap kX12_234 tX12_isOfHeap rfl rfl (Nat.le_of_ble_eq_true rfl) (Nat.le_of_ble_eq_true rfl) (by decide) (e_isOfHeap _ _) (fun r h2 q => ?_)
      obtain ⟨rfl, rfl⟩ := q
      show Ex _ 0 0 _ _ _ (Value.int _ :: _) _ _
      refine ex_if_eqN 89 dX12_partOf_62 (by decide) (by first | omega | exact bN_lt) (fun q62 => ?_) (fun q62 => ?_)
      · skip
        refine ex_iload_n dX12_partOf_89 rfl ?_
        refine ex_if_eqN 100 dX12_partOf_90 (by decide) (by first | omega | exact bN_lt) (fun q90 => ?_) (fun q90 => ?_)
        · skip
          refine ex_lconst dX12_partOf_100 ?_
          refine ex_lret rfl dX12_partOf_101 ?_
          first | exact ⟨by rw [pv_f1 (bN_0.mp q90)]; rfl, hm, hs⟩ | exact ⟨by rw [pv_f2 (bN_n.mp q97)]; rfl, hm, hs⟩ | exact ⟨by rw [pv_t (bN_n.mp q90) (bN_0.mp q97)] <;> rfl, hm, hs⟩
        · skip
          refine ex_aload_n dX12_partOf_93 rfl rfl ?_
          refine ex_getf fX12_266 dX12_partOf_94 hm.1 (congrArg (fun z => some (Value.int z)) (show (evS σ 0 br).1 23 = nI (bN (br = true)) from rfl)) ?_
          refine ex_if_eqN 102 dX12_partOf_97 (by decide) (by first | omega | exact bN_lt) (fun q97 => ?_) (fun q97 => ?_)
          · skip
            refine ex_iload_n dX12_partOf_102 rfl ?_
            refine ex_bipushN (nI 50) dX12_partOf_103 (by decide) ?_
            refine ex_icmp_neN 125 dX12_partOf_105 (by decide) (by first | omega | exact bN_lt) (by first | omega | exact bN_lt) (fun q105 => ?_) (fun q105 => ?_)
            · skip
              exact absurd rfl q105
            · skip
              refine ex_aload_n dX12_partOf_108 rfl rfl ?_
              refine ex_getf fX12_24 dX12_partOf_109 hm.1 rfl ?_
              refine ex_sipushN (nI 2925) dX12_partOf_112 (by decide) ?_
              refine ex_aload_n dX12_partOf_115 rfl rfl ?_
              refine ex_getf fX12_256 dX12_partOf_116 hm.1 (congrArg (fun z => some (Value.int z)) (show (evS σ (g + 1) br).1 21 = nI (g + 1) from rfl)) ?_
              refine ex_iaddN dX12_partOf_119 ?_
              refine ex_iconstN (nI 1) dX12_partOf_120 (by decide) ?_
              refine ex_isubN dX12_partOf_121 (by first | omega | exact bN_lt) ?_
              refine m_ald hm dX12_partOf_122 (by decide) (by decide) rfl (by show _ < 5725; first | omega | exact bN_lt) ?_
              refine ex_i2l dX12_partOf_123 ?_
              refine ex_lret rfl dX12_partOf_124 ?_
              first | exact ⟨by rw [pv_f1 (bN_0.mp q90)]; rfl, hm, hs⟩ | exact ⟨by rw [pv_f2 (bN_n.mp q97)]; rfl, hm, hs⟩ | exact ⟨by rw [pv_t (bN_n.mp q90) (bN_0.mp q97)] <;> rfl, hm, hs⟩
          · skip
            refine ex_lconst dX12_partOf_100 ?_
            refine ex_lret rfl dX12_partOf_101 ?_
            first | exact ⟨by rw [pv_f1 (bN_0.mp q90)]; rfl, hm, hs⟩ | exact ⟨by rw [pv_f2 (bN_n.mp q97)]; rfl, hm, hs⟩ | exact ⟨by rw [pv_t (bN_n.mp q90) (bN_0.mp q97)] <;> rfl, hm, hs⟩
      · skip
        exact absurd (bN_n.mp q62) (by decide)
  · skip
    exact absurd q9 (by decide)
set_option maxHeartbeats 400000 in
set_option maxRecDepth 100000 in
theorem p_law {b : Nat} {h : am_H} {σ : am_S} {ge g n : Nat} {br : Bool} (live inO : Bool) (hge : σ.1 22 = nI ge) (hge2 : ge ≤ 2800) (hg : g < 2799) (h24 : σ.1 24 = nI (bN (inO = true))) (hn : σ.2.1 1 96 = nI n) (hn6 : n ≤ 6) {k : Nat} (hi : inO = false) (hk8 : 8 ≤ k) (hk : k ≤ 15) (hc : cdA σ.2.1 ge g = nI k) (hm : Mo b h (evS σ g br)) : Ex 3 0 0 mX12_partOf 0 (am_en [.ref b, .int (nI (bN (live = true)))] 4) [] h (fun r h2 => r = some (.long (pv0 live br (σ.2.1 11 (k - 8)))) ∧ Mo b h2 (evS σ (g + 1) br) ∧ Same b h h2) := by
  have hs : Same b h h := Same.rf
  have hb91 : ¬ cdA σ.2.1 ge g = nI (100 + 91) := by rw [hc]; exact fun z => absurd ((nI_eq (by omega) (by omega)).mp z) (by omega)
  refine ex_aload_n dX12_partOf_0 rfl rfl ?_
  refine ex_bipushN (nI 91) dX12_partOf_1 (by decide) ?_
  refine ex_callS0 (dc := 0) (as := [.int _]) dX12_partOf_3 MX12_sign kX12_215 tX12_sign rfl rfl (Nat.le_of_ble_eq_true rfl) (Nat.le_of_ble_eq_true rfl) (by decide) (e_sign _ _) (fun r h2 q => ?_)
  obtain ⟨rfl, rfl⟩ := q
  show Ex _ 0 0 _ _ _ (Value.int _ :: _) _ _
  rw [sgn]
  refine ex_callV0 (dc := 1) (as := [.int _]) dX12_partOf_6 MX12_passes0 kX12_283 iX12_passes0 sX12_passes0 rfl rfl hm.1 rfl rfl (Nat.le_of_ble_eq_true rfl) (Nat.le_of_ble_eq_true rfl) (by decide) (e_passes0 _ (by omega) hge hge2 hm) (fun r h2 q => ?_)
  obtain ⟨rfl, hm, hs2⟩ := q
  have hs := hs.tr hs2
  rw [if_neg hb91] at hm
  rw [bN_f hb91]
  show Ex _ 0 0 _ _ _ (Value.int _ :: _) _ _
  refine ex_if_eqN 30 dX12_partOf_9 (by decide) (by first | omega | exact bN_lt) (fun q9 => ?_) (fun q9 => ?_)
  · skip
    refine ex_aload_n dX12_partOf_30 rfl rfl ?_
    refine ex_aload_n dX12_partOf_31 rfl rfl ?_
    refine ex_getf fX12_256 dX12_partOf_32 hm.1 (congrArg (fun z => some (Value.int z)) (show (evS σ (g) br).1 21 = nI (g) from rfl)) ?_
    refine ex_callV0 (dc := 0) (as := [.int _]) dX12_partOf_35 MX12_codeAt kX12_259 iX12_codeAt sX12_codeAt rfl rfl hm.1 rfl rfl (Nat.le_of_ble_eq_true rfl) (Nat.le_of_ble_eq_true rfl) (by decide) (e_codeAt _ (by omega) hge hge2 hm) (fun r h2 q => ?_)
    obtain ⟨rfl, rfl⟩ := q
    rw [hc]
    show Ex _ 0 0 _ _ _ (Value.int _ :: _) _ _
    refine ex_istore_n dX12_partOf_38 (by decide) ?_
    refine ex_iconstN (nI 0) dX12_partOf_39 (by decide) ?_
    refine ex_istore_n dX12_partOf_40 (by decide) ?_
    refine ex_aload_n dX12_partOf_41 rfl rfl ?_
    refine ex_dup dX12_partOf_42 rfl ?_
    refine ex_getf fX12_256 dX12_partOf_43 hm.1 (congrArg (fun z => some (Value.int z)) (show (evS σ (g) br).1 21 = nI (g) from rfl)) ?_
    refine ex_iconstN (nI 1) dX12_partOf_46 (by decide) ?_
    refine ex_iaddN dX12_partOf_47 ?_
    refine m_put hm hs pX12_256 dX12_partOf_48 (by decide) (ms21 _ _ _) (fun h1 hm hs => ?_)
    rw [evS_go] at hm
    refine ex_aload_n dX12_partOf_51 rfl rfl ?_
    refine ex_getf fX12_289 dX12_partOf_52 hm.1 (congrArg (fun z => some (Value.int z)) h24) ?_
    refine ex_if_eqN 89 dX12_partOf_55 (by decide) (by first | omega | exact bN_lt) (fun q55 => ?_) (fun q55 => ?_)
    · skip
      refine ex_iload_n dX12_partOf_89 rfl ?_
      refine ex_if_eqN 100 dX12_partOf_90 (by decide) (by first | omega | exact bN_lt) (fun q90 => ?_) (fun q90 => ?_)
      · skip
        refine ex_lconst dX12_partOf_100 ?_
        refine ex_lret rfl dX12_partOf_101 ?_
        first | exact ⟨by rw [pv_f1 (bN_0.mp q90)]; rfl, hm, hs⟩ | exact ⟨by rw [pv_f2 (bN_n.mp q97)]; rfl, hm, hs⟩ | exact ⟨by rw [pv_t (bN_n.mp q90) (bN_0.mp q97)] <;> rfl, hm, hs⟩
      · skip
        refine ex_aload_n dX12_partOf_93 rfl rfl ?_
        refine ex_getf fX12_266 dX12_partOf_94 hm.1 (congrArg (fun z => some (Value.int z)) (show (evS σ 0 br).1 23 = nI (bN (br = true)) from rfl)) ?_
        refine ex_if_eqN 102 dX12_partOf_97 (by decide) (by first | omega | exact bN_lt) (fun q97 => ?_) (fun q97 => ?_)
        · skip
          refine ex_iload_n dX12_partOf_102 rfl ?_
          refine ex_bipushN (nI 50) dX12_partOf_103 (by decide) ?_
          refine ex_icmp_neN 125 dX12_partOf_105 (by decide) (by first | omega | exact bN_lt) (by first | omega | exact bN_lt) (fun q105 => ?_) (fun q105 => ?_)
          · skip
            refine ex_aload_n dX12_partOf_125 rfl rfl ?_
            refine ex_getf fX12_289 dX12_partOf_126 hm.1 (congrArg (fun z => some (Value.int z)) h24) ?_
            refine ex_if_neN 143 dX12_partOf_129 (by decide) (by first | omega | exact bN_lt) (fun q129 => ?_) (fun q129 => ?_)
            · skip
              exact absurd (bN_n.mp q129) (by rw [hi]; decide)
            · skip
              refine ex_aload_n dX12_partOf_132 rfl rfl ?_
              refine ex_getf fX12_59 dX12_partOf_133 hm.1 rfl ?_
              refine ex_iload_n dX12_partOf_136 rfl ?_
              refine ex_bipushN (nI 8) dX12_partOf_137 (by decide) ?_
              refine ex_isubN dX12_partOf_139 (by first | omega | exact bN_lt) ?_
              refine m_ald hm dX12_partOf_140 (by decide) (by decide) rfl (by show _ < 8; first | omega | exact bN_lt) ?_
              refine ex_i2l dX12_partOf_141 ?_
              refine ex_lret rfl dX12_partOf_142 ?_
              first | exact ⟨by rw [pv_f1 (bN_0.mp q90)]; rfl, hm, hs⟩ | exact ⟨by rw [pv_f2 (bN_n.mp q97)]; rfl, hm, hs⟩ | exact ⟨by rw [pv_t (bN_n.mp q90) (bN_0.mp q97)] <;> rfl, hm, hs⟩
          · skip
            exact absurd q105 (by omega)
        · skip
          refine ex_lconst dX12_partOf_100 ?_
          refine ex_lret rfl dX12_partOf_101 ?_
          first | exact ⟨by rw [pv_f1 (bN_0.mp q90)]; rfl, hm, hs⟩ | exact ⟨by rw [pv_f2 (bN_n.mp q97)]; rfl, hm, hs⟩ | exact ⟨by rw [pv_t (bN_n.mp q90) (bN_0.mp q97)] <;> rfl, hm, hs⟩
    · skip
      exact absurd (bN_n.mp q55) (by rw [hi]; decide)
  · skip
    exact absurd q9 (by decide)
set_option maxHeartbeats 400000 in
set_option maxRecDepth 100000 in
theorem p_oh {b : Nat} {h : am_H} {σ : am_S} {ge g n : Nat} {br : Bool} (live inO : Bool) (hge : σ.1 22 = nI ge) (hge2 : ge ≤ 2800) (hg : g < 2799) (h24 : σ.1 24 = nI (bN (inO = true))) (hn : σ.2.1 1 96 = nI n) (hn6 : n ≤ 6) {k hv : Nat} (hi : inO = true) (hk : k = 14 ∨ k = 15 ∨ k = 19) (hc : cdA σ.2.1 ge g = nI k) (hhv : σ.2.1 1 (2925 + (g + 1)) = nI hv) (hv6 : hv < 6) (hm : Mo b h (evS σ g br)) : Ex 3 0 0 mX12_partOf 0 (am_en [.ref b, .int (nI (bN (live = true)))] 4) [] h (fun r h2 => r = some (.long (pv0 live br (hvl σ.2.1 n (nI k) hv))) ∧ Mo b h2 (evS σ (g + 1 + 1) br) ∧ Same b h h2) := by
  have hs : Same b h h := Same.rf
  have hb91 : ¬ cdA σ.2.1 ge g = nI (100 + 91) := by rw [hc]; exact fun z => absurd ((nI_eq (by omega) (by omega)).mp z) (by omega)
  refine ex_aload_n dX12_partOf_0 rfl rfl ?_
  refine ex_bipushN (nI 91) dX12_partOf_1 (by decide) ?_
  refine ex_callS0 (dc := 0) (as := [.int _]) dX12_partOf_3 MX12_sign kX12_215 tX12_sign rfl rfl (Nat.le_of_ble_eq_true rfl) (Nat.le_of_ble_eq_true rfl) (by decide) (e_sign _ _) (fun r h2 q => ?_)
  obtain ⟨rfl, rfl⟩ := q
  show Ex _ 0 0 _ _ _ (Value.int _ :: _) _ _
  rw [sgn]
  refine ex_callV0 (dc := 1) (as := [.int _]) dX12_partOf_6 MX12_passes0 kX12_283 iX12_passes0 sX12_passes0 rfl rfl hm.1 rfl rfl (Nat.le_of_ble_eq_true rfl) (Nat.le_of_ble_eq_true rfl) (by decide) (e_passes0 _ (by omega) hge hge2 hm) (fun r h2 q => ?_)
  obtain ⟨rfl, hm, hs2⟩ := q
  have hs := hs.tr hs2
  rw [if_neg hb91] at hm
  rw [bN_f hb91]
  show Ex _ 0 0 _ _ _ (Value.int _ :: _) _ _
  refine ex_if_eqN 30 dX12_partOf_9 (by decide) (by first | omega | exact bN_lt) (fun q9 => ?_) (fun q9 => ?_)
  · skip
    refine ex_aload_n dX12_partOf_30 rfl rfl ?_
    refine ex_aload_n dX12_partOf_31 rfl rfl ?_
    refine ex_getf fX12_256 dX12_partOf_32 hm.1 (congrArg (fun z => some (Value.int z)) (show (evS σ (g) br).1 21 = nI (g) from rfl)) ?_
    refine ex_callV0 (dc := 0) (as := [.int _]) dX12_partOf_35 MX12_codeAt kX12_259 iX12_codeAt sX12_codeAt rfl rfl hm.1 rfl rfl (Nat.le_of_ble_eq_true rfl) (Nat.le_of_ble_eq_true rfl) (by decide) (e_codeAt _ (by omega) hge hge2 hm) (fun r h2 q => ?_)
    obtain ⟨rfl, rfl⟩ := q
    rw [hc]
    show Ex _ 0 0 _ _ _ (Value.int _ :: _) _ _
    refine ex_istore_n dX12_partOf_38 (by decide) ?_
    refine ex_iconstN (nI 0) dX12_partOf_39 (by decide) ?_
    refine ex_istore_n dX12_partOf_40 (by decide) ?_
    refine ex_aload_n dX12_partOf_41 rfl rfl ?_
    refine ex_dup dX12_partOf_42 rfl ?_
    refine ex_getf fX12_256 dX12_partOf_43 hm.1 (congrArg (fun z => some (Value.int z)) (show (evS σ (g) br).1 21 = nI (g) from rfl)) ?_
    refine ex_iconstN (nI 1) dX12_partOf_46 (by decide) ?_
    refine ex_iaddN dX12_partOf_47 ?_
    refine m_put hm hs pX12_256 dX12_partOf_48 (by decide) (ms21 _ _ _) (fun h1 hm hs => ?_)
    rw [evS_go] at hm
    refine ex_aload_n dX12_partOf_51 rfl rfl ?_
    refine ex_getf fX12_289 dX12_partOf_52 hm.1 (congrArg (fun z => some (Value.int z)) h24) ?_
    refine ex_if_eqN 89 dX12_partOf_55 (by decide) (by first | omega | exact bN_lt) (fun q55 => ?_) (fun q55 => ?_)
    · skip
      exact absurd hi (bN_0.mp q55)
    · skip
      refine ex_iload_n dX12_partOf_58 rfl ?_
      refine ex_callS0 (dc := 0) (as := [.int _]) dX12_partOf_59 MX12_isOfHeap kX12_234 tX12_isOfHeap rfl rfl (Nat.le_of_ble_eq_true rfl) (Nat.le_of_ble_eq_true rfl) (by decide) (e_isOfHeap _ _) (fun r h2 q => ?_)
      obtain ⟨rfl, rfl⟩ := q
      show Ex _ 0 0 _ _ _ (Value.int _ :: _) _ _
      refine ex_if_eqN 89 dX12_partOf_62 (by decide) (by first | omega | exact bN_lt) (fun q62 => ?_) (fun q62 => ?_)
      · skip
        exact absurd (by rcases hk with rfl | rfl | rfl; exact Or.inl rfl; exact Or.inr (Or.inl rfl); exact Or.inr (Or.inr rfl)) (bN_0.mp q62)
      · skip
        refine ex_aload_n dX12_partOf_65 rfl rfl ?_
        refine ex_getf fX12_24 dX12_partOf_66 hm.1 rfl ?_
        refine ex_sipushN (nI 2925) dX12_partOf_69 (by decide) ?_
        refine ex_aload_n dX12_partOf_72 rfl rfl ?_
        refine ex_getf fX12_256 dX12_partOf_73 hm.1 (congrArg (fun z => some (Value.int z)) (show (evS σ (g + 1) br).1 21 = nI (g + 1) from rfl)) ?_
        refine ex_iaddN dX12_partOf_76 ?_
        refine m_aldv hm dX12_partOf_77 (by decide) (by decide) rfl (by show _ < 5725; first | omega | exact bN_lt) (hhv) ?_
        refine ex_istore_n dX12_partOf_78 (by decide) ?_
        refine ex_aload_n dX12_partOf_79 rfl rfl ?_
        refine ex_dup dX12_partOf_80 rfl ?_
        refine ex_getf fX12_256 dX12_partOf_81 hm.1 (congrArg (fun z => some (Value.int z)) (show (evS σ (g + 1) br).1 21 = nI (g + 1) from rfl)) ?_
        refine ex_iconstN (nI 1) dX12_partOf_84 (by decide) ?_
        refine ex_iaddN dX12_partOf_85 ?_
        refine m_put hm hs pX12_256 dX12_partOf_86 (by decide) (ms21 _ _ _) (fun h1 hm hs => ?_)
        rw [evS_go] at hm
        refine ex_iload_n dX12_partOf_89 rfl ?_
        refine ex_if_eqN 100 dX12_partOf_90 (by decide) (by first | omega | exact bN_lt) (fun q90 => ?_) (fun q90 => ?_)
        · skip
          refine ex_lconst dX12_partOf_100 ?_
          refine ex_lret rfl dX12_partOf_101 ?_
          first | exact ⟨by rw [pv_f1 (bN_0.mp q90)]; rfl, hm, hs⟩ | exact ⟨by rw [pv_f2 (bN_n.mp q97)]; rfl, hm, hs⟩ | exact ⟨by rw [pv_t (bN_n.mp q90) (bN_0.mp q97)] <;> rfl, hm, hs⟩
        · skip
          refine ex_aload_n dX12_partOf_93 rfl rfl ?_
          refine ex_getf fX12_266 dX12_partOf_94 hm.1 (congrArg (fun z => some (Value.int z)) (show (evS σ 0 br).1 23 = nI (bN (br = true)) from rfl)) ?_
          refine ex_if_eqN 102 dX12_partOf_97 (by decide) (by first | omega | exact bN_lt) (fun q97 => ?_) (fun q97 => ?_)
          · skip
            refine ex_iload_n dX12_partOf_102 rfl ?_
            refine ex_bipushN (nI 50) dX12_partOf_103 (by decide) ?_
            refine ex_icmp_neN 125 dX12_partOf_105 (by decide) (by first | omega | exact bN_lt) (by first | omega | exact bN_lt) (fun q105 => ?_) (fun q105 => ?_)
            · skip
              refine ex_aload_n dX12_partOf_125 rfl rfl ?_
              refine ex_getf fX12_289 dX12_partOf_126 hm.1 (congrArg (fun z => some (Value.int z)) h24) ?_
              refine ex_if_neN 143 dX12_partOf_129 (by decide) (by first | omega | exact bN_lt) (fun q129 => ?_) (fun q129 => ?_)
              · skip
                refine ex_iload_n dX12_partOf_143 rfl ?_
                refine ex_callS0 (dc := 0) (as := [.int _]) dX12_partOf_144 MX12_isOfHeap kX12_234 tX12_isOfHeap rfl rfl (Nat.le_of_ble_eq_true rfl) (Nat.le_of_ble_eq_true rfl) (by decide) (e_isOfHeap _ _) (fun r h2 q => ?_)
                obtain ⟨rfl, rfl⟩ := q
                show Ex _ 0 0 _ _ _ (Value.int _ :: _) _ _
                refine ex_if_eqN 160 dX12_partOf_147 (by decide) (by first | omega | exact bN_lt) (fun q147 => ?_) (fun q147 => ?_)
                · skip
                  exact absurd (by rcases hk with rfl | rfl | rfl; exact Or.inl rfl; exact Or.inr (Or.inl rfl); exact Or.inr (Or.inr rfl)) (bN_0.mp q147)
                · skip
                  refine ex_aload_n dX12_partOf_150 rfl rfl ?_
                  refine ex_iload_n dX12_partOf_151 rfl ?_
                  refine ex_iload_n dX12_partOf_152 rfl ?_
                  refine ex_callV0 (dc := 2) (as := [.int _, .int _]) dX12_partOf_153 MX12_heapValue kX12_292 iX12_heapValue sX12_heapValue rfl rfl hm.1 rfl rfl (Nat.le_of_ble_eq_true rfl) (Nat.le_of_ble_eq_true rfl) (by decide) (e_heapValue (σ := evS σ (g + 1 + 1) br) _ hn hn6 hv6 hm) (fun r h2 q => ?_)
                  obtain ⟨rfl, rfl⟩ := q
                  show Ex _ 0 0 _ _ _ (Value.int _ :: _) _ _
                  refine ex_i2l dX12_partOf_156 ?_
                  refine ex_goto 170 dX12_partOf_157 (by decide) ?_
                  refine ex_lret rfl dX12_partOf_170 ?_
                  first | exact ⟨by rw [pv_f1 (bN_0.mp q90)]; rfl, hm, hs⟩ | exact ⟨by rw [pv_f2 (bN_n.mp q97)]; rfl, hm, hs⟩ | exact ⟨by rw [pv_t (bN_n.mp q90) (bN_0.mp q97)] <;> rfl, hm, hs⟩
              · skip
                exact absurd hi (bN_0.mp q129)
            · skip
              exact absurd q105 (by omega)
          · skip
            refine ex_lconst dX12_partOf_100 ?_
            refine ex_lret rfl dX12_partOf_101 ?_
            first | exact ⟨by rw [pv_f1 (bN_0.mp q90)]; rfl, hm, hs⟩ | exact ⟨by rw [pv_f2 (bN_n.mp q97)]; rfl, hm, hs⟩ | exact ⟨by rw [pv_t (bN_n.mp q90) (bN_0.mp q97)] <;> rfl, hm, hs⟩
  · skip
    exact absurd q9 (by decide)
set_option maxHeartbeats 400000 in
set_option maxRecDepth 100000 in
theorem p_oo {b : Nat} {h : am_H} {σ : am_S} {ge g n : Nat} {br : Bool} (live inO : Bool) (hge : σ.1 22 = nI ge) (hge2 : ge ≤ 2800) (hg : g < 2799) (h24 : σ.1 24 = nI (bN (inO = true))) (hn : σ.2.1 1 96 = nI n) (hn6 : n ≤ 6) {k : Nat} (hi : inO = true) (hk16 : 16 ≤ k) (hk : k ≤ 18) (hc : cdA σ.2.1 ge g = nI k) (hm : Mo b h (evS σ g br)) : Ex 3 0 0 mX12_partOf 0 (am_en [.ref b, .int (nI (bN (live = true)))] 4) [] h (fun r h2 => r = some (.long (pv0 live br (σ.2.1 12 (k - 16)))) ∧ Mo b h2 (evS σ (g + 1) br) ∧ Same b h h2) := by
  have hs : Same b h h := Same.rf
  have hb91 : ¬ cdA σ.2.1 ge g = nI (100 + 91) := by rw [hc]; exact fun z => absurd ((nI_eq (by omega) (by omega)).mp z) (by omega)
  refine ex_aload_n dX12_partOf_0 rfl rfl ?_
  refine ex_bipushN (nI 91) dX12_partOf_1 (by decide) ?_
  refine ex_callS0 (dc := 0) (as := [.int _]) dX12_partOf_3 MX12_sign kX12_215 tX12_sign rfl rfl (Nat.le_of_ble_eq_true rfl) (Nat.le_of_ble_eq_true rfl) (by decide) (e_sign _ _) (fun r h2 q => ?_)
  obtain ⟨rfl, rfl⟩ := q
  show Ex _ 0 0 _ _ _ (Value.int _ :: _) _ _
  rw [sgn]
  refine ex_callV0 (dc := 1) (as := [.int _]) dX12_partOf_6 MX12_passes0 kX12_283 iX12_passes0 sX12_passes0 rfl rfl hm.1 rfl rfl (Nat.le_of_ble_eq_true rfl) (Nat.le_of_ble_eq_true rfl) (by decide) (e_passes0 _ (by omega) hge hge2 hm) (fun r h2 q => ?_)
  obtain ⟨rfl, hm, hs2⟩ := q
  have hs := hs.tr hs2
  rw [if_neg hb91] at hm
  rw [bN_f hb91]
  show Ex _ 0 0 _ _ _ (Value.int _ :: _) _ _
  refine ex_if_eqN 30 dX12_partOf_9 (by decide) (by first | omega | exact bN_lt) (fun q9 => ?_) (fun q9 => ?_)
  · skip
    refine ex_aload_n dX12_partOf_30 rfl rfl ?_
    refine ex_aload_n dX12_partOf_31 rfl rfl ?_
    refine ex_getf fX12_256 dX12_partOf_32 hm.1 (congrArg (fun z => some (Value.int z)) (show (evS σ (g) br).1 21 = nI (g) from rfl)) ?_
    refine ex_callV0 (dc := 0) (as := [.int _]) dX12_partOf_35 MX12_codeAt kX12_259 iX12_codeAt sX12_codeAt rfl rfl hm.1 rfl rfl (Nat.le_of_ble_eq_true rfl) (Nat.le_of_ble_eq_true rfl) (by decide) (e_codeAt _ (by omega) hge hge2 hm) (fun r h2 q => ?_)
    obtain ⟨rfl, rfl⟩ := q
    rw [hc]
    show Ex _ 0 0 _ _ _ (Value.int _ :: _) _ _
    refine ex_istore_n dX12_partOf_38 (by decide) ?_
    refine ex_iconstN (nI 0) dX12_partOf_39 (by decide) ?_
    refine ex_istore_n dX12_partOf_40 (by decide) ?_
    refine ex_aload_n dX12_partOf_41 rfl rfl ?_
    refine ex_dup dX12_partOf_42 rfl ?_
    refine ex_getf fX12_256 dX12_partOf_43 hm.1 (congrArg (fun z => some (Value.int z)) (show (evS σ (g) br).1 21 = nI (g) from rfl)) ?_
    refine ex_iconstN (nI 1) dX12_partOf_46 (by decide) ?_
    refine ex_iaddN dX12_partOf_47 ?_
    refine m_put hm hs pX12_256 dX12_partOf_48 (by decide) (ms21 _ _ _) (fun h1 hm hs => ?_)
    rw [evS_go] at hm
    refine ex_aload_n dX12_partOf_51 rfl rfl ?_
    refine ex_getf fX12_289 dX12_partOf_52 hm.1 (congrArg (fun z => some (Value.int z)) h24) ?_
    refine ex_if_eqN 89 dX12_partOf_55 (by decide) (by first | omega | exact bN_lt) (fun q55 => ?_) (fun q55 => ?_)
    · skip
      exact absurd hi (bN_0.mp q55)
    · skip
      refine ex_iload_n dX12_partOf_58 rfl ?_
      refine ex_callS0 (dc := 0) (as := [.int _]) dX12_partOf_59 MX12_isOfHeap kX12_234 tX12_isOfHeap rfl rfl (Nat.le_of_ble_eq_true rfl) (Nat.le_of_ble_eq_true rfl) (by decide) (e_isOfHeap _ _) (fun r h2 q => ?_)
      obtain ⟨rfl, rfl⟩ := q
      show Ex _ 0 0 _ _ _ (Value.int _ :: _) _ _
      refine ex_if_eqN 89 dX12_partOf_62 (by decide) (by first | omega | exact bN_lt) (fun q62 => ?_) (fun q62 => ?_)
      · skip
        refine ex_iload_n dX12_partOf_89 rfl ?_
        refine ex_if_eqN 100 dX12_partOf_90 (by decide) (by first | omega | exact bN_lt) (fun q90 => ?_) (fun q90 => ?_)
        · skip
          refine ex_lconst dX12_partOf_100 ?_
          refine ex_lret rfl dX12_partOf_101 ?_
          first | exact ⟨by rw [pv_f1 (bN_0.mp q90)]; rfl, hm, hs⟩ | exact ⟨by rw [pv_f2 (bN_n.mp q97)]; rfl, hm, hs⟩ | exact ⟨by rw [pv_t (bN_n.mp q90) (bN_0.mp q97)] <;> rfl, hm, hs⟩
        · skip
          refine ex_aload_n dX12_partOf_93 rfl rfl ?_
          refine ex_getf fX12_266 dX12_partOf_94 hm.1 (congrArg (fun z => some (Value.int z)) (show (evS σ 0 br).1 23 = nI (bN (br = true)) from rfl)) ?_
          refine ex_if_eqN 102 dX12_partOf_97 (by decide) (by first | omega | exact bN_lt) (fun q97 => ?_) (fun q97 => ?_)
          · skip
            refine ex_iload_n dX12_partOf_102 rfl ?_
            refine ex_bipushN (nI 50) dX12_partOf_103 (by decide) ?_
            refine ex_icmp_neN 125 dX12_partOf_105 (by decide) (by first | omega | exact bN_lt) (by first | omega | exact bN_lt) (fun q105 => ?_) (fun q105 => ?_)
            · skip
              refine ex_aload_n dX12_partOf_125 rfl rfl ?_
              refine ex_getf fX12_289 dX12_partOf_126 hm.1 (congrArg (fun z => some (Value.int z)) h24) ?_
              refine ex_if_neN 143 dX12_partOf_129 (by decide) (by first | omega | exact bN_lt) (fun q129 => ?_) (fun q129 => ?_)
              · skip
                refine ex_iload_n dX12_partOf_143 rfl ?_
                refine ex_callS0 (dc := 0) (as := [.int _]) dX12_partOf_144 MX12_isOfHeap kX12_234 tX12_isOfHeap rfl rfl (Nat.le_of_ble_eq_true rfl) (Nat.le_of_ble_eq_true rfl) (by decide) (e_isOfHeap _ _) (fun r h2 q => ?_)
                obtain ⟨rfl, rfl⟩ := q
                show Ex _ 0 0 _ _ _ (Value.int _ :: _) _ _
                refine ex_if_eqN 160 dX12_partOf_147 (by decide) (by first | omega | exact bN_lt) (fun q147 => ?_) (fun q147 => ?_)
                · skip
                  refine ex_aload_n dX12_partOf_160 rfl rfl ?_
                  refine ex_getf fX12_62 dX12_partOf_161 hm.1 rfl ?_
                  refine ex_iload_n dX12_partOf_164 rfl ?_
                  refine ex_bipushN (nI 16) dX12_partOf_165 (by decide) ?_
                  refine ex_isubN dX12_partOf_167 (by first | omega | exact bN_lt) ?_
                  refine m_ald hm dX12_partOf_168 (by decide) (by decide) rfl (by show _ < 3; first | omega | exact bN_lt) ?_
                  refine ex_i2l dX12_partOf_169 ?_
                  refine ex_lret rfl dX12_partOf_170 ?_
                  first | exact ⟨by rw [pv_f1 (bN_0.mp q90)]; rfl, hm, hs⟩ | exact ⟨by rw [pv_f2 (bN_n.mp q97)]; rfl, hm, hs⟩ | exact ⟨by rw [pv_t (bN_n.mp q90) (bN_0.mp q97)] <;> rfl, hm, hs⟩
                · skip
                  exact absurd (bN_n.mp q147) (fun z => by rcases z with z | z | z <;> exact absurd ((nI_eq (by omega) (by omega)).mp z) (by omega))
              · skip
                exact absurd hi (bN_0.mp q129)
            · skip
              exact absurd q105 (by omega)
          · skip
            refine ex_lconst dX12_partOf_100 ?_
            refine ex_lret rfl dX12_partOf_101 ?_
            first | exact ⟨by rw [pv_f1 (bN_0.mp q90)]; rfl, hm, hs⟩ | exact ⟨by rw [pv_f2 (bN_n.mp q97)]; rfl, hm, hs⟩ | exact ⟨by rw [pv_t (bN_n.mp q90) (bN_0.mp q97)] <;> rfl, hm, hs⟩
      · skip
        exact absurd (bN_n.mp q62) (fun z => by rcases z with z | z | z <;> exact absurd ((nI_eq (by omega) (by omega)).mp z) (by omega))
  · skip
    exact absurd q9 (by decide)
