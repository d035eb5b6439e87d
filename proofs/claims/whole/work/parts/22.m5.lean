/-! THE REFERENCE: feed, end, terms, force, sights, count, what is kept to be undone -/
def fb (v : Int32) (i : Nat) : Int32 := vp_nar .byte ((v >>> ((nI (24 - 8 * i)) &&& 31)).toInt8.toInt32)
def f5 (f : Nat → Int32) (a b c d e : Int32) : Nat → Int32 := upd (upd (upd (upd (upd f 0 a) 1 b) 2 c) 3 d) 4 e
set_option maxHeartbeats 4000000 in
set_option maxRecDepth 100000 in
theorem l_feed {b : Nat} {h0 : am_H} {σ : am_S} {t : Nat} (h12 : σ.1 12 = nI t) (ht : t ≤ 380) {x1 x2 x3 x4 x5 : Int32} {Q : Option Value → am_H → Prop} (hQ : ∀ h2, Mo b h2 (upd σ.1 12 (nI (t + 20)), rs (rs σ.2.1 7 (f5 (σ.2.1 7) x1 x2 x3 x4 x5)) 6 (fill (σ.2.1 6) t 20 (fun k => fb ((f5 (σ.2.1 7) x1 x2 x3 x4 x5) (k / 4)) (k % 4))), σ.2.2) → Same b h0 h2 → Q (some (.int (nI (t + 20)))) h2) : ∀ (n k : Nat) (h : am_H), k + n = 20 → Mo b h (σ.1, rs (rs σ.2.1 7 (f5 (σ.2.1 7) x1 x2 x3 x4 x5)) 6 (fill (σ.2.1 6) t k (fun k => fb ((f5 (σ.2.1 7) x1 x2 x3 x4 x5) (k / 4)) (k % 4))), σ.2.2) → Same b h0 h → Ex 0 0 0 mX12_feed 55 [.ref b, .int x1, .int x2, .int x3, .int x4, .int x5, .int (nI k)] [] h Q := by
  intro n
  induction n with
  | zero =>
    intro k h hk hm hs
    refine ex_iload dX12_feed_55 rfl ?_
    refine ex_bipushN (nI 20) dX12_feed_57 (by decide) ?_
    refine ex_icmp_geN 101 dX12_feed_59 (by decide) (by omega) (by omega) (fun q59 => ?_) (fun q59 => ?_)
    · skip
      obtain rfl : k = 20 := by omega
      refine ex_aload_n dX12_feed_101 rfl rfl ?_
      refine ex_dup dX12_feed_102 rfl ?_
      refine ex_getf fX12_115 dX12_feed_103 hm.1 (congrArg (fun z => some (Value.int z)) h12) ?_
      refine ex_bipushN (nI 20) dX12_feed_106 (by decide) ?_
      refine ex_iaddN dX12_feed_108 ?_
      refine m_put hm hs pX12_115 dX12_feed_109 (by decide) (ms12 _ _ _) (fun h1 hm hs => ?_)
      refine ex_aload_n dX12_feed_112 rfl rfl ?_
      refine ex_getf fX12_115 dX12_feed_113 hm.1 rfl ?_
      refine ex_iret rfl dX12_feed_116 ?_
      exact hQ _ hm hs
    · skip
      exact absurd q59 (by omega)
  | succ n ih =>
    intro k h hk hm hs
    refine ex_iload dX12_feed_55 rfl ?_
    refine ex_bipushN (nI 20) dX12_feed_57 (by decide) ?_
    refine ex_icmp_geN 101 dX12_feed_59 (by decide) (by omega) (by omega) (fun q59 => ?_) (fun q59 => ?_)
    · skip
      obtain rfl : k = 20 := by omega
      refine ex_aload_n dX12_feed_101 rfl rfl ?_
      refine ex_dup dX12_feed_102 rfl ?_
      refine ex_getf fX12_115 dX12_feed_103 hm.1 (congrArg (fun z => some (Value.int z)) h12) ?_
      refine ex_bipushN (nI 20) dX12_feed_106 (by decide) ?_
      refine ex_iaddN dX12_feed_108 ?_
      refine m_put hm hs pX12_115 dX12_feed_109 (by decide) (ms12 _ _ _) (fun h1 hm hs => ?_)
      refine ex_aload_n dX12_feed_112 rfl rfl ?_
      refine ex_getf fX12_115 dX12_feed_113 hm.1 rfl ?_
      refine ex_iret rfl dX12_feed_116 ?_
      exact hQ _ hm hs
    · skip
      refine ex_aload_n dX12_feed_62 rfl rfl ?_
      refine ex_getf fX12_41 dX12_feed_63 hm.1 rfl ?_
      refine ex_aload_n dX12_feed_66 rfl rfl ?_
      refine ex_getf fX12_115 dX12_feed_67 hm.1 (congrArg (fun z => some (Value.int z)) h12) ?_
      refine ex_iload dX12_feed_70 rfl ?_
      refine ex_iaddN dX12_feed_72 ?_
      refine ex_aload_n dX12_feed_73 rfl rfl ?_
      refine ex_getf fX12_44 dX12_feed_74 hm.1 rfl ?_
      refine ex_iload dX12_feed_77 rfl ?_
      refine ex_iconstN (nI 4) dX12_feed_79 (by decide) ?_
      refine ex_idivN dX12_feed_80 (by omega) (by omega) (by omega) ?_
      refine m_ald hm dX12_feed_81 (by decide) (by decide) rfl (by show _ < 5; omega) ?_
      refine ex_bipushN (nI 24) dX12_feed_82 (by decide) ?_
      refine ex_bipushN (nI 8) dX12_feed_84 (by decide) ?_
      refine ex_iload dX12_feed_86 rfl ?_
      refine ex_iconstN (nI 4) dX12_feed_88 (by decide) ?_
      refine ex_iremN dX12_feed_89 (by omega) (by omega) (by omega) ?_
      refine ex_imulN dX12_feed_90 ?_
      refine ex_isubN dX12_feed_91 (by omega) ?_
      refine ex_ishr dX12_feed_92 ?_
      refine ex_i2b dX12_feed_93 ?_
      refine m_bst hm hs dX12_feed_94 (by decide) (by decide) rfl (by show _ < 400; omega) (fun h1 hm hs => ?_)
      refine ex_iincN 1 dX12_feed_95 (by decide) rfl (by decide) ?_
      refine ex_goto 55 dX12_feed_98 (by decide) ?_
      exact ih (k + 1) _ (by omega) (by rw [← fill_s, ← u2_rs]; exact hm) hs
set_option maxHeartbeats 4000000 in
set_option maxRecDepth 100000 in
theorem e_feed {b : Nat} {h : am_H} {σ : am_S} {t : Nat} (h12 : σ.1 12 = nI t) (ht : t ≤ 380) (x1 x2 x3 x4 x5 : Int32) (hm : Mo b h σ) : Ex 0 0 0 mX12_feed 0 (am_en [.ref b, .int x1, .int x2, .int x3, .int x4, .int x5] 7) [] h (fun r h2 => r = some (.int (nI (t + 20))) ∧ Mo b h2 (upd σ.1 12 (nI (t + 20)), rs (rs σ.2.1 7 (f5 (σ.2.1 7) x1 x2 x3 x4 x5)) 6 (fill (σ.2.1 6) t 20 (fun k => fb ((f5 (σ.2.1 7) x1 x2 x3 x4 x5) (k / 4)) (k % 4))), σ.2.2) ∧ Same b h h2) := by
  have hs : Same b h h := Same.rf
  refine ex_aload_n dX12_feed_0 rfl rfl ?_
  refine ex_getf fX12_115 dX12_feed_1 hm.1 (congrArg (fun z => some (Value.int z)) h12) ?_
  refine ex_bipushN (nI 20) dX12_feed_4 (by decide) ?_
  refine ex_iaddN dX12_feed_6 ?_
  refine ex_sipushN (nI 400) dX12_feed_7 (by decide) ?_
  refine ex_icmp_leN 15 dX12_feed_10 (by decide) (by omega) (by omega) (fun q10 => ?_) (fun q10 => ?_)
  · skip
    refine ex_aload_n dX12_feed_15 rfl rfl ?_
    refine ex_getf fX12_44 dX12_feed_16 hm.1 rfl ?_
    refine ex_iconstN (nI 0) dX12_feed_19 (by decide) ?_
    refine ex_iload_n dX12_feed_20 rfl ?_
    refine m_ast hm hs dX12_feed_21 (by decide) (by decide) rfl (by show _ < 5; omega) (fun h1 hm hs => ?_)
    refine ex_aload_n dX12_feed_22 rfl rfl ?_
    refine ex_getf fX12_44 dX12_feed_23 hm.1 rfl ?_
    refine ex_iconstN (nI 1) dX12_feed_26 (by decide) ?_
    refine ex_iload_n dX12_feed_27 rfl ?_
    refine m_ast hm hs dX12_feed_28 (by decide) (by decide) rfl (by show _ < 5; omega) (fun h1 hm hs => ?_)
    refine ex_aload_n dX12_feed_29 rfl rfl ?_
    refine ex_getf fX12_44 dX12_feed_30 hm.1 rfl ?_
    refine ex_iconstN (nI 2) dX12_feed_33 (by decide) ?_
    refine ex_iload_n dX12_feed_34 rfl ?_
    refine m_ast hm hs dX12_feed_35 (by decide) (by decide) rfl (by show _ < 5; omega) (fun h1 hm hs => ?_)
    refine ex_aload_n dX12_feed_36 rfl rfl ?_
    refine ex_getf fX12_44 dX12_feed_37 hm.1 rfl ?_
    refine ex_iconstN (nI 3) dX12_feed_40 (by decide) ?_
    refine ex_iload dX12_feed_41 rfl ?_
    refine m_ast hm hs dX12_feed_43 (by decide) (by decide) rfl (by show _ < 5; omega) (fun h1 hm hs => ?_)
    refine ex_aload_n dX12_feed_44 rfl rfl ?_
    refine ex_getf fX12_44 dX12_feed_45 hm.1 rfl ?_
    refine ex_iconstN (nI 4) dX12_feed_48 (by decide) ?_
    refine ex_iload dX12_feed_49 rfl ?_
    refine m_ast hm hs dX12_feed_51 (by decide) (by decide) rfl (by show _ < 5; omega) (fun h1 hm hs => ?_)
    refine ex_iconstN (nI 0) dX12_feed_52 (by decide) ?_
    refine ex_istore dX12_feed_53 (by decide) ?_
    exact l_feed (σ := σ) h12 ht (fun h2 hm hs => ⟨rfl, hm, hs⟩) 20 0 _ (by omega) (by rw [fill_0, show rs (rs σ.2.1 7 _) 6 (σ.2.1 6) = rs σ.2.1 7 _ from rs_self (rs σ.2.1 7 _) 6]; exact (show Mo b _ (σ.1, u2 (u2 (u2 (u2 (u2 σ.2.1 7 0 x1) 7 1 x2) 7 2 x3) 7 3 x4) 7 4 x5, σ.2.2) → Mo b _ (σ.1, rs σ.2.1 7 _, σ.2.2) from fun q => by rw [u2_eq σ.2.1, u2_rs, u2_rs, u2_rs, u2_rs] at q; exact q) hm) hs
  · skip
    exact absurd q10 (by omega)
set_option maxHeartbeats 4000000 in
set_option maxRecDepth 100000 in
theorem e_feed_no {b : Nat} {h : am_H} {σ : am_S} {t : Nat} (h12 : σ.1 12 = nI t) (ht : 380 < t) (ht2 : t ≤ 400) (x1 x2 x3 x4 x5 : Int32) (hm : Mo b h σ) : Ex 0 0 0 mX12_feed 0 (am_en [.ref b, .int x1, .int x2, .int x3, .int x4, .int x5] 7) [] h (fun r h2 => r = some (.int (-1)) ∧ h2 = h) := by
  have hs : Same b h h := Same.rf
  refine ex_aload_n dX12_feed_0 rfl rfl ?_
  refine ex_getf fX12_115 dX12_feed_1 hm.1 (congrArg (fun z => some (Value.int z)) h12) ?_
  refine ex_bipushN (nI 20) dX12_feed_4 (by decide) ?_
  refine ex_iaddN dX12_feed_6 ?_
  refine ex_sipushN (nI 400) dX12_feed_7 (by decide) ?_
  refine ex_icmp_leN 15 dX12_feed_10 (by decide) (by omega) (by omega) (fun q10 => ?_) (fun q10 => ?_)
  · skip
    exact absurd q10 (by omega)
  · skip
    refine ex_iconstN (-1) dX12_feed_13 (by decide) ?_
    refine ex_iret rfl dX12_feed_14 ?_
    exact ⟨rfl, rfl⟩
set_option maxHeartbeats 4000000 in
set_option maxRecDepth 100000 in
theorem e_end {b : Nat} {h : am_H} {σ : am_S} {t j : Nat} (h12 : σ.1 12 = nI t) (ht : t ≤ 400) (hj : j ≤ t) (hm : Mo b h σ) : Ex 1 0 0 mX12_end 0 (am_en [.ref b, .int (nI j)] 2) [] h (fun r h2 => r = some (.int (nI j)) ∧ Mo b h2 (upd σ.1 12 (nI j), σ.2) ∧ Same b h h2) := by
  have hs : Same b h h := Same.rf
  refine ex_iload_n dX12_end_0 rfl ?_
  refine ex_iconstN (nI 0) dX12_end_1 (by decide) ?_
  refine ex_aload_n dX12_end_2 rfl rfl ?_
  refine ex_getf fX12_115 dX12_end_3 hm.1 (congrArg (fun z => some (Value.int z)) h12) ?_
  refine ex_callS0 (dc := 0) (as := [.int _, .int _, .int _]) dX12_end_6 MX12_lies kX12_102 tX12_lies rfl rfl (Nat.le_of_ble_eq_true rfl) (Nat.le_of_ble_eq_true rfl) (by decide) (e_lies _ _ _ _) (fun r h2 q => ?_)
  obtain ⟨rfl, rfl⟩ := q
  show Ex _ 0 0 _ _ _ (Value.int _ :: _) _ _
  rw [bN_t (lies_t (by omega) (by omega) (by omega))]
  refine ex_if_neN 14 dX12_end_9 (by decide) (by omega) (fun q9 => ?_) (fun q9 => ?_)
  · skip
    refine ex_aload_n dX12_end_14 rfl rfl ?_
    refine ex_iload_n dX12_end_15 rfl ?_
    refine m_put hm hs pX12_115 dX12_end_16 (by decide) (ms12 _ _ _) (fun h1 hm hs => ?_)
    refine ex_iload_n dX12_end_19 rfl ?_
    refine ex_iret rfl dX12_end_20 ?_
    exact ⟨rfl, hm, hs⟩
  · skip
    exact absurd q9 (by decide)
set_option maxHeartbeats 4000000 in
set_option maxRecDepth 100000 in
theorem e_end_no {b : Nat} {h : am_H} {σ : am_S} {t : Nat} {x : Int32} (h12 : σ.1 12 = nI t) (ht : t ≤ 400) (hx : ¬ inN x (t + 1)) (hm : Mo b h σ) : Ex 1 0 0 mX12_end 0 (am_en [.ref b, .int x] 2) [] h (fun r h2 => r = some (.int (-1)) ∧ h2 = h) := by
  have hs : Same b h h := Same.rf
  refine ex_iload_n dX12_end_0 rfl ?_
  refine ex_iconstN (nI 0) dX12_end_1 (by decide) ?_
  refine ex_aload_n dX12_end_2 rfl rfl ?_
  refine ex_getf fX12_115 dX12_end_3 hm.1 (congrArg (fun z => some (Value.int z)) h12) ?_
  refine ex_callS0 (dc := 0) (as := [.int _, .int _, .int _]) dX12_end_6 MX12_lies kX12_102 tX12_lies rfl rfl (Nat.le_of_ble_eq_true rfl) (Nat.le_of_ble_eq_true rfl) (by decide) (e_lies _ _ _ _) (fun r h2 q => ?_)
  obtain ⟨rfl, rfl⟩ := q
  show Ex _ 0 0 _ _ _ (Value.int _ :: _) _ _
  rw [bN_f (lies_f hx rfl (by omega) rfl)]
  refine ex_if_neN 14 dX12_end_9 (by decide) (by omega) (fun q9 => ?_) (fun q9 => ?_)
  · skip
    exact absurd rfl q9
  · skip
    refine ex_iconstN (-1) dX12_end_12 (by decide) ?_
    refine ex_iret rfl dX12_end_13 ?_
    exact ⟨rfl, rfl⟩
set_option maxHeartbeats 4000000 in
set_option maxRecDepth 100000 in
theorem e_terms {b : Nat} {h : am_H} {σ : am_S} {w v : Nat} (hw : w = 0 ∧ v ≤ 9 ∨ w = 1 ∧ 1 ≤ v ∧ v ≤ 300) (hm : Mo b h σ) : Ex 2 0 0 mX12_terms 0 (am_en [.ref b, .int (nI w), .int (nI v)] 4) [] h (fun r h2 => r = some (.int (σ.2.1 1 (113 + w))) ∧ Mo b h2 (upd (upd σ.1 39 (nI 0)) 0 (nI 0), rs σ.2.1 1 (upd (σ.2.1 1) (113 + w) (nI v)), σ.2.2) ∧ Same b h h2) := by
  have hs : Same b h h := Same.rf
  refine ex_iload_n dX12_terms_0 rfl ?_
  refine ex_iconstN (nI 0) dX12_terms_1 (by decide) ?_
  refine ex_iconstN (nI 1) dX12_terms_2 (by decide) ?_
  refine ex_callS0 (dc := 0) (as := [.int _, .int _, .int _]) dX12_terms_3 MX12_lies kX12_102 tX12_lies rfl rfl (Nat.le_of_ble_eq_true rfl) (Nat.le_of_ble_eq_true rfl) (by decide) (e_lies _ _ _ _) (fun r h2 q => ?_)
  obtain ⟨rfl, rfl⟩ := q
  show Ex _ 0 0 _ _ _ (Value.int _ :: _) _ _
  rw [bN_t (lies_t (by omega) (by omega) (by omega))]
  refine ex_if_eqN 29 dX12_terms_6 (by decide) (by omega) (fun q6 => ?_) (fun q6 => ?_)
  · skip
    exact absurd q6 (by decide)
  · skip
    refine ex_iload_n dX12_terms_9 rfl ?_
    refine ex_iload_n dX12_terms_10 rfl ?_
    refine ex_iload_n dX12_terms_11 rfl ?_
    refine ex_if_neN 20 dX12_terms_12 (by decide) (by omega) (fun q12 => ?_) (fun q12 => ?_)
    · skip
      refine ex_sipushN (nI 300) dX12_terms_20 (by decide) ?_
      refine ex_callS0 (dc := 0) (as := [.int _, .int _, .int _]) dX12_terms_23 MX12_lies kX12_102 tX12_lies rfl rfl (Nat.le_of_ble_eq_true rfl) (Nat.le_of_ble_eq_true rfl) (by decide) (e_lies _ _ _ _) (fun r h2 q => ?_)
      obtain ⟨rfl, rfl⟩ := q
      show Ex _ 0 0 _ _ _ (Value.int _ :: _) _ _
      rw [bN_t (lies_t (by omega) (by omega) (by omega))]
      refine ex_if_neN 35 dX12_terms_26 (by decide) (by omega) (fun q26 => ?_) (fun q26 => ?_)
      · skip
        refine ex_aload_n dX12_terms_35 rfl rfl ?_
        refine ex_getf fX12_24 dX12_terms_36 hm.1 rfl ?_
        refine ex_bipushN (nI 113) dX12_terms_39 (by decide) ?_
        refine ex_iload_n dX12_terms_41 rfl ?_
        refine ex_iaddN dX12_terms_42 ?_
        refine m_ald hm dX12_terms_43 (by decide) (by decide) rfl (by show _ < 5725; omega) ?_
        refine ex_istore_n dX12_terms_44 (by decide) ?_
        refine ex_aload_n dX12_terms_45 rfl rfl ?_
        refine ex_getf fX12_24 dX12_terms_46 hm.1 rfl ?_
        refine ex_bipushN (nI 113) dX12_terms_49 (by decide) ?_
        refine ex_iload_n dX12_terms_51 rfl ?_
        refine ex_iaddN dX12_terms_52 ?_
        refine ex_iload_n dX12_terms_53 rfl ?_
        refine m_ast hm hs dX12_terms_54 (by decide) (by decide) rfl (by show _ < 5725; omega) (fun h1 hm hs => ?_)
        refine ex_aload_n dX12_terms_55 rfl rfl ?_
        refine ex_iload_n dX12_terms_56 rfl ?_
        refine ex_callV0 (dc := 1) (as := [.int _]) dX12_terms_57 MX12_settled kX12_109 iX12_settled sX12_settled rfl rfl hm.1 rfl rfl (Nat.le_of_ble_eq_true rfl) (Nat.le_of_ble_eq_true rfl) (by decide) (e_settled _ hm) (fun r h2 q => ?_)
        obtain ⟨rfl, hm, hs2⟩ := q
        have hs := hs.tr hs2
        show Ex _ 0 0 _ _ _ (Value.int _ :: _) _ _
        refine ex_iret rfl dX12_terms_60 ?_
        exact ⟨rfl, hm, hs⟩
      · skip
        exact absurd q26 (by decide)
    · skip
      refine ex_bipushN (nI 9) dX12_terms_15 (by decide) ?_
      refine ex_goto 23 dX12_terms_17 (by decide) ?_
      refine ex_callS0 (dc := 0) (as := [.int _, .int _, .int _]) dX12_terms_23 MX12_lies kX12_102 tX12_lies rfl rfl (Nat.le_of_ble_eq_true rfl) (Nat.le_of_ble_eq_true rfl) (by decide) (e_lies _ _ _ _) (fun r h2 q => ?_)
      obtain ⟨rfl, rfl⟩ := q
      show Ex _ 0 0 _ _ _ (Value.int _ :: _) _ _
      rw [bN_t (lies_t (by omega) (by omega) (by omega))]
      refine ex_if_neN 35 dX12_terms_26 (by decide) (by omega) (fun q26 => ?_) (fun q26 => ?_)
      · skip
        refine ex_aload_n dX12_terms_35 rfl rfl ?_
        refine ex_getf fX12_24 dX12_terms_36 hm.1 rfl ?_
        refine ex_bipushN (nI 113) dX12_terms_39 (by decide) ?_
        refine ex_iload_n dX12_terms_41 rfl ?_
        refine ex_iaddN dX12_terms_42 ?_
        refine m_ald hm dX12_terms_43 (by decide) (by decide) rfl (by show _ < 5725; omega) ?_
        refine ex_istore_n dX12_terms_44 (by decide) ?_
        refine ex_aload_n dX12_terms_45 rfl rfl ?_
        refine ex_getf fX12_24 dX12_terms_46 hm.1 rfl ?_
        refine ex_bipushN (nI 113) dX12_terms_49 (by decide) ?_
        refine ex_iload_n dX12_terms_51 rfl ?_
        refine ex_iaddN dX12_terms_52 ?_
        refine ex_iload_n dX12_terms_53 rfl ?_
        refine m_ast hm hs dX12_terms_54 (by decide) (by decide) rfl (by show _ < 5725; omega) (fun h1 hm hs => ?_)
        refine ex_aload_n dX12_terms_55 rfl rfl ?_
        refine ex_iload_n dX12_terms_56 rfl ?_
        refine ex_callV0 (dc := 1) (as := [.int _]) dX12_terms_57 MX12_settled kX12_109 iX12_settled sX12_settled rfl rfl hm.1 rfl rfl (Nat.le_of_ble_eq_true rfl) (Nat.le_of_ble_eq_true rfl) (by decide) (e_settled _ hm) (fun r h2 q => ?_)
        obtain ⟨rfl, hm, hs2⟩ := q
        have hs := hs.tr hs2
        show Ex _ 0 0 _ _ _ (Value.int _ :: _) _ _
        refine ex_iret rfl dX12_terms_60 ?_
        exact ⟨rfl, hm, hs⟩
      · skip
        exact absurd q26 (by decide)
set_option maxHeartbeats 4000000 in
set_option maxRecDepth 100000 in
theorem e_terms_no {b : Nat} {h : am_H} {σ : am_S} {x y : Int32} (hx : ∀ w v : Nat, x = nI w → y = nI v → ¬ (w = 0 ∧ v ≤ 9 ∨ w = 1 ∧ 1 ≤ v ∧ v ≤ 300)) (hm : Mo b h σ) : Ex 1 0 0 mX12_terms 0 (am_en [.ref b, .int x, .int y] 4) [] h (fun r h2 => r = some (.int (-1)) ∧ Mo b h2 (rfz σ (-1) 1) ∧ Same b h h2) := by
  have hs : Same b h h := Same.rf
  refine ex_iload_n dX12_terms_0 rfl ?_
  refine ex_iconstN (nI 0) dX12_terms_1 (by decide) ?_
  refine ex_iconstN (nI 1) dX12_terms_2 (by decide) ?_
  refine ex_callS0 (dc := 0) (as := [.int _, .int _, .int _]) dX12_terms_3 MX12_lies kX12_102 tX12_lies rfl rfl (Nat.le_of_ble_eq_true rfl) (Nat.le_of_ble_eq_true rfl) (by decide) (e_lies _ _ _ _) (fun r h2 q => ?_)
  obtain ⟨rfl, rfl⟩ := q
  show Ex _ 0 0 _ _ _ (Value.int _ :: _) _ _
  refine ex_if_eqN 29 dX12_terms_6 (by decide) (by first | omega | exact bN_lt) (fun q6 => ?_) (fun q6 => ?_)
  · skip
    refine ex_aload_n dX12_terms_29 rfl rfl ?_
    refine ex_iconstN (-1) dX12_terms_30 (by decide) ?_
    refine ex_callV0 (dc := 0) (as := [.int _]) dX12_terms_31 MX12_refuses kX12_106 iX12_refuses sX12_refuses rfl rfl hm.1 rfl rfl (Nat.le_of_ble_eq_true rfl) (Nat.le_of_ble_eq_true rfl) (by decide) (e_refuses (c := 1) (by decide) (by decide) hm) (fun r h2 q => ?_)
    obtain ⟨rfl, hm, hs2⟩ := q
    have hs := hs.tr hs2
    show Ex _ 0 0 _ _ _ (Value.int _ :: _) _ _
    refine ex_iret rfl dX12_terms_34 ?_
    exact ⟨rfl, hm, hs⟩
  · skip
    obtain ⟨w, -, hw, rfl⟩ := lies_of (bN_n.mp q6) (by decide) (by decide)
    refine ex_iload_n dX12_terms_9 rfl ?_
    refine ex_iload_n dX12_terms_10 rfl ?_
    refine ex_iload_n dX12_terms_11 rfl ?_
    refine ex_if_neN 20 dX12_terms_12 (by decide) (by first | omega | exact bN_lt) (fun q12 => ?_) (fun q12 => ?_)
    · skip
      refine ex_sipushN (nI 300) dX12_terms_20 (by decide) ?_
      refine ex_callS0 (dc := 0) (as := [.int _, .int _, .int _]) dX12_terms_23 MX12_lies kX12_102 tX12_lies rfl rfl (Nat.le_of_ble_eq_true rfl) (Nat.le_of_ble_eq_true rfl) (by decide) (e_lies _ _ _ _) (fun r h2 q => ?_)
      obtain ⟨rfl, rfl⟩ := q
      show Ex _ 0 0 _ _ _ (Value.int _ :: _) _ _
      refine ex_if_neN 35 dX12_terms_26 (by decide) (by first | omega | exact bN_lt) (fun q26 => ?_) (fun q26 => ?_)
      · skip
        obtain ⟨v, hv1, hv2, rfl⟩ := lies_of (bN_n.mp q26) (by omega) (by omega)
        exact absurd (show w = 0 ∧ v ≤ 9 ∨ w = 1 ∧ 1 ≤ v ∧ v ≤ 300 by omega) (hx w v rfl rfl)
      · skip
        refine ex_aload_n dX12_terms_29 rfl rfl ?_
        refine ex_iconstN (-1) dX12_terms_30 (by decide) ?_
        refine ex_callV0 (dc := 0) (as := [.int _]) dX12_terms_31 MX12_refuses kX12_106 iX12_refuses sX12_refuses rfl rfl hm.1 rfl rfl (Nat.le_of_ble_eq_true rfl) (Nat.le_of_ble_eq_true rfl) (by decide) (e_refuses (c := 1) (by decide) (by decide) hm) (fun r h2 q => ?_)
        obtain ⟨rfl, hm, hs2⟩ := q
        have hs := hs.tr hs2
        show Ex _ 0 0 _ _ _ (Value.int _ :: _) _ _
        refine ex_iret rfl dX12_terms_34 ?_
        exact ⟨rfl, hm, hs⟩
    · skip
      refine ex_bipushN (nI 9) dX12_terms_15 (by decide) ?_
      refine ex_goto 23 dX12_terms_17 (by decide) ?_
      refine ex_callS0 (dc := 0) (as := [.int _, .int _, .int _]) dX12_terms_23 MX12_lies kX12_102 tX12_lies rfl rfl (Nat.le_of_ble_eq_true rfl) (Nat.le_of_ble_eq_true rfl) (by decide) (e_lies _ _ _ _) (fun r h2 q => ?_)
      obtain ⟨rfl, rfl⟩ := q
      show Ex _ 0 0 _ _ _ (Value.int _ :: _) _ _
      refine ex_if_neN 35 dX12_terms_26 (by decide) (by first | omega | exact bN_lt) (fun q26 => ?_) (fun q26 => ?_)
      · skip
        obtain ⟨v, hv1, hv2, rfl⟩ := lies_of (bN_n.mp q26) (by omega) (by omega)
        exact absurd (show w = 0 ∧ v ≤ 9 ∨ w = 1 ∧ 1 ≤ v ∧ v ≤ 300 by omega) (hx w v rfl rfl)
      · skip
        refine ex_aload_n dX12_terms_29 rfl rfl ?_
        refine ex_iconstN (-1) dX12_terms_30 (by decide) ?_
        refine ex_callV0 (dc := 0) (as := [.int _]) dX12_terms_31 MX12_refuses kX12_106 iX12_refuses sX12_refuses rfl rfl hm.1 rfl rfl (Nat.le_of_ble_eq_true rfl) (Nat.le_of_ble_eq_true rfl) (by decide) (e_refuses (c := 1) (by decide) (by decide) hm) (fun r h2 q => ?_)
        obtain ⟨rfl, hm, hs2⟩ := q
        have hs := hs.tr hs2
        show Ex _ 0 0 _ _ _ (Value.int _ :: _) _ _
        refine ex_iret rfl dX12_terms_34 ?_
        exact ⟨rfl, hm, hs⟩
set_option maxHeartbeats 4000000 in
set_option maxRecDepth 100000 in
theorem e_forget {b : Nat} {h : am_H} {σ : am_S} (hm : Mo b h σ) : Ex 0 0 0 mX12_forget 0 (am_en [.ref b] 2) [] h (fun r h2 => r = some (.int (σ.2.1 1 115)) ∧ Mo b h2 (σ.1, rs σ.2.1 1 (upd (σ.2.1 1) 115 (nI 0)), σ.2.2) ∧ Same b h h2) := by
  have hs : Same b h h := Same.rf
  refine ex_aload_n dX12_forget_0 rfl rfl ?_
  refine ex_getf fX12_24 dX12_forget_1 hm.1 rfl ?_
  refine ex_bipushN (nI 115) dX12_forget_4 (by decide) ?_
  refine m_ald hm dX12_forget_6 (by decide) (by decide) rfl (by show _ < 5725; omega) ?_
  refine ex_istore_n dX12_forget_7 (by decide) ?_
  refine ex_aload_n dX12_forget_8 rfl rfl ?_
  refine ex_getf fX12_24 dX12_forget_9 hm.1 rfl ?_
  refine ex_bipushN (nI 115) dX12_forget_12 (by decide) ?_
  refine ex_iconstN (nI 0) dX12_forget_14 (by decide) ?_
  refine m_ast hm hs dX12_forget_15 (by decide) (by decide) rfl (by show _ < 5725; omega) (fun h1 hm hs => ?_)
  refine ex_iload_n dX12_forget_16 rfl ?_
  refine ex_iret rfl dX12_forget_17 ?_
  exact ⟨rfl, hm, hs⟩
theorem liesm_t {x : Int32} {n : Nat} (hn : n ≤ 6) : (-1 ≤ x ∧ x ≤ nI n - nI 1) ↔ (-1 ≤ x.toInt ∧ x.toInt < n) := by
  have h1 : (nI n - nI 1).toInt = (n : Int) - 1 := pk_sub_toInt (by omega) (by omega)
  rw [Int32.le_iff_toInt_le, Int32.le_iff_toInt_le, h1, show (-1 : Int32).toInt = -1 from rfl]
  omega
set_option maxHeartbeats 4000000 in
set_option maxRecDepth 100000 in
theorem e_force {b : Nat} {h : am_H} {σ : am_S} {n : Nat} {x : Int32} (hn : σ.2.1 1 116 = nI n) (hn6 : n ≤ 6) (hx : -1 ≤ x.toInt ∧ x.toInt < n) (hm : Mo b h σ) : Ex 1 0 0 mX12_force 0 (am_en [.ref b, .int x] 3) [] h (fun r h2 => r = some (.int (σ.2.1 1 117)) ∧ Mo b h2 (upd σ.1 0 (nI 0), rs σ.2.1 1 (upd (σ.2.1 1) 117 x), σ.2.2) ∧ Same b h h2) := by
  have hs : Same b h h := Same.rf
  refine ex_iload_n dX12_force_0 rfl ?_
  refine ex_iconstN (-1) dX12_force_1 (by decide) ?_
  refine ex_aload_n dX12_force_2 rfl rfl ?_
  refine ex_getf fX12_24 dX12_force_3 hm.1 rfl ?_
  refine ex_bipushN (nI 116) dX12_force_6 (by decide) ?_
  refine m_aldv hm dX12_force_8 (by decide) (by decide) rfl (by show _ < 5725; omega) (hn) ?_
  refine ex_iconstN (nI 1) dX12_force_9 (by decide) ?_
  refine ex_isub dX12_force_10 ?_
  refine ex_callS0 (dc := 0) (as := [.int _, .int _, .int _]) dX12_force_11 MX12_lies kX12_102 tX12_lies rfl rfl (Nat.le_of_ble_eq_true rfl) (Nat.le_of_ble_eq_true rfl) (by decide) (e_lies _ _ _ _) (fun r h2 q => ?_)
  obtain ⟨rfl, rfl⟩ := q
  show Ex _ 0 0 _ _ _ (Value.int _ :: _) _ _
  rw [bN_t ((liesm_t hn6).mpr hx)]
  refine ex_if_neN 24 dX12_force_14 (by decide) (by omega) (fun q14 => ?_) (fun q14 => ?_)
  · skip
    refine ex_aload_n dX12_force_24 rfl rfl ?_
    refine ex_getf fX12_24 dX12_force_25 hm.1 rfl ?_
    refine ex_bipushN (nI 117) dX12_force_28 (by decide) ?_
    refine m_ald hm dX12_force_30 (by decide) (by decide) rfl (by show _ < 5725; omega) ?_
    refine ex_istore_n dX12_force_31 (by decide) ?_
    refine ex_aload_n dX12_force_32 rfl rfl ?_
    refine ex_getf fX12_24 dX12_force_33 hm.1 rfl ?_
    refine ex_bipushN (nI 117) dX12_force_36 (by decide) ?_
    refine ex_iload_n dX12_force_38 rfl ?_
    refine m_ast hm hs dX12_force_39 (by decide) (by decide) rfl (by show _ < 5725; omega) (fun h1 hm hs => ?_)
    refine ex_aload_n dX12_force_40 rfl rfl ?_
    refine ex_iload_n dX12_force_41 rfl ?_
    refine ex_callV0 (dc := 0) (as := [.int _]) dX12_force_42 MX12_good kX12_14 iX12_good sX12_good rfl rfl hm.1 rfl rfl (Nat.le_of_ble_eq_true rfl) (Nat.le_of_ble_eq_true rfl) (by decide) (e_good _ hm) (fun r h2 q => ?_)
    obtain ⟨rfl, hm, hs2⟩ := q
    have hs := hs.tr hs2
    show Ex _ 0 0 _ _ _ (Value.int _ :: _) _ _
    refine ex_iret rfl dX12_force_45 ?_
    exact ⟨rfl, hm, hs⟩
  · skip
    exact absurd q14 (by decide)
set_option maxHeartbeats 4000000 in
set_option maxRecDepth 100000 in
theorem e_force_no {b : Nat} {h : am_H} {σ : am_S} {n : Nat} {x : Int32} (hn : σ.2.1 1 116 = nI n) (hn6 : n ≤ 6) (hx : ¬ (-1 ≤ x.toInt ∧ x.toInt < n)) (hm : Mo b h σ) : Ex 1 0 0 mX12_force 0 (am_en [.ref b, .int x] 3) [] h (fun r h2 => r = some (.int (-2)) ∧ Mo b h2 (rfz σ (-2) 2) ∧ Same b h h2) := by
  have hs : Same b h h := Same.rf
  refine ex_iload_n dX12_force_0 rfl ?_
  refine ex_iconstN (-1) dX12_force_1 (by decide) ?_
  refine ex_aload_n dX12_force_2 rfl rfl ?_
  refine ex_getf fX12_24 dX12_force_3 hm.1 rfl ?_
  refine ex_bipushN (nI 116) dX12_force_6 (by decide) ?_
  refine m_aldv hm dX12_force_8 (by decide) (by decide) rfl (by show _ < 5725; omega) (hn) ?_
  refine ex_iconstN (nI 1) dX12_force_9 (by decide) ?_
  refine ex_isub dX12_force_10 ?_
  refine ex_callS0 (dc := 0) (as := [.int _, .int _, .int _]) dX12_force_11 MX12_lies kX12_102 tX12_lies rfl rfl (Nat.le_of_ble_eq_true rfl) (Nat.le_of_ble_eq_true rfl) (by decide) (e_lies _ _ _ _) (fun r h2 q => ?_)
  obtain ⟨rfl, rfl⟩ := q
  show Ex _ 0 0 _ _ _ (Value.int _ :: _) _ _
  rw [bN_f (fun z => hx ((liesm_t hn6).mp z))]
  refine ex_if_neN 24 dX12_force_14 (by decide) (by omega) (fun q14 => ?_) (fun q14 => ?_)
  · skip
    exact absurd rfl q14
  · skip
    refine ex_aload_n dX12_force_17 rfl rfl ?_
    refine ex_bipushN (-2) dX12_force_18 (by decide) ?_
    refine ex_callV0 (dc := 0) (as := [.int _]) dX12_force_20 MX12_refuses kX12_106 iX12_refuses sX12_refuses rfl rfl hm.1 rfl rfl (Nat.le_of_ble_eq_true rfl) (Nat.le_of_ble_eq_true rfl) (by decide) (e_refuses (c := 2) (by decide) (by decide) hm) (fun r h2 q => ?_)
    obtain ⟨rfl, hm, hs2⟩ := q
    have hs := hs.tr hs2
    show Ex _ 0 0 _ _ _ (Value.int _ :: _) _ _
    refine ex_iret rfl dX12_force_23 ?_
    exact ⟨rfl, hm, hs⟩
theorem sgt_rd {A : Nat → Nat → Int32} {n : Nat} {x y : Int32} (h : n < 8) (hn : A 1 115 = nI n) : u2 (u2 A 1 (97 + 2 * n) x) 1 (97 + 2 * n + 1) y 1 115 = nI n := by
  rw [u2_eq, rs_at, u2_eq, rs_at, pk_un (by omega), pk_un (by omega)]
  exact hn
set_option maxHeartbeats 4000000 in
set_option maxRecDepth 100000 in
theorem e_sight {b : Nat} {h : am_H} {σ : am_S} {n k c : Nat} (hn : σ.2.1 1 115 = nI n) (hn8 : n < 8) (hk : k ≤ 99) (hc : c ≤ 13) (hm : Mo b h σ) : Ex 1 0 0 mX12_sight 0 (am_en [.ref b, .int (nI k), .int (nI c)] 4) [] h (fun r h2 => r = some (.int (nI (n + 1))) ∧ Mo b h2 (upd σ.1 0 (nI 0), rs σ.2.1 1 (upd (upd (upd (σ.2.1 1) (97 + 2 * n) (nI k)) (97 + 2 * n + 1) (nI c)) 115 (nI (n + 1))), σ.2.2) ∧ Same b h h2) := by
  have hs : Same b h h := Same.rf
  refine ex_iload_n dX12_sight_0 rfl ?_
  refine ex_iconstN (nI 0) dX12_sight_1 (by decide) ?_
  refine ex_bipushN (nI 99) dX12_sight_2 (by decide) ?_
  refine ex_callS0 (dc := 0) (as := [.int _, .int _, .int _]) dX12_sight_4 MX12_lies kX12_102 tX12_lies rfl rfl (Nat.le_of_ble_eq_true rfl) (Nat.le_of_ble_eq_true rfl) (by decide) (e_lies _ _ _ _) (fun r h2 q => ?_)
  obtain ⟨rfl, rfl⟩ := q
  show Ex _ 0 0 _ _ _ (Value.int _ :: _) _ _
  rw [bN_t (lies_t (by omega) (by omega) (by omega))]
  refine ex_if_eqN 20 dX12_sight_7 (by decide) (by omega) (fun q7 => ?_) (fun q7 => ?_)
  · skip
    exact absurd q7 (by decide)
  · skip
    refine ex_iload_n dX12_sight_10 rfl ?_
    refine ex_iconstN (nI 0) dX12_sight_11 (by decide) ?_
    refine ex_bipushN (nI 13) dX12_sight_12 (by decide) ?_
    refine ex_callS0 (dc := 0) (as := [.int _, .int _, .int _]) dX12_sight_14 MX12_lies kX12_102 tX12_lies rfl rfl (Nat.le_of_ble_eq_true rfl) (Nat.le_of_ble_eq_true rfl) (by decide) (e_lies _ _ _ _) (fun r h2 q => ?_)
    obtain ⟨rfl, rfl⟩ := q
    show Ex _ 0 0 _ _ _ (Value.int _ :: _) _ _
    rw [bN_t (lies_t (by omega) (by omega) (by omega))]
    refine ex_if_neN 26 dX12_sight_17 (by decide) (by omega) (fun q17 => ?_) (fun q17 => ?_)
    · skip
      refine ex_aload_n dX12_sight_26 rfl rfl ?_
      refine ex_getf fX12_24 dX12_sight_27 hm.1 rfl ?_
      refine ex_bipushN (nI 115) dX12_sight_30 (by decide) ?_
      refine m_aldv hm dX12_sight_32 (by decide) (by decide) rfl (by show _ < 5725; omega) (hn) ?_
      refine ex_istore_n dX12_sight_33 (by decide) ?_
      refine ex_iload_n dX12_sight_34 rfl ?_
      refine ex_bipushN (nI 8) dX12_sight_35 (by decide) ?_
      refine ex_icmp_neN 47 dX12_sight_37 (by decide) (by omega) (by omega) (fun q37 => ?_) (fun q37 => ?_)
      · skip
        refine ex_aload_n dX12_sight_47 rfl rfl ?_
        refine ex_getf fX12_24 dX12_sight_48 hm.1 rfl ?_
        refine ex_bipushN (nI 97) dX12_sight_51 (by decide) ?_
        refine ex_iconstN (nI 2) dX12_sight_53 (by decide) ?_
        refine ex_iload_n dX12_sight_54 rfl ?_
        refine ex_imulN dX12_sight_55 ?_
        refine ex_iaddN dX12_sight_56 ?_
        refine ex_iload_n dX12_sight_57 rfl ?_
        refine m_ast hm hs dX12_sight_58 (by decide) (by decide) rfl (by show _ < 5725; omega) (fun h1 hm hs => ?_)
        refine ex_aload_n dX12_sight_59 rfl rfl ?_
        refine ex_getf fX12_24 dX12_sight_60 hm.1 rfl ?_
        refine ex_bipushN (nI 97) dX12_sight_63 (by decide) ?_
        refine ex_iconstN (nI 2) dX12_sight_65 (by decide) ?_
        refine ex_iload_n dX12_sight_66 rfl ?_
        refine ex_imulN dX12_sight_67 ?_
        refine ex_iaddN dX12_sight_68 ?_
        refine ex_iconstN (nI 1) dX12_sight_69 (by decide) ?_
        refine ex_iaddN dX12_sight_70 ?_
        refine ex_iload_n dX12_sight_71 rfl ?_
        refine m_ast hm hs dX12_sight_72 (by decide) (by decide) rfl (by show _ < 5725; omega) (fun h1 hm hs => ?_)
        refine ex_aload_n dX12_sight_73 rfl rfl ?_
        refine ex_getf fX12_24 dX12_sight_74 hm.1 rfl ?_
        refine ex_bipushN (nI 115) dX12_sight_77 (by decide) ?_
        refine ex_dup2 dX12_sight_79 rfl rfl ?_
        refine m_aldv hm dX12_sight_80 (by decide) (by decide) rfl (by show _ < 5725; omega) (sgt_rd hn8 hn) ?_
        refine ex_iconstN (nI 1) dX12_sight_81 (by decide) ?_
        refine ex_iaddN dX12_sight_82 ?_
        refine m_ast hm hs dX12_sight_83 (by decide) (by decide) rfl (by show _ < 5725; omega) (fun h1 hm hs => ?_)
        refine ex_aload_n dX12_sight_84 rfl rfl ?_
        refine ex_iload_n dX12_sight_85 rfl ?_
        refine ex_iconstN (nI 1) dX12_sight_86 (by decide) ?_
        refine ex_iaddN dX12_sight_87 ?_
        refine ex_callV0 (dc := 0) (as := [.int _]) dX12_sight_88 MX12_good kX12_14 iX12_good sX12_good rfl rfl hm.1 rfl rfl (Nat.le_of_ble_eq_true rfl) (Nat.le_of_ble_eq_true rfl) (by decide) (e_good _ hm) (fun r h2 q => ?_)
        obtain ⟨rfl, hm, hs2⟩ := q
        have hs := hs.tr hs2
        show Ex _ 0 0 _ _ _ (Value.int _ :: _) _ _
        refine ex_iret rfl dX12_sight_91 ?_
        exact ⟨rfl, by rw [← u2_rs, ← u2_rs, ← u2_eq]; exact hm, hs⟩
      · skip
        exact absurd q37 (by omega)
    · skip
      exact absurd q17 (by decide)
set_option maxHeartbeats 4000000 in
set_option maxRecDepth 100000 in
theorem e_sight_full {b : Nat} {h : am_H} {σ : am_S} {n k c : Nat} (hn : σ.2.1 1 115 = nI 8) (hk : k ≤ 99) (hc : c ≤ 13) (hm : Mo b h σ) : Ex 1 0 0 mX12_sight 0 (am_en [.ref b, .int (nI k), .int (nI c)] 4) [] h (fun r h2 => r = some (.int (-5)) ∧ Mo b h2 (rfz σ (-5) 5) ∧ Same b h h2) := by
  have hs : Same b h h := Same.rf
  refine ex_iload_n dX12_sight_0 rfl ?_
  refine ex_iconstN (nI 0) dX12_sight_1 (by decide) ?_
  refine ex_bipushN (nI 99) dX12_sight_2 (by decide) ?_
  refine ex_callS0 (dc := 0) (as := [.int _, .int _, .int _]) dX12_sight_4 MX12_lies kX12_102 tX12_lies rfl rfl (Nat.le_of_ble_eq_true rfl) (Nat.le_of_ble_eq_true rfl) (by decide) (e_lies _ _ _ _) (fun r h2 q => ?_)
  obtain ⟨rfl, rfl⟩ := q
  show Ex _ 0 0 _ _ _ (Value.int _ :: _) _ _
  rw [bN_t (lies_t (by omega) (by omega) (by omega))]
  refine ex_if_eqN 20 dX12_sight_7 (by decide) (by omega) (fun q7 => ?_) (fun q7 => ?_)
  · skip
    exact absurd q7 (by decide)
  · skip
    refine ex_iload_n dX12_sight_10 rfl ?_
    refine ex_iconstN (nI 0) dX12_sight_11 (by decide) ?_
    refine ex_bipushN (nI 13) dX12_sight_12 (by decide) ?_
    refine ex_callS0 (dc := 0) (as := [.int _, .int _, .int _]) dX12_sight_14 MX12_lies kX12_102 tX12_lies rfl rfl (Nat.le_of_ble_eq_true rfl) (Nat.le_of_ble_eq_true rfl) (by decide) (e_lies _ _ _ _) (fun r h2 q => ?_)
    obtain ⟨rfl, rfl⟩ := q
    show Ex _ 0 0 _ _ _ (Value.int _ :: _) _ _
    rw [bN_t (lies_t (by omega) (by omega) (by omega))]
    refine ex_if_neN 26 dX12_sight_17 (by decide) (by omega) (fun q17 => ?_) (fun q17 => ?_)
    · skip
      refine ex_aload_n dX12_sight_26 rfl rfl ?_
      refine ex_getf fX12_24 dX12_sight_27 hm.1 rfl ?_
      refine ex_bipushN (nI 115) dX12_sight_30 (by decide) ?_
      refine m_aldv hm dX12_sight_32 (by decide) (by decide) rfl (by show _ < 5725; omega) (hn) ?_
      refine ex_istore_n dX12_sight_33 (by decide) ?_
      refine ex_iload_n dX12_sight_34 rfl ?_
      refine ex_bipushN (nI 8) dX12_sight_35 (by decide) ?_
      refine ex_icmp_neN 47 dX12_sight_37 (by decide) (by omega) (by omega) (fun q37 => ?_) (fun q37 => ?_)
      · skip
        exact absurd rfl q37
      · skip
        refine ex_aload_n dX12_sight_40 rfl rfl ?_
        refine ex_bipushN (-5) dX12_sight_41 (by decide) ?_
        refine ex_callV0 (dc := 0) (as := [.int _]) dX12_sight_43 MX12_refuses kX12_106 iX12_refuses sX12_refuses rfl rfl hm.1 rfl rfl (Nat.le_of_ble_eq_true rfl) (Nat.le_of_ble_eq_true rfl) (by decide) (e_refuses (c := 5) (by decide) (by decide) hm) (fun r h2 q => ?_)
        obtain ⟨rfl, hm, hs2⟩ := q
        have hs := hs.tr hs2
        show Ex _ 0 0 _ _ _ (Value.int _ :: _) _ _
        refine ex_iret rfl dX12_sight_46 ?_
        exact ⟨rfl, hm, hs⟩
    · skip
      exact absurd q17 (by decide)
set_option maxHeartbeats 4000000 in
set_option maxRecDepth 100000 in
theorem e_sight_no {b : Nat} {h : am_H} {σ : am_S} {x y : Int32} (hx : ¬ (inN x 100 ∧ inN y 14)) (hm : Mo b h σ) : Ex 1 0 0 mX12_sight 0 (am_en [.ref b, .int x, .int y] 4) [] h (fun r h2 => r = some (.int (-1)) ∧ Mo b h2 (rfz σ (-1) 1) ∧ Same b h h2) := by
  have hs : Same b h h := Same.rf
  refine ex_iload_n dX12_sight_0 rfl ?_
  refine ex_iconstN (nI 0) dX12_sight_1 (by decide) ?_
  refine ex_bipushN (nI 99) dX12_sight_2 (by decide) ?_
  refine ex_callS0 (dc := 0) (as := [.int _, .int _, .int _]) dX12_sight_4 MX12_lies kX12_102 tX12_lies rfl rfl (Nat.le_of_ble_eq_true rfl) (Nat.le_of_ble_eq_true rfl) (by decide) (e_lies _ _ _ _) (fun r h2 q => ?_)
  obtain ⟨rfl, rfl⟩ := q
  show Ex _ 0 0 _ _ _ (Value.int _ :: _) _ _
  refine ex_if_eqN 20 dX12_sight_7 (by decide) (by first | omega | exact bN_lt) (fun q7 => ?_) (fun q7 => ?_)
  · skip
    refine ex_aload_n dX12_sight_20 rfl rfl ?_
    refine ex_iconstN (-1) dX12_sight_21 (by decide) ?_
    refine ex_callV0 (dc := 0) (as := [.int _]) dX12_sight_22 MX12_refuses kX12_106 iX12_refuses sX12_refuses rfl rfl hm.1 rfl rfl (Nat.le_of_ble_eq_true rfl) (Nat.le_of_ble_eq_true rfl) (by decide) (e_refuses (c := 1) (by decide) (by decide) hm) (fun r h2 q => ?_)
    obtain ⟨rfl, hm, hs2⟩ := q
    have hs := hs.tr hs2
    show Ex _ 0 0 _ _ _ (Value.int _ :: _) _ _
    refine ex_iret rfl dX12_sight_25 ?_
    exact ⟨rfl, hm, hs⟩
  · skip
    obtain ⟨k, -, hk, rfl⟩ := lies_of (bN_n.mp q7) (by decide) (by decide)
    refine ex_iload_n dX12_sight_10 rfl ?_
    refine ex_iconstN (nI 0) dX12_sight_11 (by decide) ?_
    refine ex_bipushN (nI 13) dX12_sight_12 (by decide) ?_
    refine ex_callS0 (dc := 0) (as := [.int _, .int _, .int _]) dX12_sight_14 MX12_lies kX12_102 tX12_lies rfl rfl (Nat.le_of_ble_eq_true rfl) (Nat.le_of_ble_eq_true rfl) (by decide) (e_lies _ _ _ _) (fun r h2 q => ?_)
    obtain ⟨rfl, rfl⟩ := q
    show Ex _ 0 0 _ _ _ (Value.int _ :: _) _ _
    refine ex_if_neN 26 dX12_sight_17 (by decide) (by first | omega | exact bN_lt) (fun q17 => ?_) (fun q17 => ?_)
    · skip
      obtain ⟨c, -, hc, rfl⟩ := lies_of (bN_n.mp q17) (by decide) (by decide)
      exact absurd (show inN (nI k) 100 ∧ inN (nI c) 14 from ⟨⟨by rw [nI_toInt (by omega)]; omega, by rw [nI_toInt (by omega)]; omega⟩, by rw [nI_toInt (by omega)]; omega, by rw [nI_toInt (by omega)]; omega⟩) hx
    · skip
      refine ex_aload_n dX12_sight_20 rfl rfl ?_
      refine ex_iconstN (-1) dX12_sight_21 (by decide) ?_
      refine ex_callV0 (dc := 0) (as := [.int _]) dX12_sight_22 MX12_refuses kX12_106 iX12_refuses sX12_refuses rfl rfl hm.1 rfl rfl (Nat.le_of_ble_eq_true rfl) (Nat.le_of_ble_eq_true rfl) (by decide) (e_refuses (c := 1) (by decide) (by decide) hm) (fun r h2 q => ?_)
      obtain ⟨rfl, hm, hs2⟩ := q
      have hs := hs.tr hs2
      show Ex _ 0 0 _ _ _ (Value.int _ :: _) _ _
      refine ex_iret rfl dX12_sight_25 ?_
      exact ⟨rfl, hm, hs⟩
set_option maxHeartbeats 4000000 in
set_option maxRecDepth 100000 in
theorem l_keeps1 {b : Nat} {h0 : am_H} {σ : am_S} {x1 : Value} {Q : Option Value → am_H → Prop} (hQ : ∀ h2, Mo b h2 (σ.1, rs σ.2.1 16 (fill (σ.2.1 16) 0 1470 (fun i => (σ.2.1 16) (i + 98))), σ.2.2) → Same b h0 h2 → Ex 0 0 0 mX12_keeps 42 [.ref b, x1, .int (nI 98), .int (nI 1470)] [] h2 Q) : ∀ (n k : Nat) (h : am_H), k + n = 1470 → Mo b h (σ.1, rs σ.2.1 16 (fill (σ.2.1 16) 0 k (fun i => (σ.2.1 16) (i + 98))), σ.2.2) → Same b h0 h → Ex 0 0 0 mX12_keeps 14 [.ref b, x1, .int (nI 98), .int (nI k)] [] h Q := by
  intro n
  induction n with
  | zero =>
    intro k h hk hm hs
    refine ex_iload_n dX12_keeps_14 rfl ?_
    refine ex_bipushN (nI 15) dX12_keeps_15 (by decide) ?_
    refine ex_iload_n dX12_keeps_17 rfl ?_
    refine ex_imulN dX12_keeps_18 ?_
    refine ex_icmp_geN 42 dX12_keeps_19 (by decide) (by omega) (by omega) (fun q19 => ?_) (fun q19 => ?_)
    · skip
      obtain rfl : k = 1470 := by omega
      exact hQ _ hm hs
    · skip
      exact absurd q19 (by omega)
  | succ n ih =>
    intro k h hk hm hs
    refine ex_iload_n dX12_keeps_14 rfl ?_
    refine ex_bipushN (nI 15) dX12_keeps_15 (by decide) ?_
    refine ex_iload_n dX12_keeps_17 rfl ?_
    refine ex_imulN dX12_keeps_18 ?_
    refine ex_icmp_geN 42 dX12_keeps_19 (by decide) (by omega) (by omega) (fun q19 => ?_) (fun q19 => ?_)
    · skip
      obtain rfl : k = 1470 := by omega
      exact hQ _ hm hs
    · skip
      refine ex_aload_n dX12_keeps_22 rfl rfl ?_
      refine ex_getf fX12_74 dX12_keeps_23 hm.1 rfl ?_
      refine ex_iload_n dX12_keeps_26 rfl ?_
      refine ex_aload_n dX12_keeps_27 rfl rfl ?_
      refine ex_getf fX12_74 dX12_keeps_28 hm.1 rfl ?_
      refine ex_iload_n dX12_keeps_31 rfl ?_
      refine ex_iload_n dX12_keeps_32 rfl ?_
      refine ex_iaddN dX12_keeps_33 ?_
      refine m_aldv hm dX12_keeps_34 (by decide) (by decide) rfl (by show _ < 1568; omega) (show fill (σ.2.1 16) 0 k (fun i => (σ.2.1 16) (i + 98)) (k + 98) = (σ.2.1 16) (k + 98) from if_neg (by omega)) ?_
      refine m_ast hm hs dX12_keeps_35 (by decide) (by decide) rfl (by show _ < 1568; omega) (fun h1 hm hs => ?_)
      refine ex_iincN 1 dX12_keeps_36 (by decide) rfl (by decide) ?_
      refine ex_goto 14 dX12_keeps_39 (by decide) ?_
      exact ih (k + 1) _ (by omega) (by rw [← fill_s0, ← u2_rs]; exact hm) hs
set_option maxHeartbeats 4000000 in
set_option maxRecDepth 100000 in
theorem l_keeps2 {b : Nat} {h0 : am_H} {σ : am_S} {x : Int32} {u : Nat} (hu : u < 16) (h39 : σ.1 39 = nI u) {Q : Option Value → am_H → Prop} (hQ : ∀ h2, Mo b h2 (upd σ.1 39 (nI (u + 1)), rs σ.2.1 16 (upd (fill (σ.2.1 16) (98 * u) 97 (σ.2.1 1)) (98 * u + 97) x), σ.2.2) → Same b h0 h2 → Q none h2) : ∀ (n k : Nat) (h : am_H), k + n = 97 → Mo b h (σ.1, rs σ.2.1 16 (fill (σ.2.1 16) (98 * u) k (σ.2.1 1)), σ.2.2) → Same b h0 h → Ex 0 0 0 mX12_keeps 54 [.ref b, .int x, .int (nI 98), .int (nI k)] [] h Q := by
  intro n
  induction n with
  | zero =>
    intro k h hk hm hs
    refine ex_iload_n dX12_keeps_54 rfl ?_
    refine ex_bipushN (nI 97) dX12_keeps_55 (by decide) ?_
    refine ex_icmp_geN 85 dX12_keeps_57 (by decide) (by omega) (by omega) (fun q57 => ?_) (fun q57 => ?_)
    · skip
      obtain rfl : k = 97 := by omega
      refine ex_aload_n dX12_keeps_85 rfl rfl ?_
      refine ex_getf fX12_74 dX12_keeps_86 hm.1 rfl ?_
      refine ex_iload_n dX12_keeps_89 rfl ?_
      refine ex_aload_n dX12_keeps_90 rfl rfl ?_
      refine ex_getf fX12_11 dX12_keeps_91 hm.1 (congrArg (fun z => some (Value.int z)) h39) ?_
      refine ex_imulN dX12_keeps_94 ?_
      refine ex_bipushN (nI 97) dX12_keeps_95 (by decide) ?_
      refine ex_iaddN dX12_keeps_97 ?_
      refine ex_iload_n dX12_keeps_98 rfl ?_
      refine m_ast hm hs dX12_keeps_99 (by decide) (by decide) rfl (by show _ < 1568; omega) (fun h1 hm hs => ?_)
      refine ex_aload_n dX12_keeps_100 rfl rfl ?_
      refine ex_dup dX12_keeps_101 rfl ?_
      refine ex_getf fX12_11 dX12_keeps_102 hm.1 (congrArg (fun z => some (Value.int z)) h39) ?_
      refine ex_iconstN (nI 1) dX12_keeps_105 (by decide) ?_
      refine ex_iaddN dX12_keeps_106 ?_
      refine m_put hm hs pX12_11 dX12_keeps_107 (by decide) (ms39 _ _ _) (fun h1 hm hs => ?_)
      refine ex_vret rfl dX12_keeps_110 ?_
      exact hQ _ (by rw [← u2_rs]; exact hm) hs
    · skip
      exact absurd q57 (by omega)
  | succ n ih =>
    intro k h hk hm hs
    refine ex_iload_n dX12_keeps_54 rfl ?_
    refine ex_bipushN (nI 97) dX12_keeps_55 (by decide) ?_
    refine ex_icmp_geN 85 dX12_keeps_57 (by decide) (by omega) (by omega) (fun q57 => ?_) (fun q57 => ?_)
    · skip
      obtain rfl : k = 97 := by omega
      refine ex_aload_n dX12_keeps_85 rfl rfl ?_
      refine ex_getf fX12_74 dX12_keeps_86 hm.1 rfl ?_
      refine ex_iload_n dX12_keeps_89 rfl ?_
      refine ex_aload_n dX12_keeps_90 rfl rfl ?_
      refine ex_getf fX12_11 dX12_keeps_91 hm.1 (congrArg (fun z => some (Value.int z)) h39) ?_
      refine ex_imulN dX12_keeps_94 ?_
      refine ex_bipushN (nI 97) dX12_keeps_95 (by decide) ?_
      refine ex_iaddN dX12_keeps_97 ?_
      refine ex_iload_n dX12_keeps_98 rfl ?_
      refine m_ast hm hs dX12_keeps_99 (by decide) (by decide) rfl (by show _ < 1568; omega) (fun h1 hm hs => ?_)
      refine ex_aload_n dX12_keeps_100 rfl rfl ?_
      refine ex_dup dX12_keeps_101 rfl ?_
      refine ex_getf fX12_11 dX12_keeps_102 hm.1 (congrArg (fun z => some (Value.int z)) h39) ?_
      refine ex_iconstN (nI 1) dX12_keeps_105 (by decide) ?_
      refine ex_iaddN dX12_keeps_106 ?_
      refine m_put hm hs pX12_11 dX12_keeps_107 (by decide) (ms39 _ _ _) (fun h1 hm hs => ?_)
      refine ex_vret rfl dX12_keeps_110 ?_
      exact hQ _ (by rw [← u2_rs]; exact hm) hs
    · skip
      refine ex_aload_n dX12_keeps_60 rfl rfl ?_
      refine ex_getf fX12_74 dX12_keeps_61 hm.1 rfl ?_
      refine ex_iload_n dX12_keeps_64 rfl ?_
      refine ex_aload_n dX12_keeps_65 rfl rfl ?_
      refine ex_getf fX12_11 dX12_keeps_66 hm.1 (congrArg (fun z => some (Value.int z)) h39) ?_
      refine ex_imulN dX12_keeps_69 ?_
      refine ex_iload_n dX12_keeps_70 rfl ?_
      refine ex_iaddN dX12_keeps_71 ?_
      refine ex_aload_n dX12_keeps_72 rfl rfl ?_
      refine ex_getf fX12_24 dX12_keeps_73 hm.1 rfl ?_
      refine ex_iload_n dX12_keeps_76 rfl ?_
      refine m_ald hm dX12_keeps_77 (by decide) (by decide) rfl (by show _ < 5725; omega) ?_
      refine m_ast hm hs dX12_keeps_78 (by decide) (by decide) rfl (by show _ < 1568; omega) (fun h1 hm hs => ?_)
      refine ex_iincN 1 dX12_keeps_79 (by decide) rfl (by decide) ?_
      refine ex_goto 54 dX12_keeps_82 (by decide) ?_
      exact ih (k + 1) _ (by omega) (by rw [← fill_s, ← u2_rs]; exact hm) hs
set_option maxHeartbeats 4000000 in
set_option maxRecDepth 100000 in
theorem e_keeps {b : Nat} {h : am_H} {σ : am_S} (x : Int32) {u : Nat} (hu : u < 16) (h39 : σ.1 39 = nI u) (hm : Mo b h σ) : Ex 0 0 0 mX12_keeps 0 (am_en [.ref b, .int x] 4) [] h (fun r h2 => r = none ∧ Mo b h2 (upd σ.1 39 (nI (u + 1)), rs σ.2.1 16 (upd (fill (σ.2.1 16) (98 * u) 97 (σ.2.1 1)) (98 * u + 97) x), σ.2.2) ∧ Same b h h2) := by
  have hs : Same b h h := Same.rf
  refine ex_bipushN (nI 98) dX12_keeps_0 (by decide) ?_
  refine ex_istore_n dX12_keeps_2 (by decide) ?_
  refine ex_aload_n dX12_keeps_3 rfl rfl ?_
  refine ex_getf fX12_11 dX12_keeps_4 hm.1 (congrArg (fun z => some (Value.int z)) h39) ?_
  refine ex_bipushN (nI 16) dX12_keeps_7 (by decide) ?_
  refine ex_icmp_neN 52 dX12_keeps_9 (by decide) (by omega) (by omega) (fun q9 => ?_) (fun q9 => ?_)
  · skip
    refine ex_iconstN (nI 0) dX12_keeps_52 (by decide) ?_
    refine ex_istore_n dX12_keeps_53 (by decide) ?_
    exact l_keeps2 (σ := σ) hu h39 (fun h2 hm hs => ⟨rfl, hm, hs⟩) 97 0 _ (by omega) (by rw [fill_0, rs_self]; exact hm) hs
  · skip
    exact absurd q9 (by omega)
set_option maxHeartbeats 4000000 in
set_option maxRecDepth 100000 in
theorem e_keeps_full {b : Nat} {h : am_H} {σ : am_S} (x : Int32) (h39 : σ.1 39 = nI 16) (hm : Mo b h σ) : Ex 0 0 0 mX12_keeps 0 (am_en [.ref b, .int x] 4) [] h (fun r h2 => r = none ∧ Mo b h2 (upd (upd σ.1 39 (nI 15)) 39 (nI (15 + 1)), rs (rs σ.2.1 16 (fill (σ.2.1 16) 0 1470 (fun i => (σ.2.1 16) (i + 98)))) 16 (upd (fill (fill (σ.2.1 16) 0 1470 (fun i => (σ.2.1 16) (i + 98))) (98 * 15) 97 (σ.2.1 1)) (98 * 15 + 97) x), σ.2.2) ∧ Same b h h2) := by
  have hs : Same b h h := Same.rf
  refine ex_bipushN (nI 98) dX12_keeps_0 (by decide) ?_
  refine ex_istore_n dX12_keeps_2 (by decide) ?_
  refine ex_aload_n dX12_keeps_3 rfl rfl ?_
  refine ex_getf fX12_11 dX12_keeps_4 hm.1 (congrArg (fun z => some (Value.int z)) h39) ?_
  refine ex_bipushN (nI 16) dX12_keeps_7 (by decide) ?_
  refine ex_icmp_neN 52 dX12_keeps_9 (by decide) (by omega) (by omega) (fun q9 => ?_) (fun q9 => ?_)
  · skip
    exact absurd rfl q9
  · skip
    refine ex_iconstN (nI 0) dX12_keeps_12 (by decide) ?_
    refine ex_istore_n dX12_keeps_13 (by decide) ?_
    refine l_keeps1 (σ := σ) (fun h2 hm hs => ?_) 1470 0 _ (by omega) (by rw [fill_0, rs_self]; exact hm) hs
    refine ex_aload_n dX12_keeps_42 rfl rfl ?_
    refine ex_dup dX12_keeps_43 rfl ?_
    refine ex_getf fX12_11 dX12_keeps_44 hm.1 (congrArg (fun z => some (Value.int z)) h39) ?_
    refine ex_iconstN (nI 1) dX12_keeps_47 (by decide) ?_
    refine ex_isubN dX12_keeps_48 (by omega) ?_
    refine m_put hm hs pX12_11 dX12_keeps_49 (by decide) (ms39 _ _ _) (fun h1 hm hs => ?_)
    refine ex_iconstN (nI 0) dX12_keeps_52 (by decide) ?_
    refine ex_istore_n dX12_keeps_53 (by decide) ?_
    exact l_keeps2 (σ := (upd σ.1 39 (nI 15), rs σ.2.1 16 (fill (σ.2.1 16) 0 1470 (fun i => (σ.2.1 16) (i + 98))), σ.2.2)) (u := 15) (by decide) rfl (fun h2 hm hs => ⟨rfl, hm, hs⟩) 97 0 _ (by omega) (by rw [fill_0, rs_self]; exact hm) hs
set_option maxHeartbeats 4000000 in
set_option maxRecDepth 100000 in
theorem l_undo {b : Nat} {h0 : am_H} {σ : am_S} {u : Nat} (hu : u < 16) {Q : Option Value → am_H → Prop} (hQ : ∀ h2, Mo b h2 (upd (upd σ.1 39 (nI u)) 0 (nI 0), rs σ.2.1 1 (fill (σ.2.1 1) 0 97 (fun i => (σ.2.1 16) (98 * u + i))), σ.2.2) → Same b h0 h2 → Q (some (.int ((σ.2.1 16) (98 * u + 97)))) h2) : ∀ (n k : Nat) (h : am_H), k + n = 97 → Mo b h (upd σ.1 39 (nI u), rs σ.2.1 1 (fill (σ.2.1 1) 0 k (fun i => (σ.2.1 16) (98 * u + i))), σ.2.2) → Same b h0 h → Ex 1 0 0 mX12_undo 34 [.ref b, .int (nI (98 * u)), .int (nI k)] [] h Q := by
  intro n
  induction n with
  | zero =>
    intro k h hk hm hs
    refine ex_iload_n dX12_undo_34 rfl ?_
    refine ex_bipushN (nI 97) dX12_undo_35 (by decide) ?_
    refine ex_icmp_geN 60 dX12_undo_37 (by decide) (by omega) (by omega) (fun q37 => ?_) (fun q37 => ?_)
    · skip
      obtain rfl : k = 97 := by omega
      refine ex_aload_n dX12_undo_60 rfl rfl ?_
      refine ex_aload_n dX12_undo_61 rfl rfl ?_
      refine ex_getf fX12_74 dX12_undo_62 hm.1 rfl ?_
      refine ex_iload_n dX12_undo_65 rfl ?_
      refine ex_bipushN (nI 97) dX12_undo_66 (by decide) ?_
      refine ex_iaddN dX12_undo_68 ?_
      refine m_ald hm dX12_undo_69 (by decide) (by decide) rfl (by show _ < 1568; omega) ?_
      refine ex_callV0 (dc := 0) (as := [.int _]) dX12_undo_70 MX12_good kX12_14 iX12_good sX12_good rfl rfl hm.1 rfl rfl (Nat.le_of_ble_eq_true rfl) (Nat.le_of_ble_eq_true rfl) (by decide) (e_good _ hm) (fun r h2 q => ?_)
      obtain ⟨rfl, hm, hs2⟩ := q
      have hs := hs.tr hs2
      show Ex _ 0 0 _ _ _ (Value.int _ :: _) _ _
      refine ex_iret rfl dX12_undo_73 ?_
      exact hQ _ hm hs
    · skip
      exact absurd q37 (by omega)
  | succ n ih =>
    intro k h hk hm hs
    refine ex_iload_n dX12_undo_34 rfl ?_
    refine ex_bipushN (nI 97) dX12_undo_35 (by decide) ?_
    refine ex_icmp_geN 60 dX12_undo_37 (by decide) (by omega) (by omega) (fun q37 => ?_) (fun q37 => ?_)
    · skip
      obtain rfl : k = 97 := by omega
      refine ex_aload_n dX12_undo_60 rfl rfl ?_
      refine ex_aload_n dX12_undo_61 rfl rfl ?_
      refine ex_getf fX12_74 dX12_undo_62 hm.1 rfl ?_
      refine ex_iload_n dX12_undo_65 rfl ?_
      refine ex_bipushN (nI 97) dX12_undo_66 (by decide) ?_
      refine ex_iaddN dX12_undo_68 ?_
      refine m_ald hm dX12_undo_69 (by decide) (by decide) rfl (by show _ < 1568; omega) ?_
      refine ex_callV0 (dc := 0) (as := [.int _]) dX12_undo_70 MX12_good kX12_14 iX12_good sX12_good rfl rfl hm.1 rfl rfl (Nat.le_of_ble_eq_true rfl) (Nat.le_of_ble_eq_true rfl) (by decide) (e_good _ hm) (fun r h2 q => ?_)
      obtain ⟨rfl, hm, hs2⟩ := q
      have hs := hs.tr hs2
      show Ex _ 0 0 _ _ _ (Value.int _ :: _) _ _
      refine ex_iret rfl dX12_undo_73 ?_
      exact hQ _ hm hs
    · skip
      refine ex_aload_n dX12_undo_40 rfl rfl ?_
      refine ex_getf fX12_24 dX12_undo_41 hm.1 rfl ?_
      refine ex_iload_n dX12_undo_44 rfl ?_
      refine ex_aload_n dX12_undo_45 rfl rfl ?_
      refine ex_getf fX12_74 dX12_undo_46 hm.1 rfl ?_
      refine ex_iload_n dX12_undo_49 rfl ?_
      refine ex_iload_n dX12_undo_50 rfl ?_
      refine ex_iaddN dX12_undo_51 ?_
      refine m_ald hm dX12_undo_52 (by decide) (by decide) rfl (by show _ < 1568; omega) ?_
      refine m_ast hm hs dX12_undo_53 (by decide) (by decide) rfl (by show _ < 5725; omega) (fun h1 hm hs => ?_)
      refine ex_iincN 1 dX12_undo_54 (by decide) rfl (by decide) ?_
      refine ex_goto 34 dX12_undo_57 (by decide) ?_
      exact ih (k + 1) _ (by omega) (by rw [← fill_s0, ← u2_rs]; exact hm) hs
set_option maxHeartbeats 4000000 in
set_option maxRecDepth 100000 in
theorem e_undo {b : Nat} {h : am_H} {σ : am_S} {u : Nat} (hu : u < 16) (h39 : σ.1 39 = nI (u + 1)) (hm : Mo b h σ) : Ex 1 0 0 mX12_undo 0 (am_en [.ref b] 3) [] h (fun r h2 => r = some (.int ((σ.2.1 16) (98 * u + 97))) ∧ Mo b h2 (upd (upd σ.1 39 (nI u)) 0 (nI 0), rs σ.2.1 1 (fill (σ.2.1 1) 0 97 (fun i => (σ.2.1 16) (98 * u + i))), σ.2.2) ∧ Same b h h2) := by
  have hs : Same b h h := Same.rf
  refine ex_aload_n dX12_undo_0 rfl rfl ?_
  refine ex_getf fX12_11 dX12_undo_1 hm.1 (congrArg (fun z => some (Value.int z)) h39) ?_
  refine ex_if_neN 14 dX12_undo_4 (by decide) (by omega) (fun q4 => ?_) (fun q4 => ?_)
  · skip
    refine ex_aload_n dX12_undo_14 rfl rfl ?_
    refine ex_dup dX12_undo_15 rfl ?_
    refine ex_getf fX12_11 dX12_undo_16 hm.1 (congrArg (fun z => some (Value.int z)) h39) ?_
    refine ex_iconstN (nI 1) dX12_undo_19 (by decide) ?_
    refine ex_isubN dX12_undo_20 (by omega) ?_
    refine m_put hm hs pX12_11 dX12_undo_21 (by decide) (ms39 _ _ _) (fun h1 hm hs => ?_)
    refine ex_bipushN (nI 98) dX12_undo_24 (by decide) ?_
    refine ex_aload_n dX12_undo_26 rfl rfl ?_
    refine ex_getf fX12_11 dX12_undo_27 hm.1 (congrArg (fun z => some (Value.int z)) (show nI (u + 1 - 1) = nI u from rfl)) ?_
    refine ex_imulN dX12_undo_30 ?_
    refine ex_istore_n dX12_undo_31 (by decide) ?_
    refine ex_iconstN (nI 0) dX12_undo_32 (by decide) ?_
    refine ex_istore_n dX12_undo_33 (by decide) ?_
    exact l_undo (σ := σ) hu (fun h2 hm hs => ⟨rfl, hm, hs⟩) 97 0 _ (by omega) (by rw [fill_0, rs_self]; exact hm) hs
  · skip
    exact absurd q4 (by omega)
set_option maxHeartbeats 4000000 in
set_option maxRecDepth 100000 in
theorem e_undo_no {b : Nat} {h : am_H} {σ : am_S} (h39 : σ.1 39 = nI 0) (hm : Mo b h σ) : Ex 1 0 0 mX12_undo 0 (am_en [.ref b] 3) [] h (fun r h2 => r = some (.int (-3)) ∧ Mo b h2 (rfz σ (-3) 3) ∧ Same b h h2) := by
  have hs : Same b h h := Same.rf
  refine ex_aload_n dX12_undo_0 rfl rfl ?_
  refine ex_getf fX12_11 dX12_undo_1 hm.1 (congrArg (fun z => some (Value.int z)) h39) ?_
  refine ex_if_neN 14 dX12_undo_4 (by decide) (by omega) (fun q4 => ?_) (fun q4 => ?_)
  · skip
    exact absurd rfl q4
  · skip
    refine ex_aload_n dX12_undo_7 rfl rfl ?_
    refine ex_bipushN (-3) dX12_undo_8 (by decide) ?_
    refine ex_callV0 (dc := 0) (as := [.int _]) dX12_undo_10 MX12_refuses kX12_106 iX12_refuses sX12_refuses rfl rfl hm.1 rfl rfl (Nat.le_of_ble_eq_true rfl) (Nat.le_of_ble_eq_true rfl) (by decide) (e_refuses (c := 3) (by decide) (by decide) hm) (fun r h2 q => ?_)
    obtain ⟨rfl, hm, hs2⟩ := q
    have hs := hs.tr hs2
    show Ex _ 0 0 _ _ _ (Value.int _ :: _) _ _
    refine ex_iret rfl dX12_undo_13 ?_
    exact ⟨rfl, hm, hs⟩
