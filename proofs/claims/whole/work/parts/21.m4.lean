/-! THE REFERENCE: the tape, terms, images, sights -/
theorem lies_t {a j c : Nat} (h1 : a ≤ j) (h2 : j ≤ c) (hc : c < 2 ^ 31) : nI a ≤ nI j ∧ nI j ≤ nI c := ⟨nI_le h1 (by omega), nI_le h2 hc⟩
theorem lies_of {x : Int32} {a c : Nat} (h : nI a ≤ x ∧ x ≤ nI c) (hc : c < 2 ^ 31) (ha : a < 2 ^ 31) : ∃ j, a ≤ j ∧ j ≤ c ∧ x = nI j := by
  have h1 := Int32.le_iff_toInt_le.mp h.1
  have h2 := Int32.le_iff_toInt_le.mp h.2
  rw [nI_toInt ha] at h1
  rw [nI_toInt hc] at h2
  refine ⟨x.toInt.toNat, by omega, by omega, ?_⟩
  apply Int32.toInt_inj.mp
  rw [nI_toInt (by omega)]
  omega
set_option maxHeartbeats 4000000 in
set_option maxRecDepth 100000 in
theorem e_turns {b : Nat} {h : am_H} {σ : am_S} (m : Nat) (hm13 : m ≤ 13) (hm : Mo b h σ) : Ex 0 0 0 mX12_turns 0 (am_en [.ref b, .int (nI m)] 4) [] h (fun r h2 => r = none ∧ Mo b h2 (σ.1, rs σ.2.1 13 (rv (σ.2.1 13) m), σ.2.2) ∧ Same b h h2) := by
  have hs : Same b h h := Same.rf
  refine ex_iconstN (nI 0) dX12_turns_0 (by decide) ?_
  refine ex_istore_n dX12_turns_1 (by decide) ?_
  exact l_turns (σ := σ) hm13 (fun h2 hm hs => ⟨rfl, hm, hs⟩) (m + 1) 0 _ (by omega) _ (by omega) (by rw [rvk_0, rs_self]; exact hm) hs
set_option maxHeartbeats 4000000 in
set_option maxRecDepth 100000 in
theorem l_sinks2 {b : Nat} {h0 : am_H} {σ : am_S} {m p : Nat} (h31 : σ.1 31 = nI m) (hm13 : m ≤ 13) {Q : Option Value → am_H → Prop} (hQ : ∀ h2, Mo b h2 (σ.1, rs (rs σ.2.1 14 (fill (σ.2.1 14) 0 m (fun i => σ.2.1 13 ((i + p) % m)))) 13 (fill (σ.2.1 13) 0 m (fill (σ.2.1 14) 0 m (fun i => σ.2.1 13 ((i + p) % m)))), σ.2.2) → Same b h0 h2 → Q none h2) : ∀ (n k : Nat) (h : am_H), k + n = m → Mo b h (σ.1, rs (rs σ.2.1 14 (fill (σ.2.1 14) 0 m (fun i => σ.2.1 13 ((i + p) % m)))) 13 (fill (σ.2.1 13) 0 k (fill (σ.2.1 14) 0 m (fun i => σ.2.1 13 ((i + p) % m)))), σ.2.2) → Same b h0 h → Ex 0 0 0 mX12_sinks 37 [.ref b, .int (nI p), .int (nI k)] [] h Q := by
  intro n
  induction n with
  | zero =>
    intro k h hk hm hs
    refine ex_iload_n dX12_sinks_37 rfl ?_
    refine ex_aload_n dX12_sinks_38 rfl rfl ?_
    refine ex_getf fX12_130 dX12_sinks_39 hm.1 (congrArg (fun z => some (Value.int z)) h31) ?_
    refine ex_icmp_geN 63 dX12_sinks_42 (by decide) (by omega) (by omega) (fun q42 => ?_) (fun q42 => ?_)
    · skip
      obtain rfl : k = m := by omega
      refine ex_vret rfl dX12_sinks_63 ?_
      exact hQ _ hm hs
    · skip
      exact absurd q42 (by omega)
  | succ n ih =>
    intro k h hk hm hs
    refine ex_iload_n dX12_sinks_37 rfl ?_
    refine ex_aload_n dX12_sinks_38 rfl rfl ?_
    refine ex_getf fX12_130 dX12_sinks_39 hm.1 (congrArg (fun z => some (Value.int z)) h31) ?_
    refine ex_icmp_geN 63 dX12_sinks_42 (by decide) (by omega) (by omega) (fun q42 => ?_) (fun q42 => ?_)
    · skip
      obtain rfl : k = m := by omega
      refine ex_vret rfl dX12_sinks_63 ?_
      exact hQ _ hm hs
    · skip
      refine ex_aload_n dX12_sinks_45 rfl rfl ?_
      refine ex_getf fX12_65 dX12_sinks_46 hm.1 rfl ?_
      refine ex_iload_n dX12_sinks_49 rfl ?_
      refine ex_aload_n dX12_sinks_50 rfl rfl ?_
      refine ex_getf fX12_68 dX12_sinks_51 hm.1 rfl ?_
      refine ex_iload_n dX12_sinks_54 rfl ?_
      refine m_ald hm dX12_sinks_55 (by decide) (by decide) rfl (by show _ < 13; omega) ?_
      refine m_ast hm hs dX12_sinks_56 (by decide) (by decide) rfl (by show _ < 13; omega) (fun h1 hm hs => ?_)
      refine ex_iincN 1 dX12_sinks_57 (by decide) rfl (by decide) ?_
      refine ex_goto 37 dX12_sinks_60 (by decide) ?_
      exact ih (k + 1) _ (by omega) (by rw [← fill_s0, ← u2_rs]; exact hm) hs
set_option maxHeartbeats 4000000 in
set_option maxRecDepth 100000 in
theorem l_sinks1 {b : Nat} {h0 : am_H} {σ : am_S} {m p : Nat} (h31 : σ.1 31 = nI m) (hm13 : m ≤ 13) (hp : p ≤ 13) {Q : Option Value → am_H → Prop} (hQ : ∀ h2, Mo b h2 (σ.1, rs (rs σ.2.1 14 (fill (σ.2.1 14) 0 m (fun i => σ.2.1 13 ((i + p) % m)))) 13 (fill (σ.2.1 13) 0 m (fill (σ.2.1 14) 0 m (fun i => σ.2.1 13 ((i + p) % m)))), σ.2.2) → Same b h0 h2 → Q none h2) : ∀ (n k : Nat) (h : am_H), k + n = m → Mo b h (σ.1, rs σ.2.1 14 (fill (σ.2.1 14) 0 k (fun i => σ.2.1 13 ((i + p) % m))), σ.2.2) → Same b h0 h → Ex 0 0 0 mX12_sinks 2 [.ref b, .int (nI p), .int (nI k)] [] h Q := by
  intro n
  induction n with
  | zero =>
    intro k h hk hm hs
    refine ex_iload_n dX12_sinks_2 rfl ?_
    refine ex_aload_n dX12_sinks_3 rfl rfl ?_
    refine ex_getf fX12_130 dX12_sinks_4 hm.1 (congrArg (fun z => some (Value.int z)) h31) ?_
    refine ex_icmp_geN 35 dX12_sinks_7 (by decide) (by first | omega | (have := Nat.mod_lt (k + p) (show m > 0 by omega); omega)) (by first | omega | (have := Nat.mod_lt (k + p) (show m > 0 by omega); omega)) (fun q7 => ?_) (fun q7 => ?_)
    · skip
      obtain rfl : k = m := by omega
      refine ex_iconstN (nI 0) dX12_sinks_35 (by decide) ?_
      refine ex_istore_n dX12_sinks_36 (by decide) ?_
      exact l_sinks2 h31 hm13 hQ k 0 _ (by omega) (by rw [fill_0, show rs (rs σ.2.1 14 _) 13 (σ.2.1 13) = rs σ.2.1 14 _ from rs_self (rs σ.2.1 14 _) 13]; exact hm) hs
    · skip
      exact absurd q7 (by omega)
  | succ n ih =>
    intro k h hk hm hs
    refine ex_iload_n dX12_sinks_2 rfl ?_
    refine ex_aload_n dX12_sinks_3 rfl rfl ?_
    refine ex_getf fX12_130 dX12_sinks_4 hm.1 (congrArg (fun z => some (Value.int z)) h31) ?_
    refine ex_icmp_geN 35 dX12_sinks_7 (by decide) (by first | omega | (have := Nat.mod_lt (k + p) (show m > 0 by omega); omega)) (by first | omega | (have := Nat.mod_lt (k + p) (show m > 0 by omega); omega)) (fun q7 => ?_) (fun q7 => ?_)
    · skip
      obtain rfl : k = m := by omega
      refine ex_iconstN (nI 0) dX12_sinks_35 (by decide) ?_
      refine ex_istore_n dX12_sinks_36 (by decide) ?_
      exact l_sinks2 h31 hm13 hQ k 0 _ (by omega) (by rw [fill_0, show rs (rs σ.2.1 14 _) 13 (σ.2.1 13) = rs σ.2.1 14 _ from rs_self (rs σ.2.1 14 _) 13]; exact hm) hs
    · skip
      refine ex_aload_n dX12_sinks_10 rfl rfl ?_
      refine ex_getf fX12_68 dX12_sinks_11 hm.1 rfl ?_
      refine ex_iload_n dX12_sinks_14 rfl ?_
      refine ex_aload_n dX12_sinks_15 rfl rfl ?_
      refine ex_getf fX12_65 dX12_sinks_16 hm.1 rfl ?_
      refine ex_iload_n dX12_sinks_19 rfl ?_
      refine ex_iload_n dX12_sinks_20 rfl ?_
      refine ex_iaddN dX12_sinks_21 ?_
      refine ex_aload_n dX12_sinks_22 rfl rfl ?_
      refine ex_getf fX12_130 dX12_sinks_23 hm.1 (congrArg (fun z => some (Value.int z)) h31) ?_
      refine ex_iremN dX12_sinks_26 (by first | omega | (have := Nat.mod_lt (k + p) (show m > 0 by omega); omega)) (by first | omega | (have := Nat.mod_lt (k + p) (show m > 0 by omega); omega)) (by first | omega | (have := Nat.mod_lt (k + p) (show m > 0 by omega); omega)) ?_
      refine m_ald hm dX12_sinks_27 (by decide) (by decide) rfl (by show _ < 13; first | omega | (have := Nat.mod_lt (k + p) (show m > 0 by omega); omega)) ?_
      refine m_ast hm hs dX12_sinks_28 (by decide) (by decide) rfl (by show _ < 13; first | omega | (have := Nat.mod_lt (k + p) (show m > 0 by omega); omega)) (fun h1 hm hs => ?_)
      refine ex_iincN 1 dX12_sinks_29 (by decide) rfl (by decide) ?_
      refine ex_goto 2 dX12_sinks_32 (by decide) ?_
      exact ih (k + 1) _ (by omega) (by rw [← fill_s0, ← u2_rs]; exact hm) hs
set_option maxHeartbeats 4000000 in
set_option maxRecDepth 100000 in
theorem e_sinks {b : Nat} {h : am_H} {σ : am_S} (m p : Nat) (h31 : σ.1 31 = nI m) (hm13 : m ≤ 13) (hp : p ≤ 13) (hm : Mo b h σ) : Ex 0 0 0 mX12_sinks 0 (am_en [.ref b, .int (nI p)] 3) [] h (fun r h2 => r = none ∧ Mo b h2 (σ.1, rs (rs σ.2.1 14 (fill (σ.2.1 14) 0 m (fun i => σ.2.1 13 ((i + p) % m)))) 13 (fill (σ.2.1 13) 0 m (fill (σ.2.1 14) 0 m (fun i => σ.2.1 13 ((i + p) % m)))), σ.2.2) ∧ Same b h h2) := by
  have hs : Same b h h := Same.rf
  refine ex_iconstN (nI 0) dX12_sinks_0 (by decide) ?_
  refine ex_istore_n dX12_sinks_1 (by decide) ?_
  exact l_sinks1 (σ := σ) h31 hm13 hp (fun h2 hm hs => ⟨rfl, hm, hs⟩) m 0 _ (by omega) (by rw [fill_0, rs_self]; exact hm) hs
set_option maxHeartbeats 4000000 in
set_option maxRecDepth 100000 in
theorem l_puts {b : Nat} {h0 : am_H} {σ : am_S} {j : Nat} (hj : j < 6) {Q : Option Value → am_H → Prop} (hQ : ∀ h2, Mo b h2 (σ.1, rs σ.2.1 1 (upd (fill (σ.2.1 1) (16 * j + 3) 13 (σ.2.1 13)) (16 * j + 2) (σ.1 32)), σ.2.2) → Same b h0 h2 → Q none h2) : ∀ (n k : Nat) (h : am_H), k + n = 13 → Mo b h (σ.1, rs σ.2.1 1 (fill (σ.2.1 1) (16 * j + 3) k (σ.2.1 13)), σ.2.2) → Same b h0 h → Ex 1 0 0 mX12_puts 2 [.ref b, .int (nI j), .int (nI k)] [] h Q := by
  intro n
  induction n with
  | zero =>
    intro k h hk hm hs
    refine ex_iload_n dX12_puts_2 rfl ?_
    refine ex_bipushN (nI 13) dX12_puts_3 (by decide) ?_
    refine ex_icmp_geN 33 dX12_puts_5 (by decide) (by omega) (by omega) (fun q5 => ?_) (fun q5 => ?_)
    · skip
      obtain rfl : k = 13 := by omega
      refine ex_aload_n dX12_puts_33 rfl rfl ?_
      refine ex_getf fX12_24 dX12_puts_34 hm.1 rfl ?_
      refine ex_iload_n dX12_puts_37 rfl ?_
      refine ex_callS0 (dc := 0) (as := [.int _]) dX12_puts_38 MX12_placeOf kX12_112 tX12_placeOf rfl rfl (Nat.le_of_ble_eq_true rfl) (Nat.le_of_ble_eq_true rfl) (by decide) (e_placeOf _ _) (fun r h2 q => ?_)
      obtain ⟨rfl, rfl⟩ := q
      show Ex _ 0 0 _ _ _ (Value.int _ :: _) _ _
      rw [pl_nI]
      refine ex_iconstN (nI 2) dX12_puts_41 (by decide) ?_
      refine ex_iaddN dX12_puts_42 ?_
      refine ex_aload_n dX12_puts_43 rfl rfl ?_
      refine ex_getf fX12_133 dX12_puts_44 hm.1 rfl ?_
      refine m_ast hm hs dX12_puts_47 (by decide) (by decide) rfl (by show _ < 5725; omega) (fun h1 hm hs => ?_)
      refine ex_vret rfl dX12_puts_48 ?_
      exact hQ _ (by rw [← u2_rs]; exact hm) hs
    · skip
      exact absurd q5 (by omega)
  | succ n ih =>
    intro k h hk hm hs
    refine ex_iload_n dX12_puts_2 rfl ?_
    refine ex_bipushN (nI 13) dX12_puts_3 (by decide) ?_
    refine ex_icmp_geN 33 dX12_puts_5 (by decide) (by omega) (by omega) (fun q5 => ?_) (fun q5 => ?_)
    · skip
      obtain rfl : k = 13 := by omega
      refine ex_aload_n dX12_puts_33 rfl rfl ?_
      refine ex_getf fX12_24 dX12_puts_34 hm.1 rfl ?_
      refine ex_iload_n dX12_puts_37 rfl ?_
      refine ex_callS0 (dc := 0) (as := [.int _]) dX12_puts_38 MX12_placeOf kX12_112 tX12_placeOf rfl rfl (Nat.le_of_ble_eq_true rfl) (Nat.le_of_ble_eq_true rfl) (by decide) (e_placeOf _ _) (fun r h2 q => ?_)
      obtain ⟨rfl, rfl⟩ := q
      show Ex _ 0 0 _ _ _ (Value.int _ :: _) _ _
      rw [pl_nI]
      refine ex_iconstN (nI 2) dX12_puts_41 (by decide) ?_
      refine ex_iaddN dX12_puts_42 ?_
      refine ex_aload_n dX12_puts_43 rfl rfl ?_
      refine ex_getf fX12_133 dX12_puts_44 hm.1 rfl ?_
      refine m_ast hm hs dX12_puts_47 (by decide) (by decide) rfl (by show _ < 5725; omega) (fun h1 hm hs => ?_)
      refine ex_vret rfl dX12_puts_48 ?_
      exact hQ _ (by rw [← u2_rs]; exact hm) hs
    · skip
      refine ex_aload_n dX12_puts_8 rfl rfl ?_
      refine ex_getf fX12_24 dX12_puts_9 hm.1 rfl ?_
      refine ex_iload_n dX12_puts_12 rfl ?_
      refine ex_callS0 (dc := 0) (as := [.int _]) dX12_puts_13 MX12_placeOf kX12_112 tX12_placeOf rfl rfl (Nat.le_of_ble_eq_true rfl) (Nat.le_of_ble_eq_true rfl) (by decide) (e_placeOf _ _) (fun r h2 q => ?_)
      obtain ⟨rfl, rfl⟩ := q
      show Ex _ 0 0 _ _ _ (Value.int _ :: _) _ _
      rw [pl_nI]
      refine ex_iconstN (nI 3) dX12_puts_16 (by decide) ?_
      refine ex_iaddN dX12_puts_17 ?_
      refine ex_iload_n dX12_puts_18 rfl ?_
      refine ex_iaddN dX12_puts_19 ?_
      refine ex_aload_n dX12_puts_20 rfl rfl ?_
      refine ex_getf fX12_65 dX12_puts_21 hm.1 rfl ?_
      refine ex_iload_n dX12_puts_24 rfl ?_
      refine m_ald hm dX12_puts_25 (by decide) (by decide) rfl (by show _ < 13; omega) ?_
      refine m_ast hm hs dX12_puts_26 (by decide) (by decide) rfl (by show _ < 5725; omega) (fun h1 hm hs => ?_)
      refine ex_iincN 1 dX12_puts_27 (by decide) rfl (by decide) ?_
      refine ex_goto 2 dX12_puts_30 (by decide) ?_
      exact ih (k + 1) _ (by omega) (by rw [← fill_s, ← u2_rs]; exact hm) hs
set_option maxHeartbeats 4000000 in
set_option maxRecDepth 100000 in
theorem e_puts {b : Nat} {h : am_H} {σ : am_S} (j : Nat) (hj : j < 6) (hm : Mo b h σ) : Ex 1 0 0 mX12_puts 0 (am_en [.ref b, .int (nI j)] 3) [] h (fun r h2 => r = none ∧ Mo b h2 (σ.1, rs σ.2.1 1 (upd (fill (σ.2.1 1) (16 * j + 3) 13 (σ.2.1 13)) (16 * j + 2) (σ.1 32)), σ.2.2) ∧ Same b h h2) := by
  have hs : Same b h h := Same.rf
  refine ex_iconstN (nI 0) dX12_puts_0 (by decide) ?_
  refine ex_istore_n dX12_puts_1 (by decide) ?_
  exact l_puts (σ := σ) hj (fun h2 hm hs => ⟨rfl, hm, hs⟩) 13 0 _ (by omega) (by rw [fill_0, rs_self]; exact hm) hs
set_option maxHeartbeats 4000000 in
set_option maxRecDepth 100000 in
theorem l_image {b : Nat} {h0 : am_H} {σ : am_S} {j : Nat} (hj : j < 2) {Q : Option Value → am_H → Prop} (hQ : ∀ h2, Mo b h2 (upd σ.1 0 (nI 0), rs (rs σ.2.1 2 (fill (σ.2.1 2) (5725 * j) 5725 (σ.2.1 1))) 3 (upd (σ.2.1 3) j (nI 1)), σ.2.2) → Same b h0 h2 → Q (some (.int (nI 0))) h2) : ∀ (n k : Nat) (h : am_H), k + n = 5725 → Mo b h (σ.1, rs σ.2.1 2 (fill (σ.2.1 2) (5725 * j) k (σ.2.1 1)), σ.2.2) → Same b h0 h → Ex 1 0 0 mX12_image 17 [.ref b, .int (nI j), .int (nI k)] [] h Q := by
  intro n
  induction n with
  | zero =>
    intro k h hk hm hs
    refine ex_iload_n dX12_image_17 rfl ?_
    refine ex_sipushN (nI 5725) dX12_image_18 (by decide) ?_
    refine ex_icmp_geN 48 dX12_image_21 (by decide) (by omega) (by omega) (fun q21 => ?_) (fun q21 => ?_)
    · skip
      obtain rfl : k = 5725 := by omega
      refine ex_aload_n dX12_image_48 rfl rfl ?_
      refine ex_getf fX12_30 dX12_image_49 hm.1 rfl ?_
      refine ex_iload_n dX12_image_52 rfl ?_
      refine ex_iconstN (nI 1) dX12_image_53 (by decide) ?_
      refine m_zst hm hs dX12_image_54 (by omega) (fun h1 hm hs => ?_)
      refine ex_aload_n dX12_image_55 rfl rfl ?_
      refine ex_iconstN (nI 0) dX12_image_56 (by decide) ?_
      refine ex_callV0 (dc := 0) (as := [.int _]) dX12_image_57 MX12_good kX12_14 iX12_good sX12_good rfl rfl hm.1 rfl rfl (Nat.le_of_ble_eq_true rfl) (Nat.le_of_ble_eq_true rfl) (by decide) (e_good _ hm) (fun r h2 q => ?_)
      obtain ⟨rfl, hm, hs2⟩ := q
      have hs := hs.tr hs2
      show Ex _ 0 0 _ _ _ (Value.int _ :: _) _ _
      refine ex_iret rfl dX12_image_60 ?_
      exact hQ _ hm hs
    · skip
      exact absurd q21 (by omega)
  | succ n ih =>
    intro k h hk hm hs
    refine ex_iload_n dX12_image_17 rfl ?_
    refine ex_sipushN (nI 5725) dX12_image_18 (by decide) ?_
    refine ex_icmp_geN 48 dX12_image_21 (by decide) (by omega) (by omega) (fun q21 => ?_) (fun q21 => ?_)
    · skip
      obtain rfl : k = 5725 := by omega
      refine ex_aload_n dX12_image_48 rfl rfl ?_
      refine ex_getf fX12_30 dX12_image_49 hm.1 rfl ?_
      refine ex_iload_n dX12_image_52 rfl ?_
      refine ex_iconstN (nI 1) dX12_image_53 (by decide) ?_
      refine m_zst hm hs dX12_image_54 (by omega) (fun h1 hm hs => ?_)
      refine ex_aload_n dX12_image_55 rfl rfl ?_
      refine ex_iconstN (nI 0) dX12_image_56 (by decide) ?_
      refine ex_callV0 (dc := 0) (as := [.int _]) dX12_image_57 MX12_good kX12_14 iX12_good sX12_good rfl rfl hm.1 rfl rfl (Nat.le_of_ble_eq_true rfl) (Nat.le_of_ble_eq_true rfl) (by decide) (e_good _ hm) (fun r h2 q => ?_)
      obtain ⟨rfl, hm, hs2⟩ := q
      have hs := hs.tr hs2
      show Ex _ 0 0 _ _ _ (Value.int _ :: _) _ _
      refine ex_iret rfl dX12_image_60 ?_
      exact hQ _ hm hs
    · skip
      refine ex_aload_n dX12_image_24 rfl rfl ?_
      refine ex_getf fX12_27 dX12_image_25 hm.1 rfl ?_
      refine ex_sipushN (nI 5725) dX12_image_28 (by decide) ?_
      refine ex_iload_n dX12_image_31 rfl ?_
      refine ex_imulN dX12_image_32 ?_
      refine ex_iload_n dX12_image_33 rfl ?_
      refine ex_iaddN dX12_image_34 ?_
      refine ex_aload_n dX12_image_35 rfl rfl ?_
      refine ex_getf fX12_24 dX12_image_36 hm.1 rfl ?_
      refine ex_iload_n dX12_image_39 rfl ?_
      refine m_ald hm dX12_image_40 (by decide) (by decide) rfl (by show _ < 5725; omega) ?_
      refine m_ast hm hs dX12_image_41 (by decide) (by decide) rfl (by show _ < 11450; omega) (fun h1 hm hs => ?_)
      refine ex_iincN 1 dX12_image_42 (by decide) rfl (by decide) ?_
      refine ex_goto 17 dX12_image_45 (by decide) ?_
      exact ih (k + 1) _ (by omega) (by rw [← fill_s, ← u2_rs]; exact hm) hs
set_option maxHeartbeats 4000000 in
set_option maxRecDepth 100000 in
theorem e_image {b : Nat} {h : am_H} {σ : am_S} (j : Nat) (hj : j < 2) (hm : Mo b h σ) : Ex 1 0 0 mX12_image 0 (am_en [.ref b, .int (nI j)] 3) [] h (fun r h2 => r = some (.int (nI 0)) ∧ Mo b h2 (upd σ.1 0 (nI 0), rs (rs σ.2.1 2 (fill (σ.2.1 2) (5725 * j) 5725 (σ.2.1 1))) 3 (upd (σ.2.1 3) j (nI 1)), σ.2.2) ∧ Same b h h2) := by
  have hs : Same b h h := Same.rf
  refine ex_iload_n dX12_image_0 rfl ?_
  refine ex_iconstN (nI 0) dX12_image_1 (by decide) ?_
  refine ex_iconstN (nI 1) dX12_image_2 (by decide) ?_
  refine ex_callS0 (dc := 0) (as := [.int _, .int _, .int _]) dX12_image_3 MX12_lies kX12_102 tX12_lies rfl rfl (Nat.le_of_ble_eq_true rfl) (Nat.le_of_ble_eq_true rfl) (by decide) (e_lies _ _ _ _) (fun r h2 q => ?_)
  obtain ⟨rfl, rfl⟩ := q
  show Ex _ 0 0 _ _ _ (Value.int _ :: _) _ _
  rw [bN_t (lies_t (by omega) (by omega) (by omega))]
  refine ex_if_neN 15 dX12_image_6 (by decide) (by omega) (fun q6 => ?_) (fun q6 => ?_)
  · skip
    refine ex_iconstN (nI 0) dX12_image_15 (by decide) ?_
    refine ex_istore_n dX12_image_16 (by decide) ?_
    exact l_image (σ := σ) hj (fun h2 hm hs => ⟨rfl, hm, hs⟩) 5725 0 _ (by omega) (by rw [fill_0, rs_self]; exact hm) hs
  · skip
    exact absurd q6 (by decide)
abbrev rfz (σ : am_S) (x : Int32) (c : Nat) : am_S := (upd σ.1 0 x, u2 σ.2.1 0 c (σ.2.1 0 c + nI 1), σ.2.2)
theorem lies_f {x : Int32} {a c n : Nat} (h : ¬ inN x n) (hc : c + 1 = n) (hn : n < 2 ^ 31) (ha : a = 0) : ¬ (nI a ≤ x ∧ x ≤ nI c) := by
  subst ha
  intro z
  obtain ⟨j, -, h2, rfl⟩ := lies_of z (by omega) (by omega)
  exact h ⟨by rw [nI_toInt (by omega)]; omega, by rw [nI_toInt (by omega)]; omega⟩
set_option maxHeartbeats 4000000 in
set_option maxRecDepth 100000 in
theorem e_image_no {b : Nat} {h : am_H} {σ : am_S} {x : Int32} (hx : ¬ inN x 2) (hm : Mo b h σ) : Ex 1 0 0 mX12_image 0 (am_en [.ref b, .int x] 3) [] h (fun r h2 => r = some (.int (-1)) ∧ Mo b h2 (rfz σ (-1) 1) ∧ Same b h h2) := by
  have hs : Same b h h := Same.rf
  refine ex_iload_n dX12_image_0 rfl ?_
  refine ex_iconstN (nI 0) dX12_image_1 (by decide) ?_
  refine ex_iconstN (nI 1) dX12_image_2 (by decide) ?_
  refine ex_callS0 (dc := 0) (as := [.int _, .int _, .int _]) dX12_image_3 MX12_lies kX12_102 tX12_lies rfl rfl (Nat.le_of_ble_eq_true rfl) (Nat.le_of_ble_eq_true rfl) (by decide) (e_lies _ _ _ _) (fun r h2 q => ?_)
  obtain ⟨rfl, rfl⟩ := q
  show Ex _ 0 0 _ _ _ (Value.int _ :: _) _ _
  rw [bN_f (lies_f hx rfl (by decide) rfl)]
  refine ex_if_neN 15 dX12_image_6 (by decide) (by omega) (fun q6 => ?_) (fun q6 => ?_)
  · skip
    exact absurd rfl q6
  · skip
    refine ex_aload_n dX12_image_9 rfl rfl ?_
    refine ex_iconstN (-1) dX12_image_10 (by decide) ?_
    refine ex_callV0 (dc := 0) (as := [.int _]) dX12_image_11 MX12_refuses kX12_106 iX12_refuses sX12_refuses rfl rfl hm.1 rfl rfl (Nat.le_of_ble_eq_true rfl) (Nat.le_of_ble_eq_true rfl) (by decide) (e_refuses (c := 1) (by decide) (by decide) hm) (fun r h2 q => ?_)
    obtain ⟨rfl, hm, hs2⟩ := q
    have hs := hs.tr hs2
    show Ex _ 0 0 _ _ _ (Value.int _ :: _) _ _
    refine ex_iret rfl dX12_image_14 ?_
    exact ⟨rfl, hm, hs⟩
set_option maxHeartbeats 4000000 in
set_option maxRecDepth 100000 in
theorem l_back {b : Nat} {h0 : am_H} {σ : am_S} {j : Nat} (hj : j < 2) {Q : Option Value → am_H → Prop} (hQ : ∀ h2, Mo b h2 (upd (upd σ.1 39 (nI 0)) 0 (nI 0), rs σ.2.1 1 (fill (σ.2.1 1) 0 5725 (fun i => σ.2.1 2 (5725 * j + i))), σ.2.2) → Same b h0 h2 → Q (some (.int (nI 0))) h2) : ∀ (n k : Nat) (h : am_H), k + n = 5725 → Mo b h (σ.1, rs σ.2.1 1 (fill (σ.2.1 1) 0 k (fun i => σ.2.1 2 (5725 * j + i))), σ.2.2) → Same b h0 h → Ex 2 0 0 mX12_back 33 [.ref b, .int (nI j), .int (nI k)] [] h Q := by
  intro n
  induction n with
  | zero =>
    intro k h hk hm hs
    refine ex_iload_n dX12_back_33 rfl ?_
    refine ex_sipushN (nI 5725) dX12_back_34 (by decide) ?_
    refine ex_icmp_geN 64 dX12_back_37 (by decide) (by omega) (by omega) (fun q37 => ?_) (fun q37 => ?_)
    · skip
      obtain rfl : k = 5725 := by omega
      refine ex_aload_n dX12_back_64 rfl rfl ?_
      refine ex_iconstN (nI 0) dX12_back_65 (by decide) ?_
      refine ex_callV0 (dc := 1) (as := [.int _]) dX12_back_66 MX12_settled kX12_109 iX12_settled sX12_settled rfl rfl hm.1 rfl rfl (Nat.le_of_ble_eq_true rfl) (Nat.le_of_ble_eq_true rfl) (by decide) (e_settled _ hm) (fun r h2 q => ?_)
      obtain ⟨rfl, hm, hs2⟩ := q
      have hs := hs.tr hs2
      show Ex _ 0 0 _ _ _ (Value.int _ :: _) _ _
      refine ex_iret rfl dX12_back_69 ?_
      exact hQ _ hm hs
    · skip
      exact absurd q37 (by omega)
  | succ n ih =>
    intro k h hk hm hs
    refine ex_iload_n dX12_back_33 rfl ?_
    refine ex_sipushN (nI 5725) dX12_back_34 (by decide) ?_
    refine ex_icmp_geN 64 dX12_back_37 (by decide) (by omega) (by omega) (fun q37 => ?_) (fun q37 => ?_)
    · skip
      obtain rfl : k = 5725 := by omega
      refine ex_aload_n dX12_back_64 rfl rfl ?_
      refine ex_iconstN (nI 0) dX12_back_65 (by decide) ?_
      refine ex_callV0 (dc := 1) (as := [.int _]) dX12_back_66 MX12_settled kX12_109 iX12_settled sX12_settled rfl rfl hm.1 rfl rfl (Nat.le_of_ble_eq_true rfl) (Nat.le_of_ble_eq_true rfl) (by decide) (e_settled _ hm) (fun r h2 q => ?_)
      obtain ⟨rfl, hm, hs2⟩ := q
      have hs := hs.tr hs2
      show Ex _ 0 0 _ _ _ (Value.int _ :: _) _ _
      refine ex_iret rfl dX12_back_69 ?_
      exact hQ _ hm hs
    · skip
      refine ex_aload_n dX12_back_40 rfl rfl ?_
      refine ex_getf fX12_24 dX12_back_41 hm.1 rfl ?_
      refine ex_iload_n dX12_back_44 rfl ?_
      refine ex_aload_n dX12_back_45 rfl rfl ?_
      refine ex_getf fX12_27 dX12_back_46 hm.1 rfl ?_
      refine ex_sipushN (nI 5725) dX12_back_49 (by decide) ?_
      refine ex_iload_n dX12_back_52 rfl ?_
      refine ex_imulN dX12_back_53 ?_
      refine ex_iload_n dX12_back_54 rfl ?_
      refine ex_iaddN dX12_back_55 ?_
      refine m_ald hm dX12_back_56 (by decide) (by decide) rfl (by show _ < 11450; omega) ?_
      refine m_ast hm hs dX12_back_57 (by decide) (by decide) rfl (by show _ < 5725; omega) (fun h1 hm hs => ?_)
      refine ex_iincN 1 dX12_back_58 (by decide) rfl (by decide) ?_
      refine ex_goto 33 dX12_back_61 (by decide) ?_
      exact ih (k + 1) _ (by omega) (by rw [← fill_s0, ← u2_rs]; exact hm) hs
set_option maxHeartbeats 4000000 in
set_option maxRecDepth 100000 in
theorem e_back {b : Nat} {h : am_H} {σ : am_S} (j : Nat) (hj : j < 2) (hi : σ.2.1 3 j = nI 1) (hm : Mo b h σ) : Ex 2 0 0 mX12_back 0 (am_en [.ref b, .int (nI j)] 3) [] h (fun r h2 => r = some (.int (nI 0)) ∧ Mo b h2 (upd (upd σ.1 39 (nI 0)) 0 (nI 0), rs σ.2.1 1 (fill (σ.2.1 1) 0 5725 (fun i => σ.2.1 2 (5725 * j + i))), σ.2.2) ∧ Same b h h2) := by
  have hs : Same b h h := Same.rf
  refine ex_iload_n dX12_back_0 rfl ?_
  refine ex_iconstN (nI 0) dX12_back_1 (by decide) ?_
  refine ex_iconstN (nI 1) dX12_back_2 (by decide) ?_
  refine ex_callS0 (dc := 0) (as := [.int _, .int _, .int _]) dX12_back_3 MX12_lies kX12_102 tX12_lies rfl rfl (Nat.le_of_ble_eq_true rfl) (Nat.le_of_ble_eq_true rfl) (by decide) (e_lies _ _ _ _) (fun r h2 q => ?_)
  obtain ⟨rfl, rfl⟩ := q
  show Ex _ 0 0 _ _ _ (Value.int _ :: _) _ _
  rw [bN_t (lies_t (by omega) (by omega) (by omega))]
  refine ex_if_neN 15 dX12_back_6 (by decide) (by omega) (fun q6 => ?_) (fun q6 => ?_)
  · skip
    refine ex_aload_n dX12_back_15 rfl rfl ?_
    refine ex_getf fX12_30 dX12_back_16 hm.1 rfl ?_
    refine ex_iload_n dX12_back_19 rfl ?_
    refine m_zld hm dX12_back_20 (by omega) ?_
    rw [hi]
    refine ex_if_neN 31 dX12_back_21 (by decide) (by omega) (fun q21 => ?_) (fun q21 => ?_)
    · skip
      refine ex_iconstN (nI 0) dX12_back_31 (by decide) ?_
      refine ex_istore_n dX12_back_32 (by decide) ?_
      exact l_back (σ := σ) hj (fun h2 hm hs => ⟨rfl, hm, hs⟩) 5725 0 _ (by omega) (by rw [fill_0, rs_self]; exact hm) hs
    · skip
      exact absurd q21 (by decide)
  · skip
    exact absurd q6 (by decide)
set_option maxHeartbeats 4000000 in
set_option maxRecDepth 100000 in
theorem e_back_none {b : Nat} {h : am_H} {σ : am_S} (j : Nat) (hj : j < 2) (hi : σ.2.1 3 j = nI 0) (hm : Mo b h σ) : Ex 1 0 0 mX12_back 0 (am_en [.ref b, .int (nI j)] 3) [] h (fun r h2 => r = some (.int (-2)) ∧ Mo b h2 (rfz σ (-2) 2) ∧ Same b h h2) := by
  have hs : Same b h h := Same.rf
  refine ex_iload_n dX12_back_0 rfl ?_
  refine ex_iconstN (nI 0) dX12_back_1 (by decide) ?_
  refine ex_iconstN (nI 1) dX12_back_2 (by decide) ?_
  refine ex_callS0 (dc := 0) (as := [.int _, .int _, .int _]) dX12_back_3 MX12_lies kX12_102 tX12_lies rfl rfl (Nat.le_of_ble_eq_true rfl) (Nat.le_of_ble_eq_true rfl) (by decide) (e_lies _ _ _ _) (fun r h2 q => ?_)
  obtain ⟨rfl, rfl⟩ := q
  show Ex _ 0 0 _ _ _ (Value.int _ :: _) _ _
  rw [bN_t (lies_t (by omega) (by omega) (by omega))]
  refine ex_if_neN 15 dX12_back_6 (by decide) (by omega) (fun q6 => ?_) (fun q6 => ?_)
  · skip
    refine ex_aload_n dX12_back_15 rfl rfl ?_
    refine ex_getf fX12_30 dX12_back_16 hm.1 rfl ?_
    refine ex_iload_n dX12_back_19 rfl ?_
    refine m_zld hm dX12_back_20 (by omega) ?_
    rw [hi]
    refine ex_if_neN 31 dX12_back_21 (by decide) (by omega) (fun q21 => ?_) (fun q21 => ?_)
    · skip
      exact absurd rfl q21
    · skip
      refine ex_aload_n dX12_back_24 rfl rfl ?_
      refine ex_bipushN (-2) dX12_back_25 (by decide) ?_
      refine ex_callV0 (dc := 0) (as := [.int _]) dX12_back_27 MX12_refuses kX12_106 iX12_refuses sX12_refuses rfl rfl hm.1 rfl rfl (Nat.le_of_ble_eq_true rfl) (Nat.le_of_ble_eq_true rfl) (by decide) (e_refuses (c := 2) (by decide) (by decide) hm) (fun r h2 q => ?_)
      obtain ⟨rfl, hm, hs2⟩ := q
      have hs := hs.tr hs2
      show Ex _ 0 0 _ _ _ (Value.int _ :: _) _ _
      refine ex_iret rfl dX12_back_30 ?_
      exact ⟨rfl, hm, hs⟩
  · skip
    exact absurd q6 (by decide)
set_option maxHeartbeats 4000000 in
set_option maxRecDepth 100000 in
theorem e_back_no {b : Nat} {h : am_H} {σ : am_S} {x : Int32} (hx : ¬ inN x 2) (hm : Mo b h σ) : Ex 1 0 0 mX12_back 0 (am_en [.ref b, .int x] 3) [] h (fun r h2 => r = some (.int (-1)) ∧ Mo b h2 (rfz σ (-1) 1) ∧ Same b h h2) := by
  have hs : Same b h h := Same.rf
  refine ex_iload_n dX12_back_0 rfl ?_
  refine ex_iconstN (nI 0) dX12_back_1 (by decide) ?_
  refine ex_iconstN (nI 1) dX12_back_2 (by decide) ?_
  refine ex_callS0 (dc := 0) (as := [.int _, .int _, .int _]) dX12_back_3 MX12_lies kX12_102 tX12_lies rfl rfl (Nat.le_of_ble_eq_true rfl) (Nat.le_of_ble_eq_true rfl) (by decide) (e_lies _ _ _ _) (fun r h2 q => ?_)
  obtain ⟨rfl, rfl⟩ := q
  show Ex _ 0 0 _ _ _ (Value.int _ :: _) _ _
  rw [bN_f (lies_f hx rfl (by decide) rfl)]
  refine ex_if_neN 15 dX12_back_6 (by decide) (by omega) (fun q6 => ?_) (fun q6 => ?_)
  · skip
    exact absurd rfl q6
  · skip
    refine ex_aload_n dX12_back_9 rfl rfl ?_
    refine ex_iconstN (-1) dX12_back_10 (by decide) ?_
    refine ex_callV0 (dc := 0) (as := [.int _]) dX12_back_11 MX12_refuses kX12_106 iX12_refuses sX12_refuses rfl rfl hm.1 rfl rfl (Nat.le_of_ble_eq_true rfl) (Nat.le_of_ble_eq_true rfl) (by decide) (e_refuses (c := 1) (by decide) (by decide) hm) (fun r h2 q => ?_)
    obtain ⟨rfl, hm, hs2⟩ := q
    have hs := hs.tr hs2
    show Ex _ 0 0 _ _ _ (Value.int _ :: _) _ _
    refine ex_iret rfl dX12_back_14 ?_
    exact ⟨rfl, hm, hs⟩
