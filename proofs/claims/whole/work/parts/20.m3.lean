/-! THE REFERENCE: rows filled and turned -/
def rs (A : Nat → Nat → Int32) (r : Nat) (f : Nat → Int32) : Nat → Nat → Int32 := fun q => if q = r then f else A q
theorem rs_at (A : Nat → Nat → Int32) (r : Nat) (f : Nat → Int32) : rs A r f r = f := if_pos rfl
theorem rs_ne {A : Nat → Nat → Int32} {r q : Nat} {f : Nat → Int32} (h : q ≠ r) : rs A r f q = A q := if_neg h
theorem rs_self (A : Nat → Nat → Int32) (r : Nat) : rs A r (A r) = A := by
  funext q
  by_cases h : q = r
  · subst h; exact rs_at _ _ _
  · exact rs_ne h
theorem rs_rs (A : Nat → Nat → Int32) (r : Nat) (f g : Nat → Int32) : rs (rs A r f) r g = rs A r g := by
  funext q
  by_cases h : q = r
  · subst h; rw [rs_at, rs_at]
  · rw [rs_ne h, rs_ne h, rs_ne h]
theorem u2_eq (A : Nat → Nat → Int32) (r i : Nat) (x : Int32) : u2 A r i x = rs A r (upd (A r) i x) := rfl
theorem u2_rs (A : Nat → Nat → Int32) (r i : Nat) (f : Nat → Int32) (x : Int32) : u2 (rs A r f) r i x = rs A r (upd f i x) := by
  rw [u2_eq, rs_at, rs_rs]
theorem rs_cm {A : Nat → Nat → Int32} {r q : Nat} {f g : Nat → Int32} (h : r ≠ q) : rs (rs A r f) q g = rs (rs A q g) r f := by
  funext z
  by_cases h1 : z = q
  · subst h1; rw [rs_at, rs_ne (fun e => h e.symm), rs_at]
  · rw [rs_ne h1]
    by_cases h2 : z = r
    · subst h2; rw [rs_at, rs_at]
    · rw [rs_ne h2, rs_ne h2, rs_ne h1]
def fill (f : Nat → Int32) (off k : Nat) (s : Nat → Int32) : Nat → Int32 := fun i => if off ≤ i ∧ i < off + k then s (i - off) else f i
theorem fill_0 (f : Nat → Int32) (off : Nat) (s : Nat → Int32) : fill f off 0 s = f := by
  funext i
  exact if_neg (by omega)
theorem fill_s (f : Nat → Int32) (off k : Nat) (s : Nat → Int32) : upd (fill f off k s) (off + k) (s k) = fill f off (k + 1) s := by
  funext i
  by_cases h : i = off + k
  · subst h
    rw [pk_us]
    unfold fill
    rw [if_pos (by omega), show off + k - off = k by omega]
  · rw [pk_un h]
    unfold fill
    by_cases h2 : off ≤ i ∧ i < off + k
    · rw [if_pos h2, if_pos (by omega)]
    · rw [if_neg h2, if_neg (by omega)]
theorem fill_s0 (f : Nat → Int32) (k : Nat) (s : Nat → Int32) : upd (fill f 0 k s) k (s k) = fill f 0 (k + 1) s := by
  have := fill_s f 0 k s
  rw [Nat.zero_add] at this
  exact this
set_option maxHeartbeats 4000000 in
set_option maxRecDepth 100000 in
theorem l_takes {b : Nat} {h0 : am_H} {σ : am_S} {j : Nat} (hj : j < 6) {Q : Option Value → am_H → Prop} (hQ : ∀ h2, Mo b h2 (σ.1, rs σ.2.1 13 (fill (σ.2.1 13) 0 13 (fun i => σ.2.1 1 (16 * j + 3 + i))), σ.2.2) → Same b h0 h2 → Q none h2) : ∀ (n k : Nat) (h : am_H), k + n = 13 → Mo b h (σ.1, rs σ.2.1 13 (fill (σ.2.1 13) 0 k (fun i => σ.2.1 1 (16 * j + 3 + i))), σ.2.2) → Same b h0 h → Ex 2 0 0 mX12_takes 31 [.ref b, .int (nI j), .int (nI k)] [] h Q := by
  intro n
  induction n with
  | zero =>
    intro k h hk hm hs
    refine ex_iload_n dX12_takes_31 rfl ?_
    refine ex_bipushN (nI 13) dX12_takes_32 (by decide) ?_
    refine ex_icmp_geN 55 dX12_takes_34 (by decide) (by omega) (by omega) (fun q34 => ?_) (fun q34 => ?_)
    · skip
      obtain rfl : k = 13 := by omega
      refine ex_vret rfl dX12_takes_55 ?_
      exact hQ _ hm hs
    · skip
      exact absurd q34 (by omega)
  | succ n ih =>
    intro k h hk hm hs
    refine ex_iload_n dX12_takes_31 rfl ?_
    refine ex_bipushN (nI 13) dX12_takes_32 (by decide) ?_
    refine ex_icmp_geN 55 dX12_takes_34 (by decide) (by omega) (by omega) (fun q34 => ?_) (fun q34 => ?_)
    · skip
      obtain rfl : k = 13 := by omega
      refine ex_vret rfl dX12_takes_55 ?_
      exact hQ _ hm hs
    · skip
      refine ex_aload_n dX12_takes_37 rfl rfl ?_
      refine ex_getf fX12_65 dX12_takes_38 hm.1 rfl ?_
      refine ex_iload_n dX12_takes_41 rfl ?_
      refine ex_aload_n dX12_takes_42 rfl rfl ?_
      refine ex_iload_n dX12_takes_43 rfl ?_
      refine ex_iload_n dX12_takes_44 rfl ?_
      refine ex_callV0 (dc := 1) (as := [.int _, .int _]) dX12_takes_45 MX12_cardOf kX12_280 iX12_cardOf sX12_cardOf rfl rfl hm.1 rfl rfl (Nat.le_of_ble_eq_true rfl) (Nat.le_of_ble_eq_true rfl) (by decide) (e_cardOf _ _ hj (by omega) hm) (fun r h2 q => ?_)
      obtain ⟨rfl, rfl⟩ := q
      show Ex _ 0 0 _ _ _ (Value.int _ :: _) _ _
      refine m_ast hm hs dX12_takes_48 (by decide) (by decide) rfl (by show _ < 13; omega) (fun h1 hm hs => ?_)
      refine ex_iincN 1 dX12_takes_49 (by decide) rfl (by decide) ?_
      refine ex_goto 31 dX12_takes_52 (by decide) ?_
      exact ih (k + 1) _ (by omega) (by rw [← fill_s0, ← u2_rs]; exact hm) hs
set_option maxHeartbeats 4000000 in
set_option maxRecDepth 100000 in
theorem e_takes {b : Nat} {h : am_H} {σ : am_S} (j : Nat) (hj : j < 6) (hm : Mo b h σ) : Ex 2 0 0 mX12_takes 0 (am_en [.ref b, .int (nI j)] 3) [] h (fun r h2 => r = none ∧ Mo b h2 ((upd (upd (upd σ.1 31 (σ.2.1 1 (16 * j))) 32 (σ.2.1 1 (16 * j + 2))) 33 (nI j)), rs σ.2.1 13 (fill (σ.2.1 13) 0 13 (fun i => σ.2.1 1 (16 * j + 3 + i))), σ.2.2) ∧ Same b h h2) := by
  have hs : Same b h h := Same.rf
  refine ex_aload_n dX12_takes_0 rfl rfl ?_
  refine ex_aload_n dX12_takes_1 rfl rfl ?_
  refine ex_iload_n dX12_takes_2 rfl ?_
  refine ex_callV0 (dc := 1) (as := [.int _]) dX12_takes_3 MX12_manyIn kX12_316 iX12_manyIn sX12_manyIn rfl rfl hm.1 rfl rfl (Nat.le_of_ble_eq_true rfl) (Nat.le_of_ble_eq_true rfl) (by decide) (e_manyIn _ hj hm) (fun r h2 q => ?_)
  obtain ⟨rfl, rfl⟩ := q
  show Ex _ 0 0 _ _ _ (Value.int _ :: _) _ _
  refine m_put hm hs pX12_130 dX12_takes_6 (by decide) (ms31 _ _ _) (fun h1 hm hs => ?_)
  refine ex_aload_n dX12_takes_9 rfl rfl ?_
  refine ex_aload_n dX12_takes_10 rfl rfl ?_
  refine ex_getf fX12_24 dX12_takes_11 hm.1 rfl ?_
  refine ex_iload_n dX12_takes_14 rfl ?_
  refine ex_callS0 (dc := 0) (as := [.int _]) dX12_takes_15 MX12_placeOf kX12_112 tX12_placeOf rfl rfl (Nat.le_of_ble_eq_true rfl) (Nat.le_of_ble_eq_true rfl) (by decide) (e_placeOf _ _) (fun r h2 q => ?_)
  obtain ⟨rfl, rfl⟩ := q
  show Ex _ 0 0 _ _ _ (Value.int _ :: _) _ _
  rw [pl_nI]
  refine ex_iconstN (nI 2) dX12_takes_18 (by decide) ?_
  refine ex_iaddN dX12_takes_19 ?_
  refine m_ald hm dX12_takes_20 (by decide) (by decide) rfl (by show _ < 5725; omega) ?_
  refine m_put hm hs pX12_133 dX12_takes_21 (by decide) (ms32 _ _ _) (fun h1 hm hs => ?_)
  refine ex_aload_n dX12_takes_24 rfl rfl ?_
  refine ex_iload_n dX12_takes_25 rfl ?_
  refine m_put hm hs pX12_313 dX12_takes_26 (by decide) (ms33 _ _ _) (fun h1 hm hs => ?_)
  refine ex_iconstN (nI 0) dX12_takes_29 (by decide) ?_
  refine ex_istore_n dX12_takes_30 (by decide) ?_
  exact l_takes (σ := ((upd (upd (upd σ.1 31 (σ.2.1 1 (16 * j))) 32 (σ.2.1 1 (16 * j + 2))) 33 (nI j)), σ.2)) hj (fun h2 hm hs => ⟨rfl, hm, hs⟩) 13 0 _ rfl (by rw [fill_0, rs_self]; exact hm) hs
def rv (c : Nat → Int32) (m : Nat) : Nat → Int32 := fun i => if i < m then c (m - 1 - i) else c i
def rvk (c : Nat → Int32) (m k : Nat) : Nat → Int32 := fun i => if i < k ∨ (m ≤ i + k ∧ i < m) then c (m - 1 - i) else c i
theorem rvk_0 (c : Nat → Int32) (m : Nat) : rvk c m 0 = c := by
  funext i
  exact if_neg (by omega)
theorem rvk_s {c : Nat → Int32} {m k : Nat} (h : 2 * k + 1 < m) : upd (upd (rvk c m k) k (rvk c m k (m - 1 - k))) (m - 1 - k) (rvk c m k k) = rvk c m (k + 1) := by
  have e1 : rvk c m k (m - 1 - k) = c (m - 1 - k) := if_neg (by omega)
  have e2 : rvk c m k k = c k := if_neg (by omega)
  rw [e1, e2]
  funext i
  by_cases h1 : i = m - 1 - k
  · subst h1
    rw [pk_us]
    unfold rvk
    rw [if_pos (by omega)]
    congr 1
    omega
  · rw [pk_un h1]
    by_cases h2 : i = k
    · subst h2
      rw [pk_us]
      unfold rvk
      rw [if_pos (by omega)]
    · rw [pk_un h2]
      unfold rvk
      by_cases h3 : i < k ∨ (m ≤ i + k ∧ i < m)
      · rw [if_pos h3, if_pos (by omega)]
      · rw [if_neg h3, if_neg (by omega)]
theorem rvk_e {c : Nat → Int32} {m k : Nat} (h : m ≤ 2 * k + 1) (h2 : 2 * k ≤ m) : rvk c m k = rv c m := by
  funext i
  unfold rvk rv
  by_cases h3 : i < m
  · rw [if_pos h3]
    by_cases h4 : i < k ∨ (m ≤ i + k ∧ i < m)
    · rw [if_pos h4]
    · rw [if_neg h4]
      congr 1
      omega
  · rw [if_neg h3, if_neg (by omega)]
set_option maxHeartbeats 4000000 in
set_option maxRecDepth 100000 in
theorem l_turns {b : Nat} {h0 : am_H} {σ : am_S} {m : Nat} (hm13 : m ≤ 13) {Q : Option Value → am_H → Prop} (hQ : ∀ h2, Mo b h2 (σ.1, rs σ.2.1 13 (rv (σ.2.1 13) m), σ.2.2) → Same b h0 h2 → Q none h2) : ∀ (n k : Nat) (h : am_H), k + n = m + 1 → ∀ x3, 2 * k ≤ m → Mo b h (σ.1, rs σ.2.1 13 (rvk (σ.2.1 13) m k), σ.2.2) → Same b h0 h → Ex 0 0 0 mX12_turns 2 [.ref b, .int (nI m), .int (nI k), x3] [] h Q := by
  intro n
  induction n with
  | zero =>
    intro k h hk x3 h2k hm hs
    refine ex_iconstN (nI 2) dX12_turns_2 (by decide) ?_
    refine ex_iload_n dX12_turns_3 rfl ?_
    refine ex_imulN dX12_turns_4 ?_
    refine ex_iconstN (nI 1) dX12_turns_5 (by decide) ?_
    refine ex_iaddN dX12_turns_6 ?_
    refine ex_iload_n dX12_turns_7 rfl ?_
    refine ex_icmp_geN 51 dX12_turns_8 (by decide) (by omega) (by omega) (fun q8 => ?_) (fun q8 => ?_)
    · skip
      refine ex_vret rfl dX12_turns_51 ?_
      exact hQ _ (by rw [← rvk_e (by omega) h2k]; exact hm) hs
    · skip
      exact absurd q8 (by omega)
  | succ n ih =>
    intro k h hk x3 h2k hm hs
    refine ex_iconstN (nI 2) dX12_turns_2 (by decide) ?_
    refine ex_iload_n dX12_turns_3 rfl ?_
    refine ex_imulN dX12_turns_4 ?_
    refine ex_iconstN (nI 1) dX12_turns_5 (by decide) ?_
    refine ex_iaddN dX12_turns_6 ?_
    refine ex_iload_n dX12_turns_7 rfl ?_
    refine ex_icmp_geN 51 dX12_turns_8 (by decide) (by omega) (by omega) (fun q8 => ?_) (fun q8 => ?_)
    · skip
      refine ex_vret rfl dX12_turns_51 ?_
      exact hQ _ (by rw [← rvk_e (by omega) h2k]; exact hm) hs
    · skip
      refine ex_aload_n dX12_turns_11 rfl rfl ?_
      refine ex_getf fX12_65 dX12_turns_12 hm.1 rfl ?_
      refine ex_iload_n dX12_turns_15 rfl ?_
      refine m_ald hm dX12_turns_16 (by decide) (by decide) rfl (by show _ < 13; omega) ?_
      refine ex_istore_n dX12_turns_17 (by decide) ?_
      refine ex_aload_n dX12_turns_18 rfl rfl ?_
      refine ex_getf fX12_65 dX12_turns_19 hm.1 rfl ?_
      refine ex_iload_n dX12_turns_22 rfl ?_
      refine ex_aload_n dX12_turns_23 rfl rfl ?_
      refine ex_getf fX12_65 dX12_turns_24 hm.1 rfl ?_
      refine ex_iload_n dX12_turns_27 rfl ?_
      refine ex_iconstN (nI 1) dX12_turns_28 (by decide) ?_
      refine ex_isubN dX12_turns_29 (by omega) ?_
      refine ex_iload_n dX12_turns_30 rfl ?_
      refine ex_isubN dX12_turns_31 (by omega) ?_
      refine m_ald hm dX12_turns_32 (by decide) (by decide) rfl (by show _ < 13; omega) ?_
      refine m_ast hm hs dX12_turns_33 (by decide) (by decide) rfl (by show _ < 13; omega) (fun h1 hm hs => ?_)
      refine ex_aload_n dX12_turns_34 rfl rfl ?_
      refine ex_getf fX12_65 dX12_turns_35 hm.1 rfl ?_
      refine ex_iload_n dX12_turns_38 rfl ?_
      refine ex_iconstN (nI 1) dX12_turns_39 (by decide) ?_
      refine ex_isubN dX12_turns_40 (by omega) ?_
      refine ex_iload_n dX12_turns_41 rfl ?_
      refine ex_isubN dX12_turns_42 (by omega) ?_
      refine ex_iload_n dX12_turns_43 rfl ?_
      refine m_ast hm hs dX12_turns_44 (by decide) (by decide) rfl (by show _ < 13; omega) (fun h1 hm hs => ?_)
      refine ex_iincN 1 dX12_turns_45 (by decide) rfl (by decide) ?_
      refine ex_goto 2 dX12_turns_48 (by decide) ?_
      exact ih (k + 1) _ (by omega) _ (by omega) (by rw [← rvk_s (by omega), ← u2_rs, ← u2_rs]; exact hm) hs
