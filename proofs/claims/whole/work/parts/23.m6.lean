/-! THE REFERENCE: rows on paper, swaps and cuts -/
set_option maxHeartbeats 4000000 in
set_option maxRecDepth 100000 in
theorem l_takesRow {b : Nat} {h0 : am_H} {σ : am_S} {m : Nat} (h41 : σ.1 41 = nI m) (hm7 : m ≤ 7) {x : Int32} {Q : Option Value → am_H → Prop} (hQ : ∀ h2, Mo b h2 (σ.1, rs σ.2.1 13 (fill (σ.2.1 13) 0 m (σ.2.1 18)), σ.2.2) → Same b h0 h2 → Q none h2) : ∀ (n k : Nat) (h : am_H), k + n = m → Mo b h (σ.1, rs σ.2.1 13 (fill (σ.2.1 13) 0 k (σ.2.1 18)), σ.2.2) → Same b h0 h → Ex 0 0 0 mX12_takesRow 20 [.ref b, .int x, .int (nI k)] [] h Q := by
  intro n
  induction n with
  | zero =>
    intro k h hk hm hs
    refine ex_iload_n dX12_takesRow_20 rfl ?_
    refine ex_aload_n dX12_takesRow_21 rfl rfl ?_
    refine ex_getf fX12_378 dX12_takesRow_22 hm.1 (congrArg (fun z => some (Value.int z)) h41) ?_
    refine ex_icmp_geN 46 dX12_takesRow_25 (by decide) (by omega) (by omega) (fun q25 => ?_) (fun q25 => ?_)
    · skip
      obtain rfl : k = m := by omega
      refine ex_vret rfl dX12_takesRow_46 ?_
      exact hQ _ hm hs
    · skip
      exact absurd q25 (by omega)
  | succ n ih =>
    intro k h hk hm hs
    refine ex_iload_n dX12_takesRow_20 rfl ?_
    refine ex_aload_n dX12_takesRow_21 rfl rfl ?_
    refine ex_getf fX12_378 dX12_takesRow_22 hm.1 (congrArg (fun z => some (Value.int z)) h41) ?_
    refine ex_icmp_geN 46 dX12_takesRow_25 (by decide) (by omega) (by omega) (fun q25 => ?_) (fun q25 => ?_)
    · skip
      obtain rfl : k = m := by omega
      refine ex_vret rfl dX12_takesRow_46 ?_
      exact hQ _ hm hs
    · skip
      refine ex_aload_n dX12_takesRow_28 rfl rfl ?_
      refine ex_getf fX12_65 dX12_takesRow_29 hm.1 rfl ?_
      refine ex_iload_n dX12_takesRow_32 rfl ?_
      refine ex_aload_n dX12_takesRow_33 rfl rfl ?_
      refine ex_getf fX12_80 dX12_takesRow_34 hm.1 rfl ?_
      refine ex_iload_n dX12_takesRow_37 rfl ?_
      refine m_ald hm dX12_takesRow_38 (by decide) (by decide) rfl (by show _ < 7; omega) ?_
      refine m_ast hm hs dX12_takesRow_39 (by decide) (by decide) rfl (by show _ < 13; omega) (fun h1 hm hs => ?_)
      refine ex_iincN 1 dX12_takesRow_40 (by decide) rfl (by decide) ?_
      refine ex_goto 20 dX12_takesRow_43 (by decide) ?_
      exact ih (k + 1) _ (by omega) (by rw [← fill_s0, ← u2_rs]; exact hm) hs
set_option maxHeartbeats 4000000 in
set_option maxRecDepth 100000 in
theorem e_takesRow {b : Nat} {h : am_H} {σ : am_S} (x : Int32) {m : Nat} (h41 : σ.1 41 = nI m) (hm7 : m ≤ 7) (hm : Mo b h σ) : Ex 0 0 0 mX12_takesRow 0 (am_en [.ref b, .int x] 3) [] h (fun r h2 => r = none ∧ Mo b h2 ((upd (upd (upd σ.1 31 (nI m)) 32 (nI 0)) 33 x), rs σ.2.1 13 (fill (σ.2.1 13) 0 m (σ.2.1 18)), σ.2.2) ∧ Same b h h2) := by
  have hs : Same b h h := Same.rf
  refine ex_aload_n dX12_takesRow_0 rfl rfl ?_
  refine ex_aload_n dX12_takesRow_1 rfl rfl ?_
  refine ex_getf fX12_378 dX12_takesRow_2 hm.1 (congrArg (fun z => some (Value.int z)) h41) ?_
  refine m_put hm hs pX12_130 dX12_takesRow_5 (by decide) (ms31 _ _ _) (fun h1 hm hs => ?_)
  refine ex_aload_n dX12_takesRow_8 rfl rfl ?_
  refine ex_iconstN (nI 0) dX12_takesRow_9 (by decide) ?_
  refine m_put hm hs pX12_133 dX12_takesRow_10 (by decide) (ms32 _ _ _) (fun h1 hm hs => ?_)
  refine ex_aload_n dX12_takesRow_13 rfl rfl ?_
  refine ex_iload_n dX12_takesRow_14 rfl ?_
  refine m_put hm hs pX12_313 dX12_takesRow_15 (by decide) (ms33 _ _ _) (fun h1 hm hs => ?_)
  refine ex_iconstN (nI 0) dX12_takesRow_18 (by decide) ?_
  refine ex_istore_n dX12_takesRow_19 (by decide) ?_
  exact l_takesRow (σ := ((upd (upd (upd σ.1 31 (nI m)) 32 (nI 0)) 33 x), σ.2)) h41 hm7 (fun h2 hm hs => ⟨rfl, hm, hs⟩) m 0 _ (by omega) (by rw [fill_0, rs_self]; exact hm) hs
set_option maxHeartbeats 4000000 in
set_option maxRecDepth 100000 in
theorem l_finds {b : Nat} {h0 : am_H} {σ : am_S} {m : Nat} (h41 : σ.1 41 = nI m) (hm7 : m ≤ 7) {Q : Option Value → am_H → Prop} (hQ : ∀ h2, Mo b h2 (σ.1, rs σ.2.1 19 (fill (σ.2.1 19) 0 m (σ.2.1 18)), σ.2.2) → Same b h0 h2 → Q none h2) : ∀ (n k : Nat) (h : am_H), k + n = m → Mo b h (σ.1, rs σ.2.1 19 (fill (σ.2.1 19) 0 k (σ.2.1 18)), σ.2.2) → Same b h0 h → Ex 0 0 0 mX12_finds 2 [.ref b, .int (nI k)] [] h Q := by
  intro n
  induction n with
  | zero =>
    intro k h hk hm hs
    refine ex_iload_n dX12_finds_2 rfl ?_
    refine ex_aload_n dX12_finds_3 rfl rfl ?_
    refine ex_getf fX12_378 dX12_finds_4 hm.1 (congrArg (fun z => some (Value.int z)) h41) ?_
    refine ex_icmp_geN 28 dX12_finds_7 (by decide) (by omega) (by omega) (fun q7 => ?_) (fun q7 => ?_)
    · skip
      obtain rfl : k = m := by omega
      refine ex_vret rfl dX12_finds_28 ?_
      exact hQ _ hm hs
    · skip
      exact absurd q7 (by omega)
  | succ n ih =>
    intro k h hk hm hs
    refine ex_iload_n dX12_finds_2 rfl ?_
    refine ex_aload_n dX12_finds_3 rfl rfl ?_
    refine ex_getf fX12_378 dX12_finds_4 hm.1 (congrArg (fun z => some (Value.int z)) h41) ?_
    refine ex_icmp_geN 28 dX12_finds_7 (by decide) (by omega) (by omega) (fun q7 => ?_) (fun q7 => ?_)
    · skip
      obtain rfl : k = m := by omega
      refine ex_vret rfl dX12_finds_28 ?_
      exact hQ _ hm hs
    · skip
      refine ex_aload_n dX12_finds_10 rfl rfl ?_
      refine ex_getf fX12_83 dX12_finds_11 hm.1 rfl ?_
      refine ex_iload_n dX12_finds_14 rfl ?_
      refine ex_aload_n dX12_finds_15 rfl rfl ?_
      refine ex_getf fX12_80 dX12_finds_16 hm.1 rfl ?_
      refine ex_iload_n dX12_finds_19 rfl ?_
      refine m_ald hm dX12_finds_20 (by decide) (by decide) rfl (by show _ < 7; omega) ?_
      refine m_ast hm hs dX12_finds_21 (by decide) (by decide) rfl (by show _ < 7; omega) (fun h1 hm hs => ?_)
      refine ex_iincN 1 dX12_finds_22 (by decide) rfl (by decide) ?_
      refine ex_goto 2 dX12_finds_25 (by decide) ?_
      exact ih (k + 1) _ (by omega) (by rw [← fill_s0, ← u2_rs]; exact hm) hs
set_option maxHeartbeats 4000000 in
set_option maxRecDepth 100000 in
theorem e_finds {b : Nat} {h : am_H} {σ : am_S} {m : Nat} (h41 : σ.1 41 = nI m) (hm7 : m ≤ 7) (hm : Mo b h σ) : Ex 0 0 0 mX12_finds 0 (am_en [.ref b] 2) [] h (fun r h2 => r = none ∧ Mo b h2 (σ.1, rs σ.2.1 19 (fill (σ.2.1 19) 0 m (σ.2.1 18)), σ.2.2) ∧ Same b h h2) := by
  have hs : Same b h h := Same.rf
  refine ex_iconstN (nI 0) dX12_finds_0 (by decide) ?_
  refine ex_istore_n dX12_finds_1 (by decide) ?_
  exact l_finds (σ := σ) h41 hm7 (fun h2 hm hs => ⟨rfl, hm, hs⟩) m 0 _ (by omega) (by rw [fill_0, rs_self]; exact hm) hs
set_option maxHeartbeats 4000000 in
set_option maxRecDepth 100000 in
theorem l_firstOrder {b : Nat} {h0 : am_H} {σ : am_S} {m : Nat} (hm7 : m ≤ 7) {Q : Option Value → am_H → Prop} (hQ : ∀ h2, Mo b h2 (σ.1, rs σ.2.1 18 (fill (σ.2.1 18) 0 m (fun i => nI (i + 1))), σ.2.2) → Same b h0 h2 → Q none h2) : ∀ (n k : Nat) (h : am_H), k + n = m → Mo b h (σ.1, rs σ.2.1 18 (fill (σ.2.1 18) 0 k (fun i => nI (i + 1))), σ.2.2) → Same b h0 h → Ex 0 0 0 mX12_firstOrder 7 [.ref b, .int (nI m), .int (nI k)] [] h Q := by
  intro n
  induction n with
  | zero =>
    intro k h hk hm hs
    refine ex_iload_n dX12_firstOrder_7 rfl ?_
    refine ex_iload_n dX12_firstOrder_8 rfl ?_
    refine ex_icmp_geN 27 dX12_firstOrder_9 (by decide) (by omega) (by omega) (fun q9 => ?_) (fun q9 => ?_)
    · skip
      obtain rfl : k = m := by omega
      refine ex_vret rfl dX12_firstOrder_27 ?_
      exact hQ _ hm hs
    · skip
      exact absurd q9 (by omega)
  | succ n ih =>
    intro k h hk hm hs
    refine ex_iload_n dX12_firstOrder_7 rfl ?_
    refine ex_iload_n dX12_firstOrder_8 rfl ?_
    refine ex_icmp_geN 27 dX12_firstOrder_9 (by decide) (by omega) (by omega) (fun q9 => ?_) (fun q9 => ?_)
    · skip
      obtain rfl : k = m := by omega
      refine ex_vret rfl dX12_firstOrder_27 ?_
      exact hQ _ hm hs
    · skip
      refine ex_aload_n dX12_firstOrder_12 rfl rfl ?_
      refine ex_getf fX12_80 dX12_firstOrder_13 hm.1 rfl ?_
      refine ex_iload_n dX12_firstOrder_16 rfl ?_
      refine ex_iload_n dX12_firstOrder_17 rfl ?_
      refine ex_iconstN (nI 1) dX12_firstOrder_18 (by decide) ?_
      refine ex_iaddN dX12_firstOrder_19 ?_
      refine m_ast hm hs dX12_firstOrder_20 (by decide) (by decide) rfl (by show _ < 7; omega) (fun h1 hm hs => ?_)
      refine ex_iincN 1 dX12_firstOrder_21 (by decide) rfl (by decide) ?_
      refine ex_goto 7 dX12_firstOrder_24 (by decide) ?_
      exact ih (k + 1) _ (by omega) (by rw [← fill_s0, ← u2_rs]; exact hm) hs
set_option maxHeartbeats 4000000 in
set_option maxRecDepth 100000 in
theorem e_firstOrder {b : Nat} {h : am_H} {σ : am_S} (m : Nat) (hm7 : m ≤ 7) (hm : Mo b h σ) : Ex 0 0 0 mX12_firstOrder 0 (am_en [.ref b, .int (nI m)] 3) [] h (fun r h2 => r = none ∧ Mo b h2 (upd σ.1 41 (nI m), rs σ.2.1 18 (fill (σ.2.1 18) 0 m (fun i => nI (i + 1))), σ.2.2) ∧ Same b h h2) := by
  have hs : Same b h h := Same.rf
  refine ex_aload_n dX12_firstOrder_0 rfl rfl ?_
  refine ex_iload_n dX12_firstOrder_1 rfl ?_
  refine m_put hm hs pX12_378 dX12_firstOrder_2 (by decide) (ms41 _ _ _) (fun h1 hm hs => ?_)
  refine ex_iconstN (nI 0) dX12_firstOrder_5 (by decide) ?_
  refine ex_istore_n dX12_firstOrder_6 (by decide) ?_
  exact l_firstOrder (σ := (upd σ.1 41 (nI m), σ.2)) hm7 (fun h2 hm hs => ⟨rfl, hm, hs⟩) m 0 _ (by omega) (by rw [fill_0, rs_self]; exact hm) hs
def ris (c : Nat → Int32) : Nat → Bool
  | 0 => true
  | k + 1 => ris c k && (decide (k = 0) || decide (c (k - 1) ≤ c k))
theorem ris_s {c : Nat → Int32} {k : Nat} : ris c (k + 1) = true ↔ (ris c k = true ∧ (k = 0 ∨ c (k - 1) ≤ c k)) := by simp [ris]
set_option maxHeartbeats 4000000 in
set_option maxRecDepth 100000 in
theorem l_rises {b : Nat} {h0 : am_H} {σ : am_S} {m : Nat} (h31 : σ.1 31 = nI m) (hm13 : m ≤ 13) {Q : Option Value → am_H → Prop} (hQ : ∀ h2, Mo b h2 σ → Same b h0 h2 → Q (some (.int (nI (bN (ris (σ.2.1 13) m = true))))) h2) : ∀ (n k : Nat) (h : am_H), k + n = m → ∀ z, 1 ≤ k → z = bN (ris (σ.2.1 13) k = true) → Mo b h σ → Same b h0 h → Ex 0 0 0 mX12_rises 4 [.ref b, .int (nI z), .int (nI k)] [] h Q := by
  intro n
  induction n with
  | zero =>
    intro k h hk z hk1 hz hm hs
    refine ex_iload_n dX12_rises_4 rfl ?_
    refine ex_aload_n dX12_rises_5 rfl rfl ?_
    refine ex_getf fX12_130 dX12_rises_6 hm.1 (congrArg (fun z => some (Value.int z)) h31) ?_
    refine ex_icmp_geN 45 dX12_rises_9 (by decide) (by first | omega | (subst hz; exact bN_lt) | exact bN_lt) (by first | omega | (subst hz; exact bN_lt) | exact bN_lt) (fun q9 => ?_) (fun q9 => ?_)
    · skip
      obtain rfl : k = m := by omega
      subst hz
      refine ex_iload_n dX12_rises_45 rfl ?_
      refine ex_zret rfl (by first | exact bN_z | rfl | decide | assumption) dX12_rises_46 ?_
      exact hQ _ hm hs
    · skip
      exact absurd q9 (by omega)
  | succ n ih =>
    intro k h hk z hk1 hz hm hs
    refine ex_iload_n dX12_rises_4 rfl ?_
    refine ex_aload_n dX12_rises_5 rfl rfl ?_
    refine ex_getf fX12_130 dX12_rises_6 hm.1 (congrArg (fun z => some (Value.int z)) h31) ?_
    refine ex_icmp_geN 45 dX12_rises_9 (by decide) (by first | omega | (subst hz; exact bN_lt) | exact bN_lt) (by first | omega | (subst hz; exact bN_lt) | exact bN_lt) (fun q9 => ?_) (fun q9 => ?_)
    · skip
      obtain rfl : k = m := by omega
      subst hz
      refine ex_iload_n dX12_rises_45 rfl ?_
      refine ex_zret rfl (by first | exact bN_z | rfl | decide | assumption) dX12_rises_46 ?_
      exact hQ _ hm hs
    · skip
      refine ex_iload_n dX12_rises_12 rfl ?_
      refine ex_if_eqN 37 dX12_rises_13 (by decide) (by first | omega | (subst hz; exact bN_lt) | exact bN_lt) (fun q13 => ?_) (fun q13 => ?_)
      · skip
        refine ex_iconstN (nI 0) dX12_rises_37 (by decide) ?_
        refine ex_istore_n dX12_rises_38 (by decide) ?_
        refine ex_iincN 1 dX12_rises_39 (by decide) rfl (by decide) ?_
        refine ex_goto 4 dX12_rises_42 (by decide) ?_
        exact ih (k + 1) _ (by omega) _ (by omega) (by first | (rw [bN_t (ris_s.mpr ⟨bN_n.mp (by rw [← hz]; assumption), Or.inr (Int32.not_lt.mp (by assumption))⟩)]) | (rw [bN_f (fun y => by first | exact bN_0.mp (hz.symm.trans (by assumption)) (ris_s.mp y).1 | exact (by rcases (ris_s.mp y).2 with e | e; exact absurd e (by omega); exact absurd e (Int32.not_le.mpr (by assumption))))])) hm hs
      · skip
        refine ex_aload_n dX12_rises_16 rfl rfl ?_
        refine ex_getf fX12_65 dX12_rises_17 hm.1 rfl ?_
        refine ex_iload_n dX12_rises_20 rfl ?_
        refine ex_iconstN (nI 1) dX12_rises_21 (by decide) ?_
        refine ex_isubN dX12_rises_22 (by first | omega | (subst hz; exact bN_lt) | exact bN_lt) ?_
        refine m_ald hm dX12_rises_23 (by decide) (by decide) rfl (by show _ < 13; first | omega | (subst hz; exact bN_lt) | exact bN_lt) ?_
        refine ex_aload_n dX12_rises_24 rfl rfl ?_
        refine ex_getf fX12_65 dX12_rises_25 hm.1 rfl ?_
        refine ex_iload_n dX12_rises_28 rfl ?_
        refine m_ald hm dX12_rises_29 (by decide) (by decide) rfl (by show _ < 13; first | omega | (subst hz; exact bN_lt) | exact bN_lt) ?_
        refine ex_icmp_gt 37 dX12_rises_30 (by decide) (fun q30 => ?_) (fun q30 => ?_)
        · skip
          refine ex_iconstN (nI 0) dX12_rises_37 (by decide) ?_
          refine ex_istore_n dX12_rises_38 (by decide) ?_
          refine ex_iincN 1 dX12_rises_39 (by decide) rfl (by decide) ?_
          refine ex_goto 4 dX12_rises_42 (by decide) ?_
          exact ih (k + 1) _ (by omega) _ (by omega) (by first | (rw [bN_t (ris_s.mpr ⟨bN_n.mp (by rw [← hz]; assumption), Or.inr (Int32.not_lt.mp (by assumption))⟩)]) | (rw [bN_f (fun y => by first | exact bN_0.mp (hz.symm.trans (by assumption)) (ris_s.mp y).1 | exact (by rcases (ris_s.mp y).2 with e | e; exact absurd e (by omega); exact absurd e (Int32.not_le.mpr (by assumption))))])) hm hs
        · skip
          refine ex_iconstN (nI 1) dX12_rises_33 (by decide) ?_
          refine ex_goto 38 dX12_rises_34 (by decide) ?_
          refine ex_istore_n dX12_rises_38 (by decide) ?_
          refine ex_iincN 1 dX12_rises_39 (by decide) rfl (by decide) ?_
          refine ex_goto 4 dX12_rises_42 (by decide) ?_
          exact ih (k + 1) _ (by omega) _ (by omega) (by first | (rw [bN_t (ris_s.mpr ⟨bN_n.mp (by rw [← hz]; assumption), Or.inr (Int32.not_lt.mp (by assumption))⟩)]) | (rw [bN_f (fun y => by first | exact bN_0.mp (hz.symm.trans (by assumption)) (ris_s.mp y).1 | exact (by rcases (ris_s.mp y).2 with e | e; exact absurd e (by omega); exact absurd e (Int32.not_le.mpr (by assumption))))])) hm hs
set_option maxHeartbeats 4000000 in
set_option maxRecDepth 100000 in
theorem e_rises {b : Nat} {h : am_H} {σ : am_S} {m : Nat} (h31 : σ.1 31 = nI m) (hm13 : m ≤ 13) (hm1 : 1 ≤ m) (hm : Mo b h σ) : Ex 0 0 0 mX12_rises 0 (am_en [.ref b] 3) [] h (fun r h2 => r = some (.int (nI (bN (ris (σ.2.1 13) m = true)))) ∧ Mo b h2 σ ∧ Same b h h2) := by
  have hs : Same b h h := Same.rf
  refine ex_iconstN (nI 1) dX12_rises_0 (by decide) ?_
  refine ex_istore_n dX12_rises_1 (by decide) ?_
  refine ex_iconstN (nI 1) dX12_rises_2 (by decide) ?_
  refine ex_istore_n dX12_rises_3 (by decide) ?_
  exact l_rises (σ := σ) h31 hm13 (fun h2 hm hs => ⟨rfl, hm, hs⟩) (m - 1) 1 _ (by omega) _ (by omega) (by rw [bN_t (by simp [ris])]) hm hs
set_option maxHeartbeats 4000000 in
set_option maxRecDepth 100000 in
theorem l_common {h : am_H} {x0 x1 : Int32} : ∀ (n : Nat) (a c : Nat) (x4 : Value), a < 2 ^ 31 → c < 2 ^ 31 → c = n → Ex 0 0 0 mX12_common 4 [.int x0, .int x1, .int (nI a), .int (nI c), x4] [] h (fun r h2 => r = some (.int (nI (Nat.gcd a c))) ∧ h2 = h) := by
  intro n
  induction n using Nat.strongRecOn with
  | ind n ih =>
  intro a c x4 ha hc hn
  refine ex_iload_n dX12_common_4 rfl ?_
  refine ex_if_eqN 21 dX12_common_5 (by decide) (by omega) (fun q5 => ?_) (fun q5 => ?_)
  · skip
    refine ex_iload_n dX12_common_21 rfl ?_
    refine ex_iret rfl dX12_common_22 ?_
    obtain rfl : c = 0 := by omega
    exact ⟨by rw [Nat.gcd_zero_right], rfl⟩
  · skip
    refine ex_iload_n dX12_common_8 rfl ?_
    refine ex_iload_n dX12_common_9 rfl ?_
    refine ex_iremN dX12_common_10 (by omega) (by omega) (by omega) ?_
    refine ex_istore dX12_common_11 (by decide) ?_
    refine ex_iload_n dX12_common_13 rfl ?_
    refine ex_istore_n dX12_common_14 (by decide) ?_
    refine ex_iload dX12_common_15 rfl ?_
    refine ex_istore_n dX12_common_17 (by decide) ?_
    refine ex_goto 4 dX12_common_18 (by decide) ?_
    rw [show Nat.gcd a c = Nat.gcd c (a % c) by rw [Nat.gcd_comm a c, Nat.gcd_rec c a, Nat.gcd_comm]]
    exact ih (a % c) (by rw [← hn]; exact Nat.mod_lt a (by omega)) c (a % c) _ hc (by have := Nat.mod_lt a (show 0 < c by omega); omega) rfl -- := Nat.mod_lt a (show 0 < c by omega); omega) _ _ (by have := Nat.mod_lt a (show 0 < c by omega); omega) (by have := Nat.mod_lt a (show 0 < c by omega); omega) rfl
set_option maxHeartbeats 4000000 in
set_option maxRecDepth 100000 in
theorem e_common (a c : Nat) (ha : a < 2 ^ 31) (hc : c < 2 ^ 31) (h : am_H) : Ex 0 0 0 mX12_common 0 (am_en [.int (nI a), .int (nI c)] 5) [] h (fun r h2 => r = some (.int (nI (Nat.gcd a c))) ∧ h2 = h) := by
  refine ex_iload_n dX12_common_0 rfl ?_
  refine ex_istore_n dX12_common_1 (by decide) ?_
  refine ex_iload_n dX12_common_2 rfl ?_
  refine ex_istore_n dX12_common_3 (by decide) ?_
  exact l_common _ a c _ ha hc rfl
def kpu (u : Nat) : Nat := if u < 16 then u else 15
def kpl (l : Nat → Int32) (u : Nat) : Nat → Int32 := if u < 16 then l else fill l 0 1470 (fun i => l (i + 98))
def kps (σ : am_S) (u : Nat) (x : Int32) : am_S := (upd σ.1 39 (nI (kpu u + 1)), rs σ.2.1 16 (upd (fill (kpl (σ.2.1 16) u) (98 * kpu u) 97 (σ.2.1 1)) (98 * kpu u + 97) x), σ.2.2)
theorem upd_upd (f : Nat → Int32) (k : Nat) (x y : Int32) : upd (upd f k x) k y = upd f k y := by
  funext i
  by_cases h : i = k
  · subst h; rw [pk_us, pk_us]
  · rw [pk_un h, pk_un h, pk_un h]
theorem e_keeps2 {b : Nat} {h : am_H} {σ : am_S} (x : Int32) {u : Nat} (hu : u ≤ 16) (h39 : σ.1 39 = nI u) (hm : Mo b h σ) : Ex 0 0 0 mX12_keeps 0 (am_en [.ref b, .int x] 4) [] h (fun r h2 => r = none ∧ Mo b h2 (kps σ u x) ∧ Same b h h2) := by
  by_cases h16 : u < 16
  · have := e_keeps x h16 h39 hm
    unfold kps kpu kpl
    rw [if_pos h16, if_pos h16]
    exact this
  · obtain rfl : u = 16 := by omega
    have := e_keeps_full x h39 hm
    rw [upd_upd, rs_rs] at this
    exact this
set_option maxHeartbeats 4000000 in
set_option maxRecDepth 100000 in
theorem e_swapsKept {b : Nat} {h : am_H} {σ : am_S} {n j u : Nat} (hn : σ.2.1 1 96 = nI n) (hn6 : n ≤ 6) (hj : j < n) {m p q : Nat} (hmj : (σ.2.1 1) (16 * j) = nI m) (hm13 : m ≤ 13) (hp : p < m) (hq : q < m) (hpq : p ≠ q) (hu : u ≤ 16) (h39 : σ.1 39 = nI u) (hm : Mo b h σ) : Ex 2 0 0 mX12_swapsKept 0 (am_en [.ref b, .int (nI j), .int (nI p), .int (nI q)] 6) [] h (fun r h2 => r = some (.int (upd (upd (σ.2.1 1) (16 * j + 3 + p) ((σ.2.1 1) (16 * j + 3 + q))) (16 * j + 3 + q) ((σ.2.1 1) (16 * j + 3 + p)) (16 * j + 3))) ∧ Mo b h2 ((kps σ u (nI 1)).1, rs (kps σ u (nI 1)).2.1 1 (upd (upd (σ.2.1 1) (16 * j + 3 + p) ((σ.2.1 1) (16 * j + 3 + q))) (16 * j + 3 + q) ((σ.2.1 1) (16 * j + 3 + p))), σ.2.2) ∧ Same b h h2) := by
  have hs : Same b h h := Same.rf
  refine ex_aload_n dX12_swapsKept_0 rfl rfl ?_
  refine ex_iload_n dX12_swapsKept_1 rfl ?_
  refine ex_callV0 (dc := 1) (as := [.int _]) dX12_swapsKept_2 MX12_isHeap kX12_122 iX12_isHeap sX12_isHeap rfl rfl hm.1 rfl rfl (Nat.le_of_ble_eq_true rfl) (Nat.le_of_ble_eq_true rfl) (by decide) (e_isHeap _ hn hn6 hm) (fun r h2 q => ?_)
  obtain ⟨rfl, rfl⟩ := q
  show Ex _ 0 0 _ _ _ (Value.int _ :: _) _ _
  rw [bN_t ⟨by rw [nI_toInt (by omega)]; omega, by rw [nI_toInt (by omega)]; omega⟩]
  refine ex_if_neN 11 dX12_swapsKept_5 (by decide) (by omega) (fun q5 => ?_) (fun q5 => ?_)
  · skip
    refine ex_iload_n dX12_swapsKept_11 rfl ?_
    refine ex_iconstN (nI 0) dX12_swapsKept_12 (by decide) ?_
    refine ex_aload_n dX12_swapsKept_13 rfl rfl ?_
    refine ex_iload_n dX12_swapsKept_14 rfl ?_
    refine ex_callV0 (dc := 1) (as := [.int _]) dX12_swapsKept_15 MX12_manyIn kX12_316 iX12_manyIn sX12_manyIn rfl rfl hm.1 rfl rfl (Nat.le_of_ble_eq_true rfl) (Nat.le_of_ble_eq_true rfl) (by decide) (e_manyIn _ (by omega) hm) (fun r h2 q => ?_)
    obtain ⟨rfl, rfl⟩ := q
    show Ex _ 0 0 _ _ _ (Value.int _ :: _) _ _
    rw [hmj]
    refine ex_iconstN (nI 1) dX12_swapsKept_18 (by decide) ?_
    refine ex_isubN dX12_swapsKept_19 (by omega) ?_
    refine ex_callS0 (dc := 0) (as := [.int _, .int _, .int _]) dX12_swapsKept_20 MX12_lies kX12_102 tX12_lies rfl rfl (Nat.le_of_ble_eq_true rfl) (Nat.le_of_ble_eq_true rfl) (by decide) (e_lies _ _ _ _) (fun r h2 q => ?_)
    obtain ⟨rfl, rfl⟩ := q
    show Ex _ 0 0 _ _ _ (Value.int _ :: _) _ _
    rw [bN_t (lies_t (by omega) (by omega) (by omega))]
    refine ex_if_eqN 46 dX12_swapsKept_23 (by decide) (by omega) (fun q23 => ?_) (fun q23 => ?_)
    · skip
      exact absurd q23 (by decide)
    · skip
      refine ex_iload_n dX12_swapsKept_26 rfl ?_
      refine ex_iconstN (nI 0) dX12_swapsKept_27 (by decide) ?_
      refine ex_aload_n dX12_swapsKept_28 rfl rfl ?_
      refine ex_iload_n dX12_swapsKept_29 rfl ?_
      refine ex_callV0 (dc := 1) (as := [.int _]) dX12_swapsKept_30 MX12_manyIn kX12_316 iX12_manyIn sX12_manyIn rfl rfl hm.1 rfl rfl (Nat.le_of_ble_eq_true rfl) (Nat.le_of_ble_eq_true rfl) (by decide) (e_manyIn _ (by omega) hm) (fun r h2 q => ?_)
      obtain ⟨rfl, rfl⟩ := q
      show Ex _ 0 0 _ _ _ (Value.int _ :: _) _ _
      rw [hmj]
      refine ex_iconstN (nI 1) dX12_swapsKept_33 (by decide) ?_
      refine ex_isubN dX12_swapsKept_34 (by omega) ?_
      refine ex_callS0 (dc := 0) (as := [.int _, .int _, .int _]) dX12_swapsKept_35 MX12_lies kX12_102 tX12_lies rfl rfl (Nat.le_of_ble_eq_true rfl) (Nat.le_of_ble_eq_true rfl) (by decide) (e_lies _ _ _ _) (fun r h2 q => ?_)
      obtain ⟨rfl, rfl⟩ := q
      show Ex _ 0 0 _ _ _ (Value.int _ :: _) _ _
      rw [bN_t (lies_t (by omega) (by omega) (by omega))]
      refine ex_if_eqN 46 dX12_swapsKept_38 (by decide) (by omega) (fun q38 => ?_) (fun q38 => ?_)
      · skip
        exact absurd q38 (by decide)
      · skip
        refine ex_iload_n dX12_swapsKept_41 rfl ?_
        refine ex_iload_n dX12_swapsKept_42 rfl ?_
        refine ex_icmp_neN 48 dX12_swapsKept_43 (by decide) (by omega) (by omega) (fun q43 => ?_) (fun q43 => ?_)
        · skip
          refine ex_aload_n dX12_swapsKept_48 rfl rfl ?_
          refine ex_iconstN (nI 1) dX12_swapsKept_49 (by decide) ?_
          refine ex_callV0 (dc := 0) (as := [.int _]) dX12_swapsKept_50 MX12_keeps kX12_356 iX12_keeps sX12_keeps rfl rfl hm.1 rfl rfl (Nat.le_of_ble_eq_true rfl) (Nat.le_of_ble_eq_true rfl) (by decide) (e_keeps2 _ hu h39 hm) (fun r h2 q => ?_)
          obtain ⟨rfl, hm, hs2⟩ := q
          have hs := hs.tr hs2
          show Ex _ 0 0 _ _ _ _ _ _
          refine ex_iload_n dX12_swapsKept_53 rfl ?_
          refine ex_callS0 (dc := 0) (as := [.int _]) dX12_swapsKept_54 MX12_placeOf kX12_112 tX12_placeOf rfl rfl (Nat.le_of_ble_eq_true rfl) (Nat.le_of_ble_eq_true rfl) (by decide) (e_placeOf _ _) (fun r h2 q => ?_)
          obtain ⟨rfl, rfl⟩ := q
          show Ex _ 0 0 _ _ _ (Value.int _ :: _) _ _
          rw [pl_nI]
          refine ex_iconstN (nI 3) dX12_swapsKept_57 (by decide) ?_
          refine ex_iaddN dX12_swapsKept_58 ?_
          refine ex_istore dX12_swapsKept_59 (by decide) ?_
          refine ex_aload_n dX12_swapsKept_61 rfl rfl ?_
          refine ex_getf fX12_24 dX12_swapsKept_62 hm.1 rfl ?_
          refine ex_iload dX12_swapsKept_65 rfl ?_
          refine ex_iload_n dX12_swapsKept_67 rfl ?_
          refine ex_iaddN dX12_swapsKept_68 ?_
          refine m_ald hm dX12_swapsKept_69 (by decide) (by decide) rfl (by show _ < 5725; omega) ?_
          refine ex_istore dX12_swapsKept_70 (by decide) ?_
          refine ex_aload_n dX12_swapsKept_72 rfl rfl ?_
          refine ex_getf fX12_24 dX12_swapsKept_73 hm.1 rfl ?_
          refine ex_iload dX12_swapsKept_76 rfl ?_
          refine ex_iload_n dX12_swapsKept_78 rfl ?_
          refine ex_iaddN dX12_swapsKept_79 ?_
          refine ex_aload_n dX12_swapsKept_80 rfl rfl ?_
          refine ex_getf fX12_24 dX12_swapsKept_81 hm.1 rfl ?_
          refine ex_iload dX12_swapsKept_84 rfl ?_
          refine ex_iload_n dX12_swapsKept_86 rfl ?_
          refine ex_iaddN dX12_swapsKept_87 ?_
          refine m_ald hm dX12_swapsKept_88 (by decide) (by decide) rfl (by show _ < 5725; omega) ?_
          refine m_ast hm hs dX12_swapsKept_89 (by decide) (by decide) rfl (by show _ < 5725; omega) (fun h1 hm hs => ?_)
          refine ex_aload_n dX12_swapsKept_90 rfl rfl ?_
          refine ex_getf fX12_24 dX12_swapsKept_91 hm.1 rfl ?_
          refine ex_iload dX12_swapsKept_94 rfl ?_
          refine ex_iload_n dX12_swapsKept_96 rfl ?_
          refine ex_iaddN dX12_swapsKept_97 ?_
          refine ex_iload dX12_swapsKept_98 rfl ?_
          refine m_ast hm hs dX12_swapsKept_100 (by decide) (by decide) rfl (by show _ < 5725; omega) (fun h1 hm hs => ?_)
          refine ex_aload_n dX12_swapsKept_101 rfl rfl ?_
          refine ex_getf fX12_24 dX12_swapsKept_102 hm.1 rfl ?_
          refine ex_iload dX12_swapsKept_105 rfl ?_
          refine m_ald hm dX12_swapsKept_107 (by decide) (by decide) rfl (by show _ < 5725; omega) ?_
          refine ex_iret rfl dX12_swapsKept_108 ?_
          exact ⟨rfl, by rw [← u2_rs]; exact hm, hs⟩
        · skip
          exact absurd q43 hpq
  · skip
    exact absurd q5 (by decide)
set_option maxHeartbeats 4000000 in
set_option maxRecDepth 100000 in
theorem e_swapsKept_noheap {b : Nat} {h : am_H} {σ : am_S} {n u : Nat} {x y z : Int32} (hn : σ.2.1 1 96 = nI n) (hn6 : n ≤ 6) (hx : ¬ inN x n) (hm : Mo b h σ) : Ex 2 0 0 mX12_swapsKept 0 (am_en [.ref b, .int x, .int y, .int z] 6) [] h (fun r h2 => r = some (.int (-2)) ∧ h2 = h) := by
  have hs : Same b h h := Same.rf
  refine ex_aload_n dX12_swapsKept_0 rfl rfl ?_
  refine ex_iload_n dX12_swapsKept_1 rfl ?_
  refine ex_callV0 (dc := 1) (as := [.int _]) dX12_swapsKept_2 MX12_isHeap kX12_122 iX12_isHeap sX12_isHeap rfl rfl hm.1 rfl rfl (Nat.le_of_ble_eq_true rfl) (Nat.le_of_ble_eq_true rfl) (by decide) (e_isHeap _ hn hn6 hm) (fun r h2 q => ?_)
  obtain ⟨rfl, rfl⟩ := q
  show Ex _ 0 0 _ _ _ (Value.int _ :: _) _ _
  rw [bN_f hx]
  refine ex_if_neN 11 dX12_swapsKept_5 (by decide) (by omega) (fun q5 => ?_) (fun q5 => ?_)
  · skip
    exact absurd rfl q5
  · skip
    refine ex_bipushN (-2) dX12_swapsKept_8 (by decide) ?_
    refine ex_iret rfl dX12_swapsKept_10 ?_
    exact ⟨rfl, rfl⟩
theorem lies_in {x : Int32} {n : Nat} (h1 : 1 ≤ n) (hn : n < 2 ^ 31) : (nI 0 ≤ x ∧ x ≤ nI (n - 1)) ↔ inN x n := by
  rw [Int32.le_iff_toInt_le, Int32.le_iff_toInt_le, nI_toInt (by omega), nI_toInt (by omega)]
  unfold inN
  omega
set_option maxHeartbeats 4000000 in
set_option maxRecDepth 100000 in
theorem e_swapsKept_no {b : Nat} {h : am_H} {σ : am_S} {n j u : Nat} (hn : σ.2.1 1 96 = nI n) (hn6 : n ≤ 6) (hj : j < n) {m : Nat} {y z : Int32} (hmj : (σ.2.1 1) (16 * j) = nI m) (hm13 : m ≤ 13) (hm1 : 1 ≤ m) (hx : ¬ (inN y m ∧ inN z m ∧ y ≠ z)) (hm : Mo b h σ) : Ex 2 0 0 mX12_swapsKept 0 (am_en [.ref b, .int (nI j), .int y, .int z] 6) [] h (fun r h2 => r = some (.int (-1)) ∧ h2 = h) := by
  have hs : Same b h h := Same.rf
  refine ex_aload_n dX12_swapsKept_0 rfl rfl ?_
  refine ex_iload_n dX12_swapsKept_1 rfl ?_
  refine ex_callV0 (dc := 1) (as := [.int _]) dX12_swapsKept_2 MX12_isHeap kX12_122 iX12_isHeap sX12_isHeap rfl rfl hm.1 rfl rfl (Nat.le_of_ble_eq_true rfl) (Nat.le_of_ble_eq_true rfl) (by decide) (e_isHeap _ hn hn6 hm) (fun r h2 q => ?_)
  obtain ⟨rfl, rfl⟩ := q
  show Ex _ 0 0 _ _ _ (Value.int _ :: _) _ _
  rw [bN_t ⟨by rw [nI_toInt (by omega)]; omega, by rw [nI_toInt (by omega)]; omega⟩]
  refine ex_if_neN 11 dX12_swapsKept_5 (by decide) (by first | omega | exact bN_lt) (fun q5 => ?_) (fun q5 => ?_)
  · skip
    refine ex_iload_n dX12_swapsKept_11 rfl ?_
    refine ex_iconstN (nI 0) dX12_swapsKept_12 (by decide) ?_
    refine ex_aload_n dX12_swapsKept_13 rfl rfl ?_
    refine ex_iload_n dX12_swapsKept_14 rfl ?_
    refine ex_callV0 (dc := 1) (as := [.int _]) dX12_swapsKept_15 MX12_manyIn kX12_316 iX12_manyIn sX12_manyIn rfl rfl hm.1 rfl rfl (Nat.le_of_ble_eq_true rfl) (Nat.le_of_ble_eq_true rfl) (by decide) (e_manyIn _ (by omega) hm) (fun r h2 q => ?_)
    obtain ⟨rfl, rfl⟩ := q
    show Ex _ 0 0 _ _ _ (Value.int _ :: _) _ _
    rw [hmj]
    refine ex_iconstN (nI 1) dX12_swapsKept_18 (by decide) ?_
    refine ex_isubN dX12_swapsKept_19 (by first | omega | exact bN_lt) ?_
    refine ex_callS0 (dc := 0) (as := [.int _, .int _, .int _]) dX12_swapsKept_20 MX12_lies kX12_102 tX12_lies rfl rfl (Nat.le_of_ble_eq_true rfl) (Nat.le_of_ble_eq_true rfl) (by decide) (e_lies _ _ _ _) (fun r h2 q => ?_)
    obtain ⟨rfl, rfl⟩ := q
    show Ex _ 0 0 _ _ _ (Value.int _ :: _) _ _
    rw [bN_c (lies_in hm1 (by omega))]
    refine ex_if_eqN 46 dX12_swapsKept_23 (by decide) (by first | omega | exact bN_lt) (fun q23 => ?_) (fun q23 => ?_)
    · skip
      refine ex_iconstN (-1) dX12_swapsKept_46 (by decide) ?_
      refine ex_iret rfl dX12_swapsKept_47 ?_
      exact ⟨rfl, rfl⟩
    · skip
      refine ex_iload_n dX12_swapsKept_26 rfl ?_
      refine ex_iconstN (nI 0) dX12_swapsKept_27 (by decide) ?_
      refine ex_aload_n dX12_swapsKept_28 rfl rfl ?_
      refine ex_iload_n dX12_swapsKept_29 rfl ?_
      refine ex_callV0 (dc := 1) (as := [.int _]) dX12_swapsKept_30 MX12_manyIn kX12_316 iX12_manyIn sX12_manyIn rfl rfl hm.1 rfl rfl (Nat.le_of_ble_eq_true rfl) (Nat.le_of_ble_eq_true rfl) (by decide) (e_manyIn _ (by omega) hm) (fun r h2 q => ?_)
      obtain ⟨rfl, rfl⟩ := q
      show Ex _ 0 0 _ _ _ (Value.int _ :: _) _ _
      rw [hmj]
      refine ex_iconstN (nI 1) dX12_swapsKept_33 (by decide) ?_
      refine ex_isubN dX12_swapsKept_34 (by first | omega | exact bN_lt) ?_
      refine ex_callS0 (dc := 0) (as := [.int _, .int _, .int _]) dX12_swapsKept_35 MX12_lies kX12_102 tX12_lies rfl rfl (Nat.le_of_ble_eq_true rfl) (Nat.le_of_ble_eq_true rfl) (by decide) (e_lies _ _ _ _) (fun r h2 q => ?_)
      obtain ⟨rfl, rfl⟩ := q
      show Ex _ 0 0 _ _ _ (Value.int _ :: _) _ _
      rw [bN_c (lies_in hm1 (by omega))]
      refine ex_if_eqN 46 dX12_swapsKept_38 (by decide) (by first | omega | exact bN_lt) (fun q38 => ?_) (fun q38 => ?_)
      · skip
        refine ex_iconstN (-1) dX12_swapsKept_46 (by decide) ?_
        refine ex_iret rfl dX12_swapsKept_47 ?_
        exact ⟨rfl, rfl⟩
      · skip
        refine ex_iload_n dX12_swapsKept_41 rfl ?_
        refine ex_iload_n dX12_swapsKept_42 rfl ?_
        refine ex_icmp_ne 48 dX12_swapsKept_43 (by decide) (fun q43 => ?_) (fun q43 => ?_)
        · skip
          exact absurd ⟨bN_n.mp q23, bN_n.mp q38, q43⟩ hx
        · skip
          refine ex_iconstN (-1) dX12_swapsKept_46 (by decide) ?_
          refine ex_iret rfl dX12_swapsKept_47 ?_
          exact ⟨rfl, rfl⟩
  · skip
    exact absurd q5 (by decide)
