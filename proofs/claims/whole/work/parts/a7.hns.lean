/-! ONE: swaps and cuts by hand, what orders obey -/
section HandS
variable {b : Nat} {h : am_H} {σ : am_S} {n : Nat} {t : HSt} {TU SI : Po → Int32} {EN : Po → Bool}
theorem kpu_min (hu : t.u ≤ 16) : min (t.u + 1) 16 = kpu t.u + 1 := by unfold kpu; split <;> omega
theorem Chd_kps {u : Nat} {x : Int32} {K2 : Nat → Int32} (hK : ∀ i, 96 ≤ i → K2 i = σ.2.1 1 i) : Chd σ ((kps σ u x).1, rs (kps σ u x).2.1 1 K2, σ.2.2) := by
  refine ⟨⟨fun k hk => ?_, fun k hk => ?_, rfl⟩, fun i hi => ?_⟩
  · show upd σ.1 39 _ k = σ.1 k
    exact if_neg (fun z => hk (by rw [z]; decide))
  · have n1 : k ≠ 1 := fun z => hk (by rw [z]; decide)
    have n16 : k ≠ 16 := fun z => hk (by rw [z]; decide)
    show rs (kps σ u x).2.1 1 _ k = σ.2.1 k
    rw [rs_ne n1]
    show rs σ.2.1 16 _ k = σ.2.1 k
    rw [rs_ne n16]
  · exact hK i hi
theorem exchange_r (H : HRel b h σ n t) (y a c : Int32) : ∃ h2 σ2, Ref_swapsKept b y a c h = some ((exq n t y a c).1, h2) ∧ HRel b h2 σ2 n (exq n t y a c).2 ∧ Chd σ σ2 ∧ Same b h h2 := by
  obtain ⟨M, U, h39, hb, hL⟩ := H
  have hp := U.hp
  have hn := U.1
  unfold exq
  by_cases q : inN y n
  · obtain ⟨ey, hj⟩ := inN_j (by omega) q
    rw [if_pos q]
    generalize y.toInt.toNat = j at *
    subst ey
    obtain ⟨a1, a2, a3, a4, a5, a6, a7⟩ := hp.2 j hj
    have hm13 := a1.2.1
    have hm1 := a1.1
    by_cases q2 : a ≠ c ∧ inN a (t.D j).2.1 ∧ inN c (t.D j).2.1
    · rw [if_pos q2]
      obtain ⟨q0, q3, q4⟩ := q2
      obtain ⟨ea, ha⟩ := inN_j (by omega) q3
      obtain ⟨ec, hc⟩ := inN_j (by omega) q4
      generalize a.toInt.toNat = p at *
      generalize c.toInt.toNat = r at *
      subst ea
      subst ec
      have hpr : p ≠ r := fun z => q0 (by rw [z])
      obtain ⟨h2, e2, M2, S2⟩ := swapsKept_p hp.1 hn hj a2 hm13 ha hc hpr U.2.1 h39 M
      have K2o : ∀ i, (i < 16 * j + 3 ∨ 16 * j + 16 ≤ i) → swK (σ.2.1 1) j p r i = σ.2.1 1 i := fun i hi => by
        unfold swK
        rw [pk_un (by omega), pk_un (by omega)]
      have K2c : ∀ i, i < (t.D j).2.1 → swK (σ.2.1 1) j p r (16 * j + 3 + i) = swp (t.D j).1 p r i := fun i hi => by
        unfold swK swp
        by_cases z : i = r
        · subst z; rw [pk_us, pk_us]; exact a3 p ha
        · rw [pk_un (by omega), pk_un z]
          by_cases z2 : i = p
          · subst z2; rw [pk_us, pk_us]; exact a3 r hc
          · rw [pk_un (by omega), pk_un z2]; exact a3 i hi
      have e0 : swK (σ.2.1 1) j p r (16 * j + 3) = swp (t.D j).1 p r 0 := K2c 0 (by omega)
      refine ⟨h2, _, by rw [e2, e0], ⟨M2, ?_, ?_, hb, ?_⟩, Chd_kps (fun i hi => K2o i (by omega)), S2⟩
      · show URel n _ (swK (σ.2.1 1) j p r) (lK (σ.2.1 1) (σ.2.1 16) t.u (nI 1))
        refine U.kp (k := 1) hj (hp.one hn hj (fun i hi ho => K2o i (by omega)) (a1.sw ha hc) ?_ K2c ?_ a5 ?_ a7)
        · rw [K2o _ (by omega)]; exact a2
        · rw [K2o _ (by omega)]; exact a4
        · rw [K2o _ (by omega)]; exact a6
      · show nI (kpu t.u + 1) = nI (min (t.u + 1) 16)
        rw [kpu_min U.2.1]
      · exact hL.cg (fun i hi => K2o i (by omega))
    · rw [if_neg q2]
      exact ⟨h, σ, swapsKept_no hp.1 hn hj a2 hm13 (fun z => q2 ⟨z.2.2, z.1, z.2.1⟩) M, ⟨M, U, h39, hb, hL⟩, Chd.rf, Same.rf⟩
  · rw [if_neg q]
    exact ⟨h, σ, (noHeap_p hp.1 hn q M).2.1 a c, ⟨M, U, h39, hb, hL⟩, Chd.rf, Same.rf⟩
theorem lift_r (H : HRel b h σ n t) (y c : Int32) : ∃ h2 σ2, Ref_cutsKept b y c h = some ((lfq n t y c).1, h2) ∧ HRel b h2 σ2 n (lfq n t y c).2 ∧ Chd σ σ2 ∧ Same b h h2 := by
  obtain ⟨M, U, h39, hb, hL⟩ := H
  have hp := U.hp
  have hn := U.1
  unfold lfq
  by_cases q : inN y n
  · obtain ⟨ey, hj⟩ := inN_j (by omega) q
    rw [if_pos q]
    generalize y.toInt.toNat = j at *
    subst ey
    obtain ⟨a1, a2, a3, a4, a5, a6, a7⟩ := hp.2 j hj
    have hm13 := a1.2.1
    have hm1 := a1.1
    by_cases q2 : 1 ≤ c.toInt ∧ c.toInt ≤ (t.D j).2.1
    · rw [if_pos q2]
      have ec : c = nI c.toInt.toNat := by
        apply Int32.toInt_inj.mp
        rw [tin (show c.toInt.toNat < 2 ^ 31 by omega)]; omega
      have hc1 : 1 ≤ c.toInt.toNat := by omega
      have hc2 : c.toInt.toNat ≤ (t.D j).2.1 := by omega
      generalize c.toInt.toNat = p at *
      subst ec
      obtain ⟨h2, e2, M2, S2⟩ := cutsKept_p hp.1 hn hj a2 hm13 hc1 hc2 U.2.1 h39 M
      -- the cards behind it
      have c13 : ∀ i, i < (t.D j).2.1 → (pts (snk (tks (kps σ t.u (nI 2)) j) (t.D j).2.1 p) j).2.1 13 i = (t.D j).1 ((i + p) % (t.D j).2.1) := fun i hi => by
        have hmod : (i + p) % (t.D j).2.1 < (t.D j).2.1 := Nat.mod_lt _ (by omega)
        show (snk (tks (kps σ t.u (nI 2)) j) (t.D j).2.1 p).2.1 13 i = _
        unfold snk
        show fill ((tks (kps σ t.u (nI 2)) j).2.1 13) 0 (t.D j).2.1 (fill ((tks (kps σ t.u (nI 2)) j).2.1 14) 0 (t.D j).2.1 (fun i => (tks (kps σ t.u (nI 2)) j).2.1 13 ((i + p) % (t.D j).2.1))) i = _
        rw [fill_fill, fill_in (Nat.zero_le _) (by omega), Nat.sub_zero]
        show fill ((kps σ t.u (nI 2)).2.1 13) 0 13 (fun i => (kps σ t.u (nI 2)).2.1 1 (16 * j + 3 + i)) ((i + p) % (t.D j).2.1) = _
        rw [fill_in (Nat.zero_le _) (by omega), Nat.sub_zero]
        exact a3 _ hmod
      have eK : (pts (snk (tks (kps σ t.u (nI 2)) j) (t.D j).2.1 p) j).2.1 1 = upd (fill (σ.2.1 1) (16 * j + 3) 13 ((pts (snk (tks (kps σ t.u (nI 2)) j) (t.D j).2.1 p) j).2.1 13)) (16 * j + 2) (σ.2.1 1 (16 * j + 2)) := rfl
      have K2o : ∀ i, (i < 16 * j + 2 ∨ 16 * j + 16 ≤ i) → (pts (snk (tks (kps σ t.u (nI 2)) j) (t.D j).2.1 p) j).2.1 1 i = σ.2.1 1 i := fun i hi => by
        rw [eK, pk_un (by omega), fill_out (by omega)]
      refine ⟨h2, _, by rw [e2, c13 0 (by omega), Nat.zero_add], ⟨M2, ?_, ?_, hb, ?_⟩, ⟨⟨fun k hk => ?_, fun k hk => ?_, rfl⟩, fun i hi => K2o i (by omega)⟩, S2⟩
      · show URel n _ ((pts (snk (tks (kps σ t.u (nI 2)) j) (t.D j).2.1 p) j).2.1 1) (lK (σ.2.1 1) (σ.2.1 16) t.u (nI 2))
        refine U.kp (k := 2) hj (hp.one hn hj (fun i hi ho => K2o i (by omega)) (a1.cu p) ?_ (fun i hi => ?_) ?_ a5 ?_ a7)
        · rw [K2o _ (by omega)]; exact a2
        · have hi : i < (t.D j).2.1 := hi
          rw [eK, pk_un (by omega), fill_in (by omega) (by omega), show 16 * j + 3 + i - (16 * j + 3) = i by omega]
          exact c13 i hi
        · rw [eK, pk_us]; exact a4
        · rw [K2o _ (by omega)]; exact a6
      · show nI (kpu t.u + 1) = nI (min (t.u + 1) 16)
        rw [kpu_min U.2.1]
      · exact hL.cg (fun i hi => K2o i (by omega))
      · show upd (upd (upd (upd σ.1 39 _) 31 _) 32 _) 33 _ k = σ.1 k
        rw [pk_un (fun z => hk (by rw [z]; decide)), pk_un (fun z => hk (by rw [z]; decide)), pk_un (fun z => hk (by rw [z]; decide)), pk_un (fun z => hk (by rw [z]; decide))]
      · have n1 : k ≠ 1 := fun z => hk (by rw [z]; decide)
        have n13 : k ≠ 13 := fun z => hk (by rw [z]; decide)
        have n14 : k ≠ 14 := fun z => hk (by rw [z]; decide)
        have n16 : k ≠ 16 := fun z => hk (by rw [z]; decide)
        unfold pts snk tks kps
        show rs (rs (rs (rs (rs σ.2.1 16 _) 13 _) 14 _) 13 _) 1 _ k = σ.2.1 k
        rw [rs_ne n1, rs_ne n13, rs_ne n14, rs_ne n13, rs_ne n16]
    · rw [if_neg q2]
      exact ⟨h, σ, cutsKept_no hp.1 hn hj a2 hm13 q2 M, ⟨M, U, h39, hb, hL⟩, Chd.rf, Same.rf⟩
  · rw [if_neg q]
    exact ⟨h, σ, (noHeap_p hp.1 hn q M).2.2 c, ⟨M, U, h39, hb, hL⟩, Chd.rf, Same.rf⟩
def smI (x : Int32) : Int32 := if x.toInt < 0 ∨ 1000000 < x.toInt then -1 else x
theorem small_p (x : Int32) (h : am_H) : Ref_small x.toInt64 h = some (smI x) := by
  unfold Ref_small smI
  have e0 : (0 : Int64).toInt = 0 := by decide
  have e1 : (1000000 : Int64).toInt = 1000000 := by decide
  have h0 : x.toInt64 < 0 ↔ x.toInt < 0 := by rw [Int64.lt_iff_toInt_lt, Int32.toInt_toInt64, e0]
  have h1 : (1000000 : Int64) < x.toInt64 ↔ 1000000 < x.toInt := by rw [Int64.lt_iff_toInt_lt, Int32.toInt_toInt64, e1]
  by_cases q : x.toInt < 0
  · rw [if_pos (cmpl.mpr (h0.mpr q)), if_pos (Or.inl q)]
  · rw [if_neg (fun z => q (h0.mp (cmpl.mp z)))]
    by_cases q1 : 1000000 < x.toInt
    · rw [if_neg (fun z => cmpg.mp z (h1.mpr q1)), if_pos (Or.inr q1)]
    · rw [if_pos (cmpg.mpr (fun z => q1 (h1.mp z))), if_neg (fun z => z.elim q q1), i64_32]
theorem smI_in {x : Int32} {m : Nat} (hm : m ≤ 13) : (inN (smI x) m ↔ inN x m) ∧ (inN x m → smI x = x) := by
  unfold smI inN
  by_cases q : x.toInt < 0 ∨ 1000000 < x.toInt
  · rw [if_pos q, tim1]
    exact ⟨⟨fun z => by omega, fun z => by omega⟩, fun z => by omega⟩
  · rw [if_neg q]; exact ⟨Iff.rfl, fun _ => rfl⟩
theorem trq_s {x : Int32} (hn : n ≤ 6) : trq n TU SI EN t (smI x) = trq n TU SI EN t x := by
  obtain ⟨h1, h2⟩ := smI_in (x := x) (m := n) (by omega)
  by_cases q : inN x n
  · rw [h2 q]
  · unfold trq
    rw [if_neg q, if_neg (fun z => q (h1.mp z))]
theorem exq_s {x y z : Int32} (hn : n ≤ 6) (ho : t.ok n) : exq n t (smI x) (smI y) (smI z) = exq n t x y z := by
  obtain ⟨h1, h2⟩ := smI_in (x := x) (m := n) (by omega)
  by_cases q : inN x n
  · rw [h2 q]
    have hj : x.toInt.toNat < n := (inN_j (by omega) q).2
    have hm := (ho _ hj).1.2.1
    obtain ⟨a1, a2⟩ := smI_in (x := y) hm
    obtain ⟨c1, c2⟩ := smI_in (x := z) hm
    unfold exq
    rw [if_pos q, if_pos q]
    by_cases q2 : y ≠ z ∧ inN y (t.D x.toInt.toNat).2.1 ∧ inN z (t.D x.toInt.toNat).2.1
    · rw [a2 q2.2.1, c2 q2.2.2]
    · rw [if_neg q2]
      by_cases q3 : inN y (t.D x.toInt.toNat).2.1
      · by_cases q4 : inN z (t.D x.toInt.toNat).2.1
        · rw [a2 q3, c2 q4, if_neg q2]
        · rw [if_neg (fun w => q4 (c1.mp w.2.2))]
      · rw [if_neg (fun w => q3 (a1.mp w.2.1))]
  · unfold exq
    rw [if_neg q, if_neg (fun z => q (h1.mp z))]
theorem lfq_s {x y : Int32} (hn : n ≤ 6) (ho : t.ok n) : lfq n t (smI x) (smI y) = lfq n t x y := by
  obtain ⟨h1, h2⟩ := smI_in (x := x) (m := n) (by omega)
  by_cases q : inN x n
  · rw [h2 q]
    have hj : x.toInt.toNat < n := (inN_j (by omega) q).2
    have hm := (ho _ hj).1.2.1
    unfold lfq
    rw [if_pos q, if_pos q]
    have e : (1 ≤ y.toInt ∧ y.toInt ≤ (t.D x.toInt.toNat).2.1) → smI y = y := fun w => if_neg (by omega)
    by_cases q2 : 1 ≤ y.toInt ∧ y.toInt ≤ (t.D x.toInt.toNat).2.1
    · rw [e q2]
    · rw [if_neg q2, if_neg (fun w => ?_)]
      unfold smI at w
      by_cases z : y.toInt < 0 ∨ 1000000 < y.toInt
      · rw [if_pos z, tim1] at w; omega
      · rw [if_neg z] at w; exact q2 w
  · unfold lfq
    rw [if_neg q, if_neg (fun z => q (h1.mp z))]
end HandS
