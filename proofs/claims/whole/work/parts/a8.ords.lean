/-! ONE: orders: a clause run, class and reference -/
abbrev FO : List Nat := [21, 22, 23, 24, 25, 26, 31, 32, 33, 35, 36, 39, 41, 43, 44, 47, 48, 49, 50, 51, 57]
abbrev RO : List Nat := [1, 11, 12, 13, 14, 15, 16, 18, 19, 20]
def Lo (σ σ2 : am_S) : Prop := (∀ k, k ∉ FO → σ2.1 k = σ.1 k) ∧ (∀ k, k ∉ RO → σ2.2.1 k = σ.2.1 k) ∧ ∀ i, 96 ≤ i → σ2.2.1 1 i = σ.2.1 1 i
theorem Lo.rf {σ : am_S} : Lo σ σ := ⟨fun _ _ => rfl, fun _ _ => rfl, fun _ _ => rfl⟩
theorem Lo.tr {σ σ1 σ2 : am_S} (p : Lo σ σ1) (q : Lo σ1 σ2) : Lo σ σ2 := ⟨fun k hk => (q.1 k hk).trans (p.1 k hk), fun k hk => (q.2.1 k hk).trans (p.2.1 k hk), fun i hi => (q.2.2 i hi).trans (p.2.2 i hi)⟩
theorem Chd.lo {σ σ2 : am_S} (p : Chd σ σ2) : Lo σ σ2 := ⟨fun k hk => p.1.1 k (fun z => hk (by revert z; simp only [List.mem_cons, List.not_mem_nil, or_false]; omega)), fun k hk => p.1.2.1 k (fun z => hk (by revert z; simp only [List.mem_cons, List.not_mem_nil, or_false]; omega)), p.2⟩
/-- the reference runs orders: done, latest, the heaps; its text lies as the seventh -/
def ORel (b : Nat) (h : am_H) (σ : am_S) (n : Nat) (z : OSt) (f : Nat → Int32) (tt N : Nat) (TU SI : Po → Int32) (EN : Po → Bool) : Prop := HRel b h σ n z.2.2 ∧ σ.2.1 12 0 = nI n ∧ σ.2.1 12 1 = z.1 ∧ σ.2.1 12 2 = z.2.1 ∧ EvE f tt N 2400 σ.2.1 ∧ TkR (σ.2.1 1) TU SI EN ∧ z.2.2.ok n
section OrdS
variable {b : Nat} {h : am_H} {σ : am_S} {n : Nat} {z : OSt} {f : Nat → Int32} {tt N : Nat} {TU SI : Po → Int32} {EN : Po → Bool}
theorem EvE.cg {A A2 : Nat → Nat → Int32} (E : EvE f tt N 2400 A) (hK : ∀ i, 96 ≤ i → A2 1 i = A 1 i) : EvE f tt N 2400 A2 := by
  obtain ⟨h1, h2, h3, h4, h5, h6, h7⟩ := E
  exact ⟨h1, h2, h3, h4, fun i hi => ⟨(hK _ (by omega)).trans (h5 i hi).1, (hK _ (by omega)).trans (h5 i hi).2⟩, h6, h7⟩
theorem TkR.cg {K K2 : Nat → Int32} {nh : Nat} (H : TkR K TU SI EN) (HL : LwK K) (h96 : K 96 = nI nh) (hnh : nh ≤ 6) (hK : ∀ i, 96 ≤ i → K2 i = K i) : TkR K2 TU SI EN := fun p hp => by
  obtain ⟨a1, a2, a3⟩ := H p hp
  obtain ⟨c1, c2, c3⟩ := HL.v h96 hnh ((hK 96 (by omega)).trans h96) hnh (fun i hi => hK i (by omega)) p
  rw [c1, c2, c3]; exact ⟨a1, a2, a3⟩
theorem HpR.ok {C : Nat → Nat} {D : Nat → Po} {K : Nat → Int32} (H : HpR n C D K) : ∀ j, j < n → okP (D j) ∧ C j ≤ 9999 := fun j hj => ⟨(H.2 j hj).1, (H.2 j hj).2.2.2.2.2.2⟩
theorem ORel.hw (H : ORel b h σ n z f tt N TU SI EN) : HWs σ.2.1 n 1 (wrh n z.1 z.2.1 z.2.2.C z.2.2.D) := by
  obtain ⟨⟨M, U, _⟩, r0, r1, r2, _⟩ := H
  have hp := U.hp
  refine ⟨fun y => absurd y (by decide), fun _ => ⟨fun k hk => ?_, fun k q h3 h6 hq => ?_⟩⟩
  · rcases (show k = 0 ∨ k = 1 ∨ k = 2 by omega) with rfl | rfl | rfl
    · exact r0
    · exact r1
    · exact r2
  · obtain ⟨w1, w2, w3⟩ := wrh_3 (n := n) (dn := z.1) (la := z.2.1) (C := z.2.2.C) (D := z.2.2.D) hq
    unfold hvl
    by_cases y : q < n
    · obtain ⟨a1, a2, a3, a4, a5, a6, a7⟩ := hp.2 q y
      have hm := a1.1
      rw [if_pos y]
      rcases (show k = 3 ∨ k = 4 ∨ k = 5 by omega) with rfl | rfl | rfl
      · rw [if_pos (by decide), show 3 + (3 - 3) * 6 + q = 3 + q by omega, w1, if_pos y]; exact a3 0 (by omega)
      · rw [if_neg (by decide), if_neg (by decide), show 3 + (4 - 3) * 6 + q = 3 + q + 6 by omega, w2, if_pos y]; exact a6
      · rw [if_neg (by decide), if_pos (by decide), show 3 + (5 - 3) * 6 + q = 3 + q + 12 by omega, w3, if_pos y]; exact a2
    · rw [if_neg y]
      rcases (show k = 3 ∨ k = 4 ∨ k = 5 by omega) with rfl | rfl | rfl
      · rw [show 3 + (3 - 3) * 6 + q = 3 + q by omega, w1, if_neg y]
      · rw [show 3 + (4 - 3) * 6 + q = 3 + q + 6 by omega, w2, if_neg y]
      · rw [show 3 + (5 - 3) * 6 + q = 3 + q + 12 by omega, w3, if_neg y]
theorem small_a (v : Int64) (h : am_H) : ∃ y, Ref_small v h = some y := by
  unfold Ref_small
  split
  · exact ⟨_, rfl⟩
  · split
    · exact ⟨_, rfl⟩
    · exact ⟨_, rfl⟩
theorem Mo.aJ {i : Nat} (hi : i < 3) (M : Mo b h σ) : aJ h (b + 1 + 21) (nI i) = some (σ.2.2 i) := by
  unfold Jvm.Pilot.CTopSaysLaw_law_r2558_8a5759.aJ
  rw [arJ_of M.2.2]
  simp only [Option.bind_some]
  have ti := tin (show i < 2 ^ 31 by omega)
  rw [if_pos (by unfold inN; rw [ti]; omega), ti]
  rfl
/-- what the clause wants is done, once -/
theorem obeys_r (H : ORel b h σ n z f tt N TU SI EN) {kd : Nat} (hkd : kd < 3) (h49 : σ.1 49 = nI (pmw 0 kd)) {a c d : Int32} (e0 : σ.2.2 0 = a.toInt64) (e1 : ¬ kd = 0 → σ.2.2 1 = c.toInt64) (e2 : kd = 1 → σ.2.2 2 = d.toInt64) (ha : ¬ a = BRK) (hc : ¬ (if kd = 0 then 0 else c) = BRK) (hd : ¬ (if kd = 1 then d else 0) = BRK) : ∃ h2 σ2 r, Ref_obeys b h = some (r, h2) ∧ (Lo σ σ2 ∧ σ2.1 47 = σ.1 47 ∧ Bo σ2) ∧ Same b h h2 ∧ Mo b h2 σ2 ∧ σ2.2.1 12 1 = z.1 ∧ ((enq n TU SI EN (nI kd) a (if kd = 0 then 0 else c) (if kd = 1 then d else 0) z.1 z.2.1 z.2.2).1 = true ↔ ¬ r < 0) ∧ (¬ r < 0 → HRel b h2 σ2 n (enq n TU SI EN (nI kd) a (if kd = 0 then 0 else c) (if kd = 1 then d else 0) z.1 z.2.1 z.2.2).2.2.2 ∧ σ2.2.1 12 0 = nI n ∧ σ2.2.1 12 2 = (enq n TU SI EN (nI kd) a (if kd = 0 then 0 else c) (if kd = 1 then d else 0) z.1 z.2.1 z.2.2).2.2.1 ∧ (enq n TU SI EN (nI kd) a (if kd = 0 then 0 else c) (if kd = 1 then d else 0) z.1 z.2.1 z.2.2).2.1 = z.1 + 1) := by
  obtain ⟨HR, r0, r1, r2, E, HT, ho⟩ := H
  have M := HR.1
  have hn := HR.2.1.1
  have s0 : Ref_small (σ.2.2 0) h = some (smI a) := by rw [e0]; exact small_p a h
  obtain ⟨y1, s1⟩ := small_a (σ.2.2 1) h
  have t49 : gI h 12 b 49 = some (nI (pmw 0 kd)) := M.i49.trans (congrArg some h49)
  have EO : Ref_obeys b h = if nI (pmw 0 kd) = (21 : Int32) then (gR h 12 b 52).bind fun x38 => (aJ h x38 (2 : Int32)).bind fun x40 => (Ref_small x40 h).bind fun x42 => (Ref_swapsKept b x42 (smI a) y1 h).bind fun r44 => some (r44.1, r44.2) else if nI (pmw 0 kd) = (24 : Int32) then (Ref_cutsKept b y1 (smI a) h).bind fun r35 => some (r35.1, r35.2) else (Ref_stepsKept b (smI a) h).bind fun r24 => (gR r24.2 12 b 28).bind fun x27 => if (0 : Int32) ≤ r24.1 then Ref_obeys_86 r24.1 r24.1 (2 : Int32) x27 r24.2 else (gR r24.2 12 b 28).bind fun x31 => (aI r24.2 0 x31 (2 : Int32)).bind fun x33 => Ref_obeys_86 r24.1 x33 (2 : Int32) x27 r24.2 := by
    unfold Ref_obeys
    rw [if_pos M.o, M.r52]
    simp only [Option.bind_some]
    rw [show aJ h (b + 1 + 21) (0 : Int32) = _ from M.aJ (i := 0) (by decide), show aJ h (b + 1 + 21) (1 : Int32) = _ from M.aJ (i := 1) (by decide)]
    simp only [Option.bind_some]
    rw [s0, s1, t49]
    rfl
  unfold enq
  rcases (show kd = 0 ∨ kd = 1 ∨ kd = 2 by omega) with rfl | rfl | rfl
  · rw [if_neg (fun w => by rcases w with w | w | w; exact ha w; exact hc w; exact hd w), if_pos (by decide)]
    obtain ⟨h2, σ2, x2, R2, C2, S2⟩ := tread_r HR HT (smI a)
    rw [trq_s hn] at x2 R2
    have q12 : σ2.2.1 12 = σ.2.1 12 := C2.1.2.1 12 (by decide)
    have nl : ∀ x : Int32, (0 : Int32) ≤ x ↔ ¬ x < 0 := fun x => by rw [tile, tilt]; omega
    by_cases q : (trq n TU SI EN z.2.2 a).1 < 0
    · -- put back as it was
      obtain ⟨h3, x3, M3, S3⟩ := R2.1.wr (r := 12) (i := 2) (by decide) (by decide) rfl (by decide) (σ.2.1 12 2)
      refine ⟨h3, (σ2.1, u2 σ2.2.1 12 2 (σ.2.1 12 2), σ2.2.2), (trq n TU SI EN z.2.2 a).1, ?_, ⟨C2.lo.tr ⟨fun _ _ => rfl, fun k hk => rs_ne (fun w => hk (by rw [w]; decide)), fun _ _ => rfl⟩, C2.1.1 47 (by decide), R2.2.2.2.1⟩, S2.tr S3, M3, ?_, ⟨fun w => absurd (of_decide_eq_true w) (fun v => v q), fun w => absurd q w⟩, fun w => absurd q w⟩
      · rw [EO, if_neg (by decide), if_neg (by decide), x2]
        simp only [Option.bind_some]
        rw [R2.1.r28]
        simp only [Option.bind_some]
        rw [if_neg (fun w => (nl _).mp w q), show aI h2 0 (b + 1 + 12) (2 : Int32) = some (σ.2.1 12 2) from (R2.1.rd (r := 12) (i := 2) (by decide) (by decide) (by decide)).trans (by rw [q12])]
        simp only [Option.bind_some]
        unfold Ref_obeys_86
        rw [show sI h2 (b + 1 + 12) (2 : Int32) _ = _ from x3]
        rfl
      · show σ2.2.1 12 1 = z.1
        rw [q12]; exact r1
    · obtain ⟨h3, x3, M3, S3⟩ := R2.1.wr (r := 12) (i := 2) (by decide) (by decide) rfl (by decide) (trq n TU SI EN z.2.2 a).1
      refine ⟨h3, (σ2.1, u2 σ2.2.1 12 2 (trq n TU SI EN z.2.2 a).1, σ2.2.2), (trq n TU SI EN z.2.2 a).1, ?_, ⟨C2.lo.tr ⟨fun _ _ => rfl, fun k hk => rs_ne (fun w => hk (by rw [w]; decide)), fun _ _ => rfl⟩, C2.1.1 47 (by decide), R2.2.2.2.1⟩, S2.tr S3, M3, ?_, ⟨fun _ => q, fun _ => decide_eq_true q⟩, fun _ => ⟨⟨M3, R2.2.1, R2.2.2.1, R2.2.2.2.1, R2.2.2.2.2⟩, ?_, ?_, rfl⟩⟩
      · rw [EO, if_neg (by decide), if_neg (by decide), x2]
        simp only [Option.bind_some]
        rw [R2.1.r28]
        simp only [Option.bind_some]
        rw [if_pos ((nl _).mpr q)]
        unfold Ref_obeys_86
        rw [show sI h2 (b + 1 + 12) (2 : Int32) _ = _ from x3]
        rfl
      · show σ2.2.1 12 1 = z.1
        rw [q12]; exact r1
      · show σ2.2.1 12 0 = nI n
        rw [q12]; exact r0
      · rfl
  · rw [if_neg (fun w => by rcases w with w | w | w; exact ha w; exact hc w; exact hd w), if_neg (by decide), if_pos (by decide)]
    have z1 := s1
    rw [e1 (by decide), small_p] at z1
    obtain rfl : smI c = y1 := Option.some.inj z1
    obtain ⟨h2, σ2, x2, R2, C2, S2⟩ := exchange_r HR (smI d) (smI a) (smI c)
    rw [exq_s hn ho] at x2 R2
    have q12 : σ2.2.1 12 = σ.2.1 12 := C2.1.2.1 12 (by decide)
    refine ⟨h2, σ2, _, ?_, ⟨C2.lo, C2.1.1 47 (by decide), R2.2.2.2.1⟩, S2, R2.1, by rw [q12]; exact r1, ⟨fun w => of_decide_eq_true w, fun w => decide_eq_true w⟩, fun _ => ⟨R2, by rw [q12]; exact r0, by rw [q12]; exact r2, rfl⟩⟩
    rw [EO, if_pos (by decide), M.r52]
    simp only [Option.bind_some]
    rw [show aJ h (b + 1 + 21) (2 : Int32) = _ from M.aJ (i := 2) (by decide), e2 rfl]
    simp only [Option.bind_some]
    rw [small_p]
    simp only [Option.bind_some]
    rw [x2]
    rfl
  · rw [if_neg (fun w => by rcases w with w | w | w; exact ha w; exact hc w; exact hd w), if_neg (by decide), if_neg (by decide)]
    have z1 := s1
    rw [e1 (by decide), small_p] at z1
    obtain rfl : smI c = y1 := Option.some.inj z1
    obtain ⟨h2, σ2, x2, R2, C2, S2⟩ := lift_r HR (smI c) (smI a)
    rw [lfq_s hn ho] at x2 R2
    have q12 : σ2.2.1 12 = σ.2.1 12 := C2.1.2.1 12 (by decide)
    refine ⟨h2, σ2, _, ?_, ⟨C2.lo, C2.1.1 47 (by decide), R2.2.2.2.1⟩, S2, R2.1, by rw [q12]; exact r1, ⟨fun w => of_decide_eq_true w, fun w => decide_eq_true w⟩, fun _ => ⟨R2, by rw [q12]; exact r0, by rw [q12]; exact r2, rfl⟩⟩
    rw [EO, if_neg (by decide), if_pos (by decide), x2]
    rfl
end OrdS
