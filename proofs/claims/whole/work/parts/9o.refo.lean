/-! PURE: the reference reads tests -/
section ReadO
variable {f : Nat → Int32} {t b n : Nat} {o : Int32} {σ0 : am_S} {h : am_H} {k : Nat} {s : PSt}

theorem readBoth_5_b (E : RE f t o σ0 n) {p dd : Nat} {v : Int32} (B : BdR t b σ0 n h p) : Ref_readBoth_5 dd b v h = some h := by
  rw [Ref_readBoth_5_e, takes_b E B]
  simp only [Option.bind_some]
  rw [if_pos (by first | rfl | trivial)]
theorem readBoth_5_l (E : RE f t o σ0 n) {dd : Nat} {v : Int32} {Pt : PSt → Bool × PSt} (HP : RfN f t b σ0 n (Ref_readPlain dd b v) Pt) : ∀ (m : Nat) (h : am_H) (k : Nat) (s : PSt), t ≤ s.1 + m → AtR f t b σ0 n h k s → ∃ h2, Ref_readBoth_5 (dd + 1) b v h = some h2 ∧ Same b h h2 ∧ Out f t b σ0 n h2 k (anL 8 13 Pt f t m true s) := by
  intro m
  induction m with
  | zero =>
    intro h k s hm A
    have hs := (A.le E).1
    have c0 := cdN_t (f := f) (show t ≤ s.1 by omega)
    obtain ⟨x0, e0, _, _, n0⟩ := takes_v E A (c := 6) (by decide) (by decide)
    have n0 := n0 (by omega)
    rw [n0] at e0
    refine ⟨h, ?_, Same.rf, Out.good (Nat.le_refl k) A⟩
    rw [Ref_readBoth_5_e, show Ref_takes0 b (6 : Int32) h = _ from e0]
    simp only [Option.bind_some]
    rw [if_pos (bI_0.mpr (fun z => by have := of_decide_eq_true z; omega))]
  | succ m ih =>
    intro h k s hm A
    have hs := (A.le E).1
    obtain ⟨h1, e1, S1, y1, n1⟩ := takes_v E A (c := 6) (by decide) (by decide)
    have dw : wdp f t 8 s ↔ cdN f t s.1 = 6 := wdp_iff hs (by decide) rfl
    rw [Ref_readBoth_5_e, show Ref_takes0 b (6 : Int32) h = _ from e1]
    simp only [Option.bind_some]
    by_cases q : cdN f t s.1 = 6
    · rw [if_neg (fun x => bI_0.mp x (decide_eq_true q)), if_pos (Nat.succ_pos dd), show dd + 1 - 1 = dd from rfl]
      have A1 := y1 q
      have A1e : AtR f t b σ0 n h1 (k + 1) (emt (gow f t s) 13) := A1
      obtain ⟨h2, e2, S2, y2, n2⟩ := HP.1 h1 (k + 1) _ A1e
      rw [e2]
      simp only [Option.bind_some]
      have el : anL 8 13 Pt f t (m + 1) true s = anL 8 13 Pt f t m (Pt (emt (gow f t s) 13)).1 (lnd (Pt (emt (gow f t s) 13)).2 s.2.1 13) := if_pos ⟨rfl, dw.mpr q⟩
      rw [el]
      by_cases g : (Pt (emt (gow f t s) 13)).1 = true
      · obtain ⟨k2, hk2, A2⟩ := y2 g
        have up := A1e.up E A2 hk2
        have up0 := A.up E A1 (Nat.le_succ k)
        have up0 : s.1 + (k + 1 - k) ≤ (emt (gow f t s) 13).1 := up0
        obtain ⟨h3, e3, S3, O3⟩ := ih h2 k2 (lnd (Pt (emt (gow f t s) 13)).2 s.2.1 13) (by show t ≤ (Pt (emt (gow f t s) 13)).2.1 + m; omega) A2
        refine ⟨h3, e3, S1.tr (S2.tr S3), ?_⟩
        rw [g]
        exact ⟨fun z => by obtain ⟨k3, h3, A3⟩ := O3.1 z; exact ⟨k3, by omega, A3⟩, O3.2⟩
      · have B2 := n2 g
        refine ⟨h2, readBoth_5_b E B2, S1.tr S2, ?_⟩
        have ef : anL 8 13 Pt f t m (Pt (emt (gow f t s) 13)).1 (lnd (Pt (emt (gow f t s) 13)).2 s.2.1 13) = (false, lnd (Pt (emt (gow f t s) 13)).2 s.2.1 13) := by
          rw [show (Pt (emt (gow f t s) 13)).1 = false by cases hx : (Pt (emt (gow f t s) 13)).1 <;> simp_all]
          cases m with
          | zero => rfl
          | succ m => exact if_neg (fun z => Bool.false_ne_true z.1)
        rw [ef]
        exact Out.bad B2
    · rw [if_pos (bI_0.mpr (fun z => q (of_decide_eq_true z))), n1 q]
      refine ⟨h, rfl, Same.rf, ?_⟩
      rw [show anL 8 13 Pt f t (m + 1) true s = (true, s) from if_neg (fun z => q (dw.mp z.2))]
      exact Out.good (Nat.le_refl k) A
theorem readBoth_of (E : RE f t o σ0 n) {dd : Nat} {v : Int32} {Pt : PSt → Bool × PSt} (HP : RfN f t b σ0 n (Ref_readPlain dd b v) Pt) : RfN f t b σ0 n (Ref_readBoth (dd + 1) b v) (anq 8 13 Pt f t) := by
  constructor
  · intro h k s A
    obtain ⟨h1, e1, S1, y1, n1⟩ := HP.1 h k s A
    unfold anq
    have ee : ∀ r, Ref_readBoth_5 (dd + 1) b v h1 = r → Ref_readBoth (dd + 1) b v h = r := fun r hr => by
      rw [Ref_readBoth_e, if_pos A.1.o, if_pos (Nat.succ_pos dd), show dd + 1 - 1 = dd from rfl, e1]
      exact hr
    by_cases g : (Pt s).1 = true
    · obtain ⟨k2, hk2, A2⟩ := y1 g
      obtain ⟨h3, e3, S3, O3⟩ := readBoth_5_l E HP 400 h1 k2 (Pt s).2 (by have := E.1; omega) A2
      refine ⟨h3, ee _ e3, S1.tr S3, ?_, ?_⟩
      · rw [g]; exact fun z => by obtain ⟨k3, h3, A3⟩ := O3.1 z; exact ⟨k3, by omega, A3⟩
      · rw [g]; exact O3.2
    · have B := n1 g
      have ef : anL 8 13 Pt f t 400 (Pt s).1 (Pt s).2 = (false, (Pt s).2) := by
        rw [show (Pt s).1 = false by cases hx : (Pt s).1 <;> simp_all]
        exact if_neg (fun z => Bool.false_ne_true z.1)
      rw [ef]
      exact ⟨h1, ee _ (readBoth_5_b E B), S1, fun z => absurd z Bool.false_ne_true, fun _ => B⟩
  · intro h p B
    rw [Ref_readBoth_e, if_pos B.ob, if_pos (Nat.succ_pos dd), show dd + 1 - 1 = dd from rfl, HP.2 h p B]
    exact readBoth_5_b E B
theorem readTest_5_b (E : RE f t o σ0 n) {p dd : Nat} {v : Int32} (B : BdR t b σ0 n h p) : Ref_readTest_5 dd b v h = some h := by
  rw [Ref_readTest_5_e, takes_b E B]
  simp only [Option.bind_some]
  rw [if_pos (by first | rfl | trivial)]
theorem readTest_5_l (E : RE f t o σ0 n) {dd : Nat} {v : Int32} {Pt : PSt → Bool × PSt} (HP : RfN f t b σ0 n (Ref_readBoth dd b v) Pt) : ∀ (m : Nat) (h : am_H) (k : Nat) (s : PSt), t ≤ s.1 + m → AtR f t b σ0 n h k s → ∃ h2, Ref_readTest_5 (dd + 1) b v h = some h2 ∧ Same b h h2 ∧ Out f t b σ0 n h2 k (anL 9 12 Pt f t m true s) := by
  intro m
  induction m with
  | zero =>
    intro h k s hm A
    have hs := (A.le E).1
    have c0 := cdN_t (f := f) (show t ≤ s.1 by omega)
    obtain ⟨x0, e0, _, _, n0⟩ := takes_v E A (c := 5) (by decide) (by decide)
    have n0 := n0 (by omega)
    rw [n0] at e0
    refine ⟨h, ?_, Same.rf, Out.good (Nat.le_refl k) A⟩
    rw [Ref_readTest_5_e, show Ref_takes0 b (5 : Int32) h = _ from e0]
    simp only [Option.bind_some]
    rw [if_pos (bI_0.mpr (fun z => by have := of_decide_eq_true z; omega))]
  | succ m ih =>
    intro h k s hm A
    have hs := (A.le E).1
    obtain ⟨h1, e1, S1, y1, n1⟩ := takes_v E A (c := 5) (by decide) (by decide)
    have dw : wdp f t 9 s ↔ cdN f t s.1 = 5 := wdp_iff hs (by decide) rfl
    rw [Ref_readTest_5_e, show Ref_takes0 b (5 : Int32) h = _ from e1]
    simp only [Option.bind_some]
    by_cases q : cdN f t s.1 = 5
    · rw [if_neg (fun x => bI_0.mp x (decide_eq_true q)), if_pos (Nat.succ_pos dd), show dd + 1 - 1 = dd from rfl]
      have A1 := y1 q
      have A1e : AtR f t b σ0 n h1 (k + 1) (emt (gow f t s) 12) := A1
      obtain ⟨h2, e2, S2, y2, n2⟩ := HP.1 h1 (k + 1) _ A1e
      rw [e2]
      simp only [Option.bind_some]
      have el : anL 9 12 Pt f t (m + 1) true s = anL 9 12 Pt f t m (Pt (emt (gow f t s) 12)).1 (lnd (Pt (emt (gow f t s) 12)).2 s.2.1 12) := if_pos ⟨rfl, dw.mpr q⟩
      rw [el]
      by_cases g : (Pt (emt (gow f t s) 12)).1 = true
      · obtain ⟨k2, hk2, A2⟩ := y2 g
        have up := A1e.up E A2 hk2
        have up0 := A.up E A1 (Nat.le_succ k)
        have up0 : s.1 + (k + 1 - k) ≤ (emt (gow f t s) 12).1 := up0
        obtain ⟨h3, e3, S3, O3⟩ := ih h2 k2 (lnd (Pt (emt (gow f t s) 12)).2 s.2.1 12) (by show t ≤ (Pt (emt (gow f t s) 12)).2.1 + m; omega) A2
        refine ⟨h3, e3, S1.tr (S2.tr S3), ?_⟩
        rw [g]
        exact ⟨fun z => by obtain ⟨k3, h3, A3⟩ := O3.1 z; exact ⟨k3, by omega, A3⟩, O3.2⟩
      · have B2 := n2 g
        refine ⟨h2, readTest_5_b E B2, S1.tr S2, ?_⟩
        have ef : anL 9 12 Pt f t m (Pt (emt (gow f t s) 12)).1 (lnd (Pt (emt (gow f t s) 12)).2 s.2.1 12) = (false, lnd (Pt (emt (gow f t s) 12)).2 s.2.1 12) := by
          rw [show (Pt (emt (gow f t s) 12)).1 = false by cases hx : (Pt (emt (gow f t s) 12)).1 <;> simp_all]
          cases m with
          | zero => rfl
          | succ m => exact if_neg (fun z => Bool.false_ne_true z.1)
        rw [ef]
        exact Out.bad B2
    · rw [if_pos (bI_0.mpr (fun z => q (of_decide_eq_true z))), n1 q]
      refine ⟨h, rfl, Same.rf, ?_⟩
      rw [show anL 9 12 Pt f t (m + 1) true s = (true, s) from if_neg (fun z => q (dw.mp z.2))]
      exact Out.good (Nat.le_refl k) A
theorem readTest_of (E : RE f t o σ0 n) {dd : Nat} {v : Int32} {Pt : PSt → Bool × PSt} (HP : RfN f t b σ0 n (Ref_readBoth dd b v) Pt) : RfN f t b σ0 n (Ref_readTest (dd + 1) b v) (anq 9 12 Pt f t) := by
  constructor
  · intro h k s A
    obtain ⟨h1, e1, S1, y1, n1⟩ := HP.1 h k s A
    unfold anq
    have ee : ∀ r, Ref_readTest_5 (dd + 1) b v h1 = r → Ref_readTest (dd + 1) b v h = r := fun r hr => by
      rw [Ref_readTest_e, if_pos A.1.o, if_pos (Nat.succ_pos dd), show dd + 1 - 1 = dd from rfl, e1]
      exact hr
    by_cases g : (Pt s).1 = true
    · obtain ⟨k2, hk2, A2⟩ := y1 g
      obtain ⟨h3, e3, S3, O3⟩ := readTest_5_l E HP 400 h1 k2 (Pt s).2 (by have := E.1; omega) A2
      refine ⟨h3, ee _ e3, S1.tr S3, ?_, ?_⟩
      · rw [g]; exact fun z => by obtain ⟨k3, h3, A3⟩ := O3.1 z; exact ⟨k3, by omega, A3⟩
      · rw [g]; exact O3.2
    · have B := n1 g
      have ef : anL 9 12 Pt f t 400 (Pt s).1 (Pt s).2 = (false, (Pt s).2) := by
        rw [show (Pt s).1 = false by cases hx : (Pt s).1 <;> simp_all]
        exact if_neg (fun z => Bool.false_ne_true z.1)
      rw [ef]
      exact ⟨h1, ee _ (readTest_5_b E B), S1, fun z => absurd z Bool.false_ne_true, fun _ => B⟩
  · intro h p B
    rw [Ref_readTest_e, if_pos B.ob, if_pos (Nat.succ_pos dd), show dd + 1 - 1 = dd from rfl, HP.2 h p B]
    exact readTest_5_b E B
theorem readPlain_2_n (E : RE f t o σ0 n) {dd : Nat} {v : Int32} : ∀ (m : Nat) (h : am_H) (k : Nat) (s : PSt) (c : Bool), t ≤ s.1 + m → AtR f t b σ0 n h k s → ∃ h2 k2, Ref_readPlain_2 dd b v 1 h = Ref_readPlain_2 dd b v 0 h2 ∧ Same b h h2 ∧ k ≤ k2 ∧ AtR f t b σ0 n h2 k2 (ntL f t m c s).2 := by
  intro m
  induction m with
  | zero =>
    intro h k s c hm A
    have hs := (A.le E).1
    have c0 := cdN_t (f := f) (show t ≤ s.1 by omega)
    obtain ⟨x0, e0, _, _, n0⟩ := takes_v E A (c := 7) (by decide) (by decide)
    have n0 := n0 (by omega)
    rw [n0] at e0
    refine ⟨h, k, ?_, Same.rf, Nat.le_refl k, A⟩
    rw [Ref_readPlain_2_e, if_neg (by decide), show Ref_takes0 b (7 : Int32) h = _ from e0]
    simp only [Option.bind_some]
    rw [show bI (decide (cdN f t s.1 = 7)) = 0 from if_neg (fun z => by have := of_decide_eq_true z; omega)]
  | succ m ih =>
    intro h k s c hm A
    have hs := (A.le E).1
    obtain ⟨h1, e1, S1, y1, n1⟩ := takes_v E A (c := 7) (by decide) (by decide)
    have dw : wdp f t 7 s ↔ cdN f t s.1 = 7 := wdp_iff hs (by decide) rfl
    rw [Ref_readPlain_2_e, if_neg (by decide), show Ref_takes0 b (7 : Int32) h = _ from e1]
    simp only [Option.bind_some]
    unfold ntL
    by_cases q : cdN f t s.1 = 7
    · rw [show bI (decide (cdN f t s.1 = 7)) = 1 from if_pos (decide_eq_true q), if_pos (dw.mpr q)]
      have A1 := y1 q
      have up0 := A.up E A1 (Nat.le_succ k)
      obtain ⟨h2, k2, e2, S2, hk2, A2⟩ := ih h1 (k + 1) (gow f t s) (!c) (by omega) A1
      exact ⟨h2, k2, e2, S1.tr S2, by omega, A2⟩
    · rw [show bI (decide (cdN f t s.1 = 7)) = 0 from if_neg (fun z => q (of_decide_eq_true z)), if_neg (fun z => q (dw.mp z)), n1 q]
      exact ⟨h, k, rfl, Same.rf, Nat.le_refl k, A⟩
theorem readPlain_b (E : RE f t o σ0 n) {p dd : Nat} {v : Int32} (B : BdR t b σ0 n h p) : Ref_readPlain dd b v h = some h := by
  rw [Ref_readPlain_e, if_pos B.ob, Ref_readPlain_2_e, if_neg (by decide), takes_b E B]
  simp only [Option.bind_some]
  rw [Ref_readPlain_2_e, if_pos (by first | rfl | trivial), B.fine E]
  simp only [Option.bind_some]
  rw [if_pos (by first | rfl | trivial)]
/-- what follows the nots, at code c -/
theorem readPlain_cmp (E : RE f t o σ0 n) {dd d : Nat} (hd : d ≤ 8) (A : AtR f t b σ0 n h k s) (q40 : ¬ sgp f t 40 s) : ∃ h2, Ref_readPlain_2 dd b (nI (8 - d)) 0 h = some h2 ∧ Same b h h2 ∧ Out f t b σ0 n h2 k (cmS (smd f t o d) f t s) := by
  obtain ⟨g1, g2, g3, _⟩ := A.cd E
  have hb := cdN_b (f := f) (t := t) (y := s.1)
  have HS := readSum_v (b := b) E d hd 40 (by omega)
  obtain ⟨h1, e1, S1, y1, n1⟩ := HS.1 h k s A
  have q140 : ¬ cdN f t s.1 = 100 + 40 := fun z => q40 ((sgp_c E.2.1 (c := 40) (k := 40) (by decide) (by decide)).mpr z)
  have e0 : Ref_readPlain_2 dd b (nI (8 - d)) 0 h = ((Ref_takes0 b (nI 160) h1).bind fun r22 => if r22.1 = (0 : Int32) then (Ref_takes0 b (nI 162) r22.2).bind fun r29 => if r29.1 = (0 : Int32) then (Ref_must b (nI 161) r29.2).bind fun h36 => Ref_readPlain_128 dd b (nI (8 - d)) h36 else Ref_readPlain_128 dd b (nI (8 - d)) r29.2 else Ref_readPlain_128 dd b (nI (8 - d)) r22.2) := by
    rw [Ref_readPlain_2_e, if_pos rfl, A.fine]
    simp only [Option.bind_some]
    rw [if_neg (by decide), A.1.r14, g1]
    simp only [Option.bind_some]
    rw [g2]
    unfold Ref_sign
    simp only [Option.bind_some]
    rw [if_neg (show ¬ nI (cdN f t s.1) = (100 : Int32) + 40 from nIne (b := 140) (by omega) (by decide) q140), e1]
    rfl
  have e128 : ∀ h3 r, Ref_readSum 40 b (nI (8 - d)) h3 = some r → Ref_readPlain_128 dd b (nI (8 - d)) h3 = some r := fun h3 r hr => by
    rw [Ref_readPlain_128_e, hr]
    rfl
  rw [e0]
  unfold cmS cmR
  by_cases g : (smd f t o d s).1 = true
  · obtain ⟨k1, hk1, A1⟩ := y1 g
    have go : ∀ h2, AtR f t b σ0 n h2 (k1 + 1) (gow f t (smd f t o d s).2) → Same b h1 h2 → ¬ cmq f t (smd f t o d s).2 = 0 → ∃ h3, Ref_readPlain_128 dd b (nI (8 - d)) h2 = some h3 ∧ Same b h h3 ∧ Out f t b σ0 n h3 k (if (smd f t o d s).1 = true ∧ ¬ cmq f t (smd f t o d s).2 = 0 then ((smd f t o d (gow f t (smd f t o d s).2)).1, emt (smd f t o d (gow f t (smd f t o d s).2)).2 (cmq f t (smd f t o d s).2)) else (false, emt (smd f t o d s).2 0)) := fun h2 A2 S2 hq => by
      obtain ⟨h3, e3, S3, y3, n3⟩ := HS.1 h2 (k1 + 1) _ A2
      refine ⟨h3, e128 _ _ e3, S1.tr (S2.tr S3), ?_⟩
      rw [if_pos ⟨g, hq⟩]
      exact ⟨fun z => by obtain ⟨k3, h3, A3⟩ := y3 z; exact ⟨k3, by omega, A3⟩, n3⟩
    generalize smd f t o d s = r at *
    have d0 := sgp_c (s := r.2) E.2.1 (c := 60) (k := 60) (by decide) (by decide)
    have d1 := sgp_c (s := r.2) E.2.1 (c := 62) (k := 62) (by decide) (by decide)
    have d2 := sgp_c (s := r.2) E.2.1 (c := 61) (k := 61) (by decide) (by decide)
    obtain ⟨x0, t0, T0, z0, w0⟩ := takes_v E A1 (c := 160) (by decide) (by decide)
    obtain ⟨x1, t1, T1, z1, w1⟩ := takes_v E A1 (c := 162) (by decide) (by decide)
    obtain ⟨x2, t2, T2, z2, w2⟩ := must_v E A1 (c := 161) (by decide) (by decide)
    rw [t0]
    simp only [Option.bind_some]
    by_cases q0 : cdN f t r.2.1 = 160
    · rw [if_neg (fun x => bI_0.mp x (decide_eq_true q0))]
      refine go x0 (z0 q0) T0 ?_
      unfold cmq
      rw [if_pos (d0.mpr q0)]; decide
    · rw [if_pos (bI_0.mpr (fun z => q0 (of_decide_eq_true z))), w0 q0, t1]
      simp only [Option.bind_some]
      by_cases q1 : cdN f t r.2.1 = 162
      · rw [if_neg (fun x => bI_0.mp x (decide_eq_true q1))]
        refine go x1 (z1 q1) T1 ?_
        unfold cmq
        rw [if_neg (fun z => q0 (d0.mp z)), if_pos (d1.mpr q1)]; decide
      · rw [if_pos (bI_0.mpr (fun z => q1 (of_decide_eq_true z))), w1 q1, t2]
        simp only [Option.bind_some]
        by_cases q2 : cdN f t r.2.1 = 161
        · refine go x2 (z2 q2) T2 ?_
          unfold cmq
          rw [if_neg (fun z => q0 (d0.mp z)), if_neg (fun z => q1 (d1.mp z)), if_pos (d2.mpr q2)]; decide
        · have B2 := w2 q2
          refine ⟨x2, e128 _ _ (HS.2 _ _ B2), S1.tr T2, ?_⟩
          rw [if_neg (fun z => z.2 (by unfold cmq; rw [if_neg (fun z => q0 (d0.mp z)), if_neg (fun z => q1 (d1.mp z)), if_neg (fun z => q2 (d2.mp z))]))]
          exact Out.bad B2
  · have B1 := n1 g
    rw [takes_b E B1]
    simp only [Option.bind_some]
    rw [if_pos (by first | rfl | trivial), takes_b E B1]
    simp only [Option.bind_some]
    rw [if_pos (by first | rfl | trivial), must_b E B1]
    simp only [Option.bind_some]
    refine ⟨h1, e128 _ _ (HS.2 _ _ B1), S1, ?_⟩
    rw [if_neg (fun z => g z.1)]
    exact Out.bad B1
theorem Out.nt {h2 : am_H} {c : Bool} {r : Bool × PSt} (O : Out f t b σ0 n h2 k r) : Out f t b σ0 n h2 k (nto c r) := by
  unfold nto
  by_cases q : c = true
  · rw [if_pos q]; exact O
  · rw [if_neg q]; exact O
theorem readPlain_of (E : RE f t o σ0 n) {dd : Nat} {v : Int32} {Pr : PSt → Bool × PSt} (H : ∀ h k s, AtR f t b σ0 n h k s → ∃ h2, Ref_readPlain_2 dd b v 0 h = some h2 ∧ Same b h h2 ∧ Out f t b σ0 n h2 k (Pr s)) : RfN f t b σ0 n (Ref_readPlain dd b v) (pln Pr f t) := by
  refine ⟨fun h k s A => ?_, fun h p B => readPlain_b E B⟩
  obtain ⟨h1, k1, e1, S1, hk1, A1⟩ := readPlain_2_n (dd := dd) (v := v) E 400 h k s false (by have := E.1; omega) A
  obtain ⟨h2, e2, S2, O2⟩ := H h1 k1 _ A1
  have O3 := O2.nt (c := (ntL f t 400 false s).1)
  refine ⟨h2, ?_, S1.tr S2, fun z => by obtain ⟨k3, h3, A3⟩ := O3.1 z; exact ⟨k3, by omega, A3⟩, O3.2⟩
  rw [Ref_readPlain_e, if_pos A.1.o]
  exact e1.trans e2
theorem readPlain_0 (E : RE f t o σ0 n) {dd : Nat} : RfN f t b σ0 n (Ref_readPlain dd b (nI (8 - 0))) (pln (plr (smd f t o 0) false (fun s => (false, s)) f t) f t) := by
  refine readPlain_of E (fun h k s A => ?_)
  unfold plr
  by_cases q : sgp f t 40 s
  · rw [if_pos q, if_neg (by decide)]
    have qc := (sgp_c E.2.1 (c := 40) (k := 40) (by decide) (by decide)).mp q
    obtain ⟨hf, ef, Sf, Bf⟩ := faults_v E A
    obtain ⟨g1, g2, g3, _⟩ := A.cd E
    refine ⟨hf, ?_, Sf, Out.bad Bf⟩
    rw [Ref_readPlain_2_e, if_pos rfl, A.fine]
    simp only [Option.bind_some]
    rw [if_neg (by decide), A.1.r14, g1]
    simp only [Option.bind_some]
    rw [g2]
    unfold Ref_sign
    simp only [Option.bind_some]
    rw [if_pos (by rw [qc]; rfl), if_pos (by decide), ef]
    simp only [Option.bind_some]
    rw [Ref_readPlain_53_e, Bf.fine E]
    simp only [Option.bind_some]
    rw [if_pos (by first | rfl | trivial)]
  · rw [if_neg q]
    exact readPlain_cmp E (Nat.zero_le _) A q
theorem readPlain_more (E : RE f t o σ0 n) {dd d : Nat} (hd : d + 1 ≤ 8) {Ts : PSt → Bool × PSt} (HT : RfN f t b σ0 n (Ref_readTest dd b (nI (8 - d))) Ts) : RfN f t b σ0 n (Ref_readPlain (dd + 1) b (nI (8 - (d + 1)))) (pln (plr (smd f t o (d + 1)) true Ts f t) f t) := by
  refine readPlain_of E (fun h k s A => ?_)
  unfold plr
  by_cases q : sgp f t 40 s
  · rw [if_pos q, if_pos rfl]
    have qc := (sgp_c E.2.1 (c := 40) (k := 40) (by decide) (by decide)).mp q
    have hst : s.1 < t := tkd_y (f := f) (by have := q.1; omega)
    obtain ⟨g1, g2, g3, _⟩ := A.cd E
    obtain ⟨h1, e1, S1, A1⟩ := A.nx E hst
    obtain ⟨h2, e2, S2, y2, n2⟩ := HT.1 h1 (k + 1) _ A1
    have ee : ∀ r, Ref_must b (nI 141) h2 = some r → Ref_readPlain_2 (dd + 1) b (nI (8 - (d + 1))) 0 h = some r := fun r hr => by
      rw [Ref_readPlain_2_e, if_pos rfl, A.fine]
      simp only [Option.bind_some]
      rw [if_neg (by decide), A.1.r14, g1]
      simp only [Option.bind_some]
      rw [g2]
      unfold Ref_sign
      simp only [Option.bind_some]
      rw [if_pos (by rw [qc]; rfl), if_neg (show ¬ nI (8 - (d + 1)) = (8 : Int32) from nIne (b := 8) (by omega) (by decide) (by omega)), Ref_readPlain_53_e, A.fine]
      simp only [Option.bind_some]
      rw [if_neg (by decide), g1]
      simp only [Option.bind_some]
      rw [nI_p1, e1]
      simp only [Option.bind_some]
      rw [if_pos (Nat.succ_pos dd), show dd + 1 - 1 = dd from rfl, nI_p1, show 8 - (d + 1) + 1 = 8 - d by omega, e2]
      unfold Ref_sign
      simp only [Option.bind_some]
      rw [show Ref_must b ((100 : Int32) + 41) h2 = some r from hr]
      rfl
    generalize Ts (gow f t s) = r at *
    unfold bra
    by_cases g : r.1 = true
    · rw [if_pos g]
      obtain ⟨k2, hk2, A2⟩ := y2 g
      obtain ⟨h3, e3, S3, y3, n3⟩ := must_v E A2 (c := 141) (by decide) (by decide)
      have qc2 := sgp_c (s := r.2) E.2.1 (c := 41) (k := 41) (by decide) (by decide)
      refine ⟨h3, ee _ e3, (S1.tr S2).tr S3, ?_⟩
      by_cases q3 : sgp f t 41 r.2
      · rw [if_pos q3]
        exact Out.good (by omega) (y3 (qc2.mp q3))
      · rw [if_neg q3]
        exact Out.bad (n3 (fun z => q3 (qc2.mpr z)))
    · rw [if_neg g]
      have B := n2 g
      exact ⟨h2, ee _ (must_b E B _), S1.tr S2, Out.bad B⟩
  · rw [if_neg q]
    exact readPlain_cmp E hd A q
theorem readTest_v (E : RE f t o σ0 n) : ∀ (d : Nat), d ≤ 8 → ∀ dd, 3 * d + 2 ≤ dd → RfN f t b σ0 n (Ref_readTest dd b (nI (8 - d))) (tss f t o d)
  | 0, _, dd, hdd => by
    obtain ⟨e, rfl⟩ : ∃ e, dd = e + 1 + 1 := ⟨dd - 2, by omega⟩
    exact readTest_of E (readBoth_of E (readPlain_0 E))
  | d + 1, hd, dd, hdd => by
    obtain ⟨e, rfl⟩ : ∃ e, dd = e + 1 + 1 + 1 := ⟨dd - 3, by omega⟩
    exact readTest_of E (readBoth_of E (readPlain_more E hd (readTest_v E d (by omega) e (by omega))))
end ReadO
