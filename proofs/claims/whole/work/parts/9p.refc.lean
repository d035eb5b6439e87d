/-! PURE: the reference reads clauses, and whole texts -/
def RfC (f : Nat → Int32) (t b : Nat) (σ0 : am_S) (n : Nat) (X : am_H → Option am_H) (P : CSt → Bool × CSt) : Prop := (∀ h k (S : CSt), AtR f t b σ0 n h k S.1 → ∃ h2, X h = some h2 ∧ Same b h h2 ∧ Out f t b σ0 n h2 k ((P S).1, (P S).2.1)) ∧ (∀ h p, BdR t b σ0 n h p → X h = some h)
section ReadP2
variable {f : Nat → Int32} {t b n : Nat} {o : Int32} {σ0 : am_S} {h : am_H} {k : Nat} {S : CSt}
theorem Out.le {h2 : am_H} {k k2 : Nat} {r : Bool × PSt} (O : Out f t b σ0 n h2 k2 r) (hk : k ≤ k2) : Out f t b σ0 n h2 k r := ⟨fun z => by obtain ⟨k3, h3, A3⟩ := O.1 z; exact ⟨k3, by omega, A3⟩, O.2⟩
theorem RfC_thn {X Y : am_H → Option am_H} {P Q : CSt → Bool × CSt} (HX : RfC f t b σ0 n X P) (HY : RfC f t b σ0 n Y Q) : RfC f t b σ0 n (fun h => (X h).bind Y) (thn P Q) := by
  constructor
  · intro h k S A
    obtain ⟨h1, e1, S1, O1⟩ := HX.1 h k S A
    unfold thn
    by_cases g : (P S).1 = true
    · rw [if_pos g]
      obtain ⟨k1, hk1, A1⟩ := O1.1 g
      obtain ⟨h2, e2, S2, O2⟩ := HY.1 h1 k1 (P S).2 A1
      refine ⟨h2, ?_, S1.tr S2, O2.le hk1⟩
      show (X h).bind Y = _
      rw [e1]; exact e2
    · rw [if_neg g]
      have B := O1.2 g
      refine ⟨h1, ?_, S1, Out.bad B⟩
      show (X h).bind Y = _
      rw [e1]; exact HY.2 _ _ B
  · intro h p B
    show (X h).bind Y = _
    rw [HX.2 h p B]; exact HY.2 h p B
theorem rsm_r (E : RE f t o σ0 n) (i : Nat) : RfC f t b σ0 n (Ref_readSum 40 b 0) (rsm f t o i) := by
  have H := readSum_v (b := b) E 8 (Nat.le_refl _) 40 (by decide)
  refine ⟨fun h k S A => ?_, H.2⟩
  obtain ⟨h2, e2, S2, O2⟩ := H.1 h k S.1 A
  exact ⟨h2, e2, S2, O2⟩
theorem rif_r (E : RE f t o σ0 n) : RfC f t b σ0 n (Ref_readClause_29 b) (rif f t o) := by
  have H := readTest_v (b := b) E 8 (Nat.le_refl _) 40 (by decide)
  constructor
  · intro h k S A
    have hs := (A.le E).1
    obtain ⟨h1, e1, S1, y1, n1⟩ := takes_v E A (c := 4) (by decide) (by decide)
    have dw : wdp f t 6 S.1 ↔ cdN f t S.1.1 = 4 := wdp_iff hs (by decide) rfl
    unfold Ref_readClause_29
    rw [show Ref_takes0 b (4 : Int32) h = _ from e1]
    simp only [Option.bind_some]
    unfold rif
    by_cases q : cdN f t S.1.1 = 4
    · rw [if_neg (fun x => bI_0.mp x (decide_eq_true q)), if_pos (dw.mpr q)]
      obtain ⟨h2, e2, S2, O2⟩ := H.1 h1 (k + 1) _ (y1 q)
      rw [show Ref_readTest 40 b (0 : Int32) h1 = _ from e2]
      exact ⟨h2, rfl, S1.tr S2, Out.le (k2 := k + 1) O2 (Nat.le_succ k)⟩
    · rw [if_pos (bI_0.mpr (fun z => q (of_decide_eq_true z))), if_neg (fun z => q (dw.mp z)), n1 q]
      exact ⟨h, rfl, Same.rf, Out.good (Nat.le_refl k) A⟩
  · intro h p B
    unfold Ref_readClause_29
    rw [takes_b E B]
    simp only [Option.bind_some]
    rw [if_pos (by first | rfl | trivial)]
theorem rif_o (h : am_H) : Ref_readOrder_84 b h = Ref_readClause_29 b h := rfl
theorem tkw_r (E : RE f t o σ0 n) {w : Nat} (hw : w < 11) (h1 : (wdc w).length = 1) : RfC f t b σ0 n (Ref_must b (nI (pmw w 0))) (tkw f t w) := by
  have hp := (wd_lk w hw 0 (by omega)).2.2
  refine ⟨fun h k S A => ?_, fun h p B => must_b E B _⟩
  have hs := (A.le E).1
  obtain ⟨h2, e2, S2, y2, n2⟩ := must_v E A (c := pmw w 0) (by omega) (by omega)
  have dw := wdp_iff (s := S.1) (f := f) (t := t) hs hw h1
  refine ⟨h2, e2, S2, ?_⟩
  unfold tkw
  by_cases q : wdp f t w S.1
  · rw [if_pos q]; exact Out.good (Nat.le_succ k) (y2 (dw.mp q))
  · rw [if_neg q]; exact Out.bad (n2 (fun z => q (dw.mpr z)))
theorem rtm_r (E : RE f t o σ0 n) : RfC f t b σ0 n (fun h => (Ref_takes0 b 25 h).bind fun r => if r.1 = (0 : Int32) then Ref_readOrder_84 b r.2 else (Ref_mustNumber b 1 20 r.2).bind fun h2 => Ref_readOrder_84 b h2) (thn (rtm f t) (rif f t o)) := by
  have H := rif_r (b := b) E
  constructor
  · intro h k S A
    have hs := (A.le E).1
    obtain ⟨h1, e1, S1, y1, n1⟩ := takes_v E A (c := 25) (by decide) (by decide)
    have dw : wdp f t 5 S.1 ↔ cdN f t S.1.1 = 25 := wdp_iff hs (by decide) rfl
    show ∃ h2, (Ref_takes0 b 25 h).bind _ = some h2 ∧ _
    rw [show Ref_takes0 b (25 : Int32) h = _ from e1]
    simp only [Option.bind_some]
    unfold thn rtm
    by_cases q : cdN f t S.1.1 = 25
    · rw [if_neg (fun x => bI_0.mp x (decide_eq_true q))]
      simp only [if_pos (dw.mpr q)]
      obtain ⟨h2, e2, S2, y2, n2⟩ := mustNumber_v E (y1 q) (lo := 1) (hi := 20) (by decide) (by decide)
      rw [show Ref_mustNumber b (1 : Int32) (20 : Int32) h1 = _ from e2]
      simp only [Option.bind_some]
      by_cases q2 : tkd f t (gow f t S.1).1 = 2 ∧ 1 ≤ nmv f t (gow f t S.1) ∧ nmv f t (gow f t S.1) ≤ 20
      · simp only [if_pos q2]
        rw [if_pos (by first | rfl | trivial)]
        obtain ⟨h3, e3, S3, O3⟩ := H.1 h2 (k + 1 + 1) (gow f t (gow f t S.1), S.2.1, S.2.2.1, S.2.2.2.1, S.2.2.2.2.1, upd S.2.2.2.2.2 (S.2.1 - 1) (nI (nmv f t (gow f t S.1)))) (y2 q2)
        exact ⟨h3, e3, S1.tr (S2.tr S3), O3.le (by omega)⟩
      · simp only [if_neg q2]
        rw [if_neg Bool.false_ne_true]
        have B := n2 q2
        exact ⟨h2, H.2 _ _ B, S1.tr S2, Out.bad B⟩
    · rw [if_pos (bI_0.mpr (fun z => q (of_decide_eq_true z))), n1 q]
      simp only [if_neg (fun z => q (dw.mp z))]
      rw [if_pos (by first | rfl | trivial)]
      obtain ⟨h3, e3, S3, O3⟩ := H.1 h k S A
      exact ⟨h3, e3, S3, O3⟩
  · intro h p B
    show (Ref_takes0 b 25 h).bind _ = _
    rw [takes_b E B]
    simp only [Option.bind_some]
    rw [if_pos (by first | rfl | trivial)]
    exact H.2 h p B
theorem r63 (E : RE f t o σ0 n) (i : Nat) : RfC f t b σ0 n (Ref_readOrder_63 b) (thn (rsm f t o i) (thn (rtm f t) (rif f t o))) := RfC_thn (rsm_r E i) (rtm_r E)
theorem Atb {h2 : am_H} {k2 : Nat} {kd : Int32} (A : AtR f t b σ0 n h2 k2 (gow f t S.1)) : AtR f t b σ0 n h2 k2 (bgn f t kd S).1 := A
theorem rru_r (E : RE f t o σ0 n) : RfC f t b σ0 n (Ref_readClause b) (rru f t o) := by
  have H29 := rif_r (b := b) E
  have H16 : RfC f t b σ0 n (Ref_readClause_16 b) (thn (rsm f t o 0) (rif f t o)) := RfC_thn (rsm_r E 0) H29
  constructor
  · intro h k S A
    have hs := (A.le E).1
    obtain ⟨x1, e1, S1, y1, n1⟩ := takes_v E A (c := 1) (by decide) (by decide)
    obtain ⟨x2, e2, S2, y2, n2⟩ := takes_v E A (c := 2) (by decide) (by decide)
    obtain ⟨x3, e3, S3, y3, n3⟩ := must_v E A (c := 3) (by decide) (by decide)
    have a0 : amg f t 10 S.1 = nI 0 ↔ cdN f t S.1.1 = 1 := amg_iff hs (by decide) (by decide)
    have a1 : amg f t 10 S.1 = nI 1 ↔ cdN f t S.1.1 = 2 := amg_iff hs (by decide) (by decide)
    have a2 : amg f t 10 S.1 = nI 2 ↔ cdN f t S.1.1 = 3 := amg_iff hs (by decide) (by decide)
    have an : amg f t 10 S.1 = -1 ↔ ∀ k, k < 3 → ¬ cdN f t S.1.1 = pmw 10 k := amg_no hs (by decide)
    unfold Ref_readClause
    rw [if_pos A.1.o, show Ref_takes0 b (1 : Int32) h = _ from e1]
    simp only [Option.bind_some]
    unfold rru
    by_cases q1 : cdN f t S.1.1 = 1
    · have g := a0.mpr q1
      rw [if_neg (fun x => bI_0.mp x (decide_eq_true q1)), if_neg (by rw [g]; decide), if_neg (by rw [g]; decide)]
      obtain ⟨h3, e4, S4, O4⟩ := H16.1 x1 (k + 1) (bgn f t (amg f t 10 S.1) S) (y1 q1)
      exact ⟨h3, e4, S1.tr S4, O4.le (Nat.le_succ k)⟩
    · rw [if_pos (bI_0.mpr (fun z => q1 (of_decide_eq_true z))), n1 q1, show Ref_takes0 b (2 : Int32) h = _ from e2]
      simp only [Option.bind_some]
      by_cases q2 : cdN f t S.1.1 = 2
      · have g := a1.mpr q2
        rw [if_neg (fun x => bI_0.mp x (decide_eq_true q2)), if_neg (by rw [g]; decide), if_neg (by rw [g]; decide)]
        obtain ⟨h3, e4, S4, O4⟩ := H16.1 x2 (k + 1) (bgn f t (amg f t 10 S.1) S) (y2 q2)
        exact ⟨h3, e4, S2.tr S4, O4.le (Nat.le_succ k)⟩
      · rw [if_pos (bI_0.mpr (fun z => q2 (of_decide_eq_true z))), n2 q2, show Ref_must b (3 : Int32) h = _ from e3]
        simp only [Option.bind_some]
        by_cases q3 : cdN f t S.1.1 = 3
        · have g := a2.mpr q3
          rw [if_neg (by rw [g]; decide), if_pos (by rw [g]; rfl)]
          obtain ⟨h3, e4, S4, O4⟩ := H29.1 x3 (k + 1) (bgn f t (amg f t 10 S.1) S) (y3 q3)
          exact ⟨h3, e4, S3.tr S4, O4.le (Nat.le_succ k)⟩
        · have B := n3 q3
          rw [if_pos (an.mpr (fun j hj => by
            rcases (show j = 0 ∨ j = 1 ∨ j = 2 by omega) with rfl | rfl | rfl
            · exact q1
            · exact q2
            · exact q3))]
          exact ⟨x3, H29.2 _ _ B, S3, Out.bad B⟩
  · intro h p B
    unfold Ref_readClause
    rw [if_pos B.ob, takes_b E B]
    simp only [Option.bind_some]
    rw [if_pos (by first | rfl | trivial), takes_b E B]
    simp only [Option.bind_some]
    rw [if_pos (by first | rfl | trivial), must_b E B]
    exact H29.2 h p B
theorem ror_r (E : RE f t o σ0 n) : RfC f t b σ0 n (Ref_readOrder b) (ror f t o) := by
  have T3 : RfC f t b σ0 n (Ref_must b 22) (tkw f t 3) := tkw_r E (w := 3) (by decide) rfl
  have T4 : RfC f t b σ0 n (Ref_must b 23) (tkw f t 4) := tkw_r E (w := 4) (by decide) rfl
  have HS := RfC_thn (rsm_r (b := b) E 0) (RfC_thn T3 (RfC_thn (rsm_r E 1) (RfC_thn T4 (r63 E 2))))
  have HC := RfC_thn (rsm_r (b := b) E 0) (RfC_thn T4 (r63 E 1))
  have H0 := r63 (b := b) E 0
  constructor
  · intro h k S A
    have hs := (A.le E).1
    obtain ⟨x1, e1, S1, y1, n1⟩ := takes_v E A (c := 21) (by decide) (by decide)
    obtain ⟨x2, e2, S2, y2, n2⟩ := takes_v E A (c := 24) (by decide) (by decide)
    obtain ⟨x3, e3, S3, y3, n3⟩ := must_v E A (c := 20) (by decide) (by decide)
    have a0 : amg f t 0 S.1 = nI 1 ↔ cdN f t S.1.1 = 21 := amg_iff hs (by decide) (by decide)
    have a1 : amg f t 0 S.1 = nI 2 ↔ cdN f t S.1.1 = 24 := amg_iff hs (by decide) (by decide)
    have a2 : amg f t 0 S.1 = nI 0 ↔ cdN f t S.1.1 = 20 := amg_iff hs (by decide) (by decide)
    have an : amg f t 0 S.1 = -1 ↔ ∀ k, k < 3 → ¬ cdN f t S.1.1 = pmw 0 k := amg_no hs (by decide)
    unfold Ref_readOrder
    rw [if_pos A.1.o, show Ref_takes0 b (21 : Int32) h = _ from e1]
    simp only [Option.bind_some]
    unfold ror
    by_cases q1 : cdN f t S.1.1 = 21
    · have g := a0.mpr q1
      rw [if_neg (fun x => bI_0.mp x (decide_eq_true q1)), if_neg (by rw [g]; decide), if_pos (by rw [g]; rfl)]
      obtain ⟨h3, e4, S4, O4⟩ := HS.1 x1 (k + 1) (bgn f t (amg f t 0 S.1) S) (y1 q1)
      exact ⟨h3, e4, S1.tr S4, O4.le (Nat.le_succ k)⟩
    · rw [if_pos (bI_0.mpr (fun z => q1 (of_decide_eq_true z))), n1 q1, show Ref_takes0 b (24 : Int32) h = _ from e2]
      simp only [Option.bind_some]
      by_cases q2 : cdN f t S.1.1 = 24
      · have g := a1.mpr q2
        rw [if_neg (fun x => bI_0.mp x (decide_eq_true q2)), if_neg (by rw [g]; decide), if_neg (by rw [g]; decide), if_pos (by rw [g]; rfl)]
        obtain ⟨h3, e4, S4, O4⟩ := HC.1 x2 (k + 1) (bgn f t (amg f t 0 S.1) S) (y2 q2)
        exact ⟨h3, e4, S2.tr S4, O4.le (Nat.le_succ k)⟩
      · rw [if_pos (bI_0.mpr (fun z => q2 (of_decide_eq_true z))), n2 q2, show Ref_must b (20 : Int32) h = _ from e3]
        simp only [Option.bind_some]
        by_cases q3 : cdN f t S.1.1 = 20
        · have g := a2.mpr q3
          rw [if_neg (by rw [g]; decide), if_neg (by rw [g]; decide), if_neg (by rw [g]; decide)]
          obtain ⟨h3, e4, S4, O4⟩ := H0.1 x3 (k + 1) (bgn f t (amg f t 0 S.1) S) (y3 q3)
          exact ⟨h3, e4, S3.tr S4, O4.le (Nat.le_succ k)⟩
        · have B := n3 q3
          rw [if_pos (an.mpr (fun j hj => by
            rcases (show j = 0 ∨ j = 1 ∨ j = 2 by omega) with rfl | rfl | rfl
            · exact q3
            · exact q1
            · exact q2))]
          exact ⟨x3, H0.2 _ _ B, S3, Out.bad B⟩
  · intro h p B
    unfold Ref_readOrder
    rw [if_pos B.ob, takes_b E B]
    simp only [Option.bind_some]
    rw [if_pos (by first | rfl | trivial), takes_b E B]
    simp only [Option.bind_some]
    rw [if_pos (by first | rfl | trivial), must_b E B]
    exact H0.2 h p B
theorem rcl_r (E : RE f t o σ0 n) : RfC f t b σ0 n (Ref_readOne b) (rcl f t o) := by
  have i9 : ∀ (h2 : am_H) (k2 l2 : Nat) (x : Int32), Mo b h2 (rst σ0 k2 l2 x) → gI h2 12 b 9 = some o := fun h2 k2 l2 x M => by rw [M.i9]; exact congrArg some E.2.2.2.2.2.1
  constructor
  · intro h k S A
    unfold Ref_readOne rcl
    rw [if_pos A.1.o, i9 _ _ _ _ A.1]
    simp only [Option.bind_some]
    by_cases q : o = 0
    · rw [if_pos q, if_pos q]
      obtain ⟨h2, e2, S2, O2⟩ := (rru_r (b := b) E).1 h k S A
      rw [e2]
      exact ⟨h2, rfl, S2, O2⟩
    · rw [if_neg q, if_neg q]
      obtain ⟨h2, e2, S2, O2⟩ := (ror_r (b := b) E).1 h k S A
      rw [e2]
      exact ⟨h2, rfl, S2, O2⟩
  · intro h p B
    obtain ⟨hp, k2, l2, hk2, M⟩ := B
    have B : BdR t b σ0 n h p := ⟨hp, k2, l2, hk2, M⟩
    unfold Ref_readOne
    rw [if_pos M.o, i9 _ _ _ _ M]
    simp only [Option.bind_some]
    by_cases q : o = 0
    · rw [if_pos q, (rru_r (b := b) E).2 h p B]
      rfl
    · rw [if_neg q, (ror_r (b := b) E).2 h p B]
      rfl
/-- a text was read: what is told, and where the fault is -/
def Red (t b : Nat) (σ0 : am_S) (n : Nat) (h2 : am_H) (r : Bool × CSt) : Prop := ∃ k l x, Mo b h2 (upd (rst σ0 k l x).1 13 (rdI r), σ0.2) ∧ k ≤ n
def afc (f : Nat → Int32) (t : Nat) (o : Int32) (m : Nat) (r : Bool × CSt) : Bool × CSt := if r.1 = true then (if r.2.1.1 = t then (true, r.2) else if sgp f t 59 r.2.1 then rdL f t o m (gow f t r.2.1, r.2.2) else (false, r.2)) else (false, r.2)
theorem reads_95 (E : RE f t o σ0 n) {r : Bool × CSt} (O : Out f t b σ0 n h k (r.1, r.2.1)) : ∃ h2, Ref_reads_95 b h = some (bI r.1, h2) ∧ Same b h h2 ∧ Red t b σ0 n h2 r := by
  by_cases g : r.1 = true
  · obtain ⟨k2, hk2, A⟩ := O.1 g
    obtain ⟨h2, e2, M2, S2⟩ := A.1.w13 (rdI r)
    have er : rdI r = -1 := if_pos g
    refine ⟨h2, ?_, S2, k2, _, _, M2, A.2.1⟩
    unfold Ref_reads_95
    rw [A.1.i20, show (rst σ0 k2 r.2.1.2.2.2.2 (-1)).1 20 = -1 from rfl]
    simp only [Option.bind_some]
    rw [← er, e2]
    simp only [Option.bind_some]
    unfold Ref_fine
    rw [if_pos M2.o, M2.i20]
    simp only [Option.bind_some]
    rw [show upd (rst σ0 k2 r.2.1.2.2.2.2 (-1)).1 13 (rdI r) 20 = -1 from rfl, if_pos (by first | rfl | trivial)]
    rw [g]; rfl
  · obtain ⟨hp, k2, l2, hk2, M⟩ := O.2 g
    obtain ⟨h2, e2, M2, S2⟩ := M.w13 (rdI r)
    have er : rdI r = nI r.2.1.1 := if_neg g
    have ht := E.1
    have hp : r.2.1.1 ≤ t := hp
    refine ⟨h2, ?_, S2, k2, _, _, M2, hk2⟩
    unfold Ref_reads_95
    rw [M.i20, show (rst σ0 k2 l2 (nI r.2.1.1)).1 20 = nI r.2.1.1 from rfl]
    simp only [Option.bind_some]
    rw [← er, e2]
    simp only [Option.bind_some]
    unfold Ref_fine
    rw [if_pos M2.o, M2.i20]
    simp only [Option.bind_some]
    rw [show upd (rst σ0 k2 l2 (nI r.2.1.1)).1 13 (rdI r) 20 = nI r.2.1.1 from rfl, if_neg (fun z => by have := congrArg Int32.toInt z; rw [tim1, tin (show r.2.1.1 < 2 ^ 31 by omega)] at this; omega)]
    rw [show r.1 = false by cases hx : r.1 <;> simp_all]; rfl
theorem reads_34_bad (E : RE f t o σ0 n) {r : Bool × CSt} (hr : ¬ r.1 = true) (v : Int32) (B : BdR t b σ0 n h r.2.1.1) : ∃ h2, Ref_reads_34 b v h = some (bI r.1, h2) ∧ Same b h h2 ∧ Red t b σ0 n h2 r := by
  obtain ⟨h2, e2, S2, R2⟩ := reads_95 (k := 0) E (r := r) (h := h) ⟨fun z => absurd z hr, fun _ => B⟩
  refine ⟨h2, ?_, S2, R2⟩
  rw [Ref_reads_34_e]
  unfold Ref_sign
  simp only [Option.bind_some]
  rw [takes_b E B]
  simp only [Option.bind_some]
  rw [if_pos (by first | rfl | trivial), B.fine E]
  simp only [Option.bind_some]
  rw [if_pos (by first | rfl | trivial)]
  exact e2
theorem reads_34_l (E : RE f t o σ0 n) : ∀ (m j : Nat) (h : am_H) (k : Nat) (r : Bool × CSt), j + m = 12 → Out f t b σ0 n h k (r.1, r.2.1) → ∃ h2, Ref_reads_34 b (nI j) h = some (bI (afc f t o m r).1, h2) ∧ Same b h h2 ∧ Red t b σ0 n h2 (afc f t o m r) := by
  intro m
  induction m with
  | zero =>
    intro j h k r hj O
    unfold afc
    by_cases g : r.1 = true
    · rw [if_pos g]
      obtain ⟨k2, hk2, A⟩ := O.1 g
      have A : AtR f t b σ0 n h k2 r.2.1 := A
      have ht := (A.le E)
      obtain ⟨h1, e1, S1, y1, n1⟩ := takes_v E A (c := 159) (by decide) (by decide)
      have d := sgp_c (s := r.2.1) E.2.1 (c := 59) (k := 59) (by decide) (by decide)
      rw [Ref_reads_34_e]
      unfold Ref_sign
      simp only [Option.bind_some]
      rw [show Ref_takes0 b ((100 : Int32) + 59) h = _ from e1]
      simp only [Option.bind_some]
      by_cases q : cdN f t r.2.1.1 = 159
      · have hne : ¬ r.2.1.1 = t := fun z => by have := cdN_t (f := f) (show t ≤ r.2.1.1 by omega); omega
        rw [if_neg (fun x => bI_0.mp x (decide_eq_true q)), if_neg hne, if_pos (d.mpr q), if_pos (show nI j = (12 : Int32) by rw [show j = 12 by omega]; rfl)]
        obtain ⟨h2, e2, S2, B2⟩ := faults_v E (y1 q)
        rw [e2]
        simp only [Option.bind_some]
        obtain ⟨h3, e3, S3, R3⟩ := reads_34_bad E (r := rdL f t o 0 (gow f t r.2.1, r.2.2)) Bool.false_ne_true (nI (j + 1)) B2
        refine ⟨h3, ?_, S1.tr (S2.tr S3), R3⟩
        rw [Ref_reads_56_e, B2.fine E]
        simp only [Option.bind_some]
        rw [if_pos (by first | rfl | trivial), Ref_reads_67_e, nI_p1]
        exact e3
      · rw [if_pos (bI_0.mpr (fun z => q (of_decide_eq_true z))), n1 q, A.fine]
        simp only [Option.bind_some]
        rw [if_neg (by decide), (A.cd E).1, A.1.i17]
        simp only [Option.bind_some]
        rw [show (rst σ0 k2 r.2.1.2.2.2.2 (-1)).1 17 = nI n from E.2.2.1.2.2.2.2.2.2]
        have tn := tin (show n < 2 ^ 31 by have := E.2.2.1.1; omega)
        have tk := tin (show k2 < 2 ^ 31 by omega)
        have hkn := A.2.1
        by_cases q2 : r.2.1.1 = t
        · rw [if_pos q2, if_pos (tile.mpr (by have := ht.2.1; omega))]
          exact reads_95 (k := k2) E (r := (true, r.2)) (Out.good (Nat.le_refl _) A)
        · rw [if_neg q2, if_neg (fun z => q2 (by have := tile.mp z; have := ht.2.1; omega)), if_neg (fun z => q (d.mp z))]
          obtain ⟨h2, e2, S2, B2⟩ := faults_v E A
          rw [e2]
          simp only [Option.bind_some]
          obtain ⟨h3, e3, S3, R3⟩ := reads_95 (k := k2) E (r := (false, r.2)) (Out.bad B2)
          exact ⟨h3, e3, S2.tr S3, R3⟩
    · rw [if_neg g]
      exact reads_34_bad E (r := (false, r.2)) Bool.false_ne_true _ (O.2 g)
  | succ m ih =>
    intro j h k r hj O
    unfold afc
    by_cases g : r.1 = true
    · rw [if_pos g]
      obtain ⟨k2, hk2, A⟩ := O.1 g
      have A : AtR f t b σ0 n h k2 r.2.1 := A
      have ht := (A.le E)
      obtain ⟨h1, e1, S1, y1, n1⟩ := takes_v E A (c := 159) (by decide) (by decide)
      have d := sgp_c (s := r.2.1) E.2.1 (c := 59) (k := 59) (by decide) (by decide)
      rw [Ref_reads_34_e]
      unfold Ref_sign
      simp only [Option.bind_some]
      rw [show Ref_takes0 b ((100 : Int32) + 59) h = _ from e1]
      simp only [Option.bind_some]
      by_cases q : cdN f t r.2.1.1 = 159
      · have hne : ¬ r.2.1.1 = t := fun z => by have := cdN_t (f := f) (show t ≤ r.2.1.1 by omega); omega
        rw [if_neg (fun x => bI_0.mp x (decide_eq_true q)), if_neg hne, if_pos (d.mpr q), if_neg (show ¬ nI j = (12 : Int32) from nIne (b := 12) (by omega) (by decide) (by omega))]
        have A1 : AtR f t b σ0 n h1 (k2 + 1) (gow f t r.2.1, r.2.2).1 := y1 q
        obtain ⟨h2, e2, S2, O2⟩ := (rcl_r (b := b) E).1 h1 (k2 + 1) (gow f t r.2.1, r.2.2) A1
        obtain ⟨h3, e3, S3, R3⟩ := ih (j + 1) h2 (k2 + 1) (rcl f t o (gow f t r.2.1, r.2.2)) (by omega) O2
        refine ⟨h3, ?_, S1.tr (S2.tr S3), R3⟩
        rw [Ref_reads_56_e, A1.fine]
        simp only [Option.bind_some]
        rw [if_neg (by decide), e2]
        simp only [Option.bind_some]
        rw [Ref_reads_67_e, nI_p1]
        exact e3
      · rw [if_pos (bI_0.mpr (fun z => q (of_decide_eq_true z))), n1 q, A.fine]
        simp only [Option.bind_some]
        rw [if_neg (by decide), (A.cd E).1, A.1.i17]
        simp only [Option.bind_some]
        rw [show (rst σ0 k2 r.2.1.2.2.2.2 (-1)).1 17 = nI n from E.2.2.1.2.2.2.2.2.2]
        have tn := tin (show n < 2 ^ 31 by have := E.2.2.1.1; omega)
        have tk := tin (show k2 < 2 ^ 31 by omega)
        have hkn := A.2.1
        by_cases q2 : r.2.1.1 = t
        · rw [if_pos q2, if_pos (tile.mpr (by have := ht.2.1; omega))]
          exact reads_95 (k := k2) E (r := (true, r.2)) (Out.good (Nat.le_refl _) A)
        · rw [if_neg q2, if_neg (fun z => q2 (by have := tile.mp z; have := ht.2.1; omega)), if_neg (fun z => q (d.mp z))]
          obtain ⟨h2, e2, S2, B2⟩ := faults_v E A
          rw [e2]
          simp only [Option.bind_some]
          obtain ⟨h3, e3, S3, R3⟩ := reads_95 (k := k2) E (r := (false, r.2)) (Out.bad B2)
          exact ⟨h3, e3, S2.tr S3, R3⟩
    · rw [if_neg g]
      exact reads_34_bad E (r := (false, r.2)) Bool.false_ne_true _ (O.2 g)
theorem afc_rd (m : Nat) (S : CSt) : afc f t o m (rcl f t o S) = rdL f t o (m + 1) S := rfl
end ReadP2
section ReadsV
variable {f : Nat → Int32} {t b : Nat} {o : Int32} {h : am_H} {σ : am_S}
theorem Ref_reads_v (ht : t ≤ 400) (hb : ∀ i, i < t → -128 ≤ (f i).toInt ∧ (f i).toInt < 128) (H : Mo b h σ) (hW : WdR σ) (hT : ∀ i, i < t → σ.2.1 6 i = f i) (h12 : σ.1 12 = nI t) (h7 : σ.1 7 = nI (if o = 0 then 8 else 14)) (h8 : σ.1 8 = nI (if o = 0 then 15 else 19)) (h9 : σ.1 9 = o) (ho : o = 0 ∨ o = 1) (cf kf sf tf mf : Nat → Int32) : ∃ h2 σ2 n, Ref_reads b h = some (bI (rdL f t o 12 (cs0 f t cf kf sf tf mf)).1, h2) ∧ Mo b h2 σ2 ∧ Same b h h2 ∧ Lk [12, 13, 17, 18, 19, 20] [8, 9, 10] σ σ2 ∧ σ2.1 12 = 0 ∧ σ2.1 13 = rdI (rdL f t o 12 (cs0 f t cf kf sf tf mf)) ∧ TkE f t σ2 n := by
  obtain ⟨h1, σ1, n, e1, M1, S1, L1, T1⟩ := Ref_splits_v ht H hW hT
  obtain ⟨h2, e2, M2, S2⟩ := M1.w12 (0 : Int32)
  obtain ⟨h3, e3, M3, S3⟩ := M2.w18 (nI 0)
  obtain ⟨h4, e4, M4, S4⟩ := M3.w19 (nI 0)
  obtain ⟨h5, e5, M5, S5⟩ := M4.w20 (-1)
  have M5 : Mo b h5 (rst (upd σ1.1 12 0, σ1.2) 0 0 (-1)) := M5
  have E : RE f t o (upd σ1.1 12 0, σ1.2) n := ⟨ht, hb, ⟨T1.1, T1.2.1, T1.2.2.1, T1.2.2.2.1, T1.2.2.2.2.1, T1.2.2.2.2.2.1, T1.2.2.2.2.2.2⟩, (L1.1 7 (by decide)).trans h7, (L1.1 8 (by decide)).trans h8, (L1.1 9 (by decide)).trans h9, ho⟩
  have A : AtR f t b (upd σ1.1 12 0, σ1.2) n h5 0 (cs0 f t cf kf sf tf mf).1 := ⟨M5, Nat.zero_le _, rfl, Nat.zero_le _⟩
  obtain ⟨h6, e6, S6, O6⟩ := (rcl_r (b := b) E).1 h5 0 _ A
  obtain ⟨h7', e7, S7, k, l, x, M7, hk⟩ := reads_34_l E 11 1 h6 0 _ rfl O6
  rw [afc_rd] at e7 M7
  refine ⟨h7', _, n, ?_, M7, S1.tr (S2.tr (S3.tr (S4.tr (S5.tr (S6.tr S7))))), ⟨fun q hq => ?_, fun q hq => L1.2.1 q (fun z => hq z), L1.2.2⟩, rfl, rfl, T1.1, T1.2.1, T1.2.2.1, T1.2.2.2.1, T1.2.2.2.2.1, T1.2.2.2.2.2.1, T1.2.2.2.2.2.2⟩
  · unfold Ref_reads
    rw [if_pos H.o, H.i12, h12]
    simp only [Option.bind_some]
    rw [e1]
    simp only [Option.bind_some]
    rw [e2]
    simp only [Option.bind_some]
    rw [show pV h2 12 b 18 (.int (0 : Int32)) = _ from e3]
    simp only [Option.bind_some]
    rw [show pV h3 12 b 19 (.int (0 : Int32)) = _ from e4]
    simp only [Option.bind_some]
    rw [e5]
    simp only [Option.bind_some]
    rw [e6]
    exact e7
  · simp only [List.mem_cons, List.not_mem_nil, or_false, not_or] at hq
    obtain ⟨a1, a2, a3, a4, a5, a6⟩ := hq
    show upd (upd (upd (upd (upd σ1.1 12 0) 18 (nI k)) 19 (nI l)) 20 x) 13 _ q = σ.1 q
    unfold upd
    rw [if_neg a2, if_neg a6, if_neg a5, if_neg a4, if_neg a1]
    exact L1.1 q (by simp only [List.mem_cons, List.not_mem_nil, or_false]; exact a3)
theorem Ref_readsAs_v (ht : t ≤ 400) (hb : ∀ i, i < t → -128 ≤ (f i).toInt ∧ (f i).toInt < 128) (H : Mo b h σ) (hW : WdR σ) (hT : ∀ i, i < t → σ.2.1 6 i = f i) (h12 : σ.1 12 = nI t) (ho : o = 0 ∨ o = 1) (cf kf sf tf mf : Nat → Int32) : ∃ h2 σ2 n, Ref_readsAs b o h = some (bI (rdL f t o 12 (cs0 f t cf kf sf tf mf)).1, h2) ∧ Mo b h2 σ2 ∧ Same b h h2 ∧ Lk [7, 8, 9, 12, 13, 17, 18, 19, 20] [8, 9, 10] σ σ2 ∧ σ2.1 12 = 0 ∧ σ2.1 13 = rdI (rdL f t o 12 (cs0 f t cf kf sf tf mf)) ∧ TkE f t σ2 n := by
  obtain ⟨h1, e1, M1, S1⟩ := H.w9 o
  obtain ⟨h2, e2, M2, S2⟩ := M1.w7 (nI (if o = 0 then 8 else 14))
  obtain ⟨h3, e3, M3, S3⟩ := M2.w8 (nI (if o = 0 then 15 else 19))
  obtain ⟨h4, σ4, n, e4, M4, S4, L4, r1, r2, r3⟩ := Ref_reads_v ht hb M3 (fun i hi => hW i hi) (fun i hi => hT i hi) h12 (o := o) rfl rfl rfl ho cf kf sf tf mf
  refine ⟨h4, σ4, n, ?_, M4, S1.tr (S2.tr (S3.tr S4)), ⟨fun q hq => ?_, L4.2.1, L4.2.2⟩, r1, r2, r3⟩
  · have ez : nrZ o = some o := by rcases ho with rfl | rfl <;> rfl
    have e32 : (Ref_reads b h3).bind (fun r4 => (nrZ r4.1).bind fun u7 => some (r4.1, r4.2)) = some (bI (rdL f t o 12 (cs0 f t cf kf sf tf mf)).1, h4) := by
      rw [e4]
      simp only [Option.bind_some]
      rw [bI_z]
      rfl
    unfold Ref_readsAs
    rw [if_pos H.o, ez]
    simp only [Option.bind_some]
    rw [e1]
    simp only [Option.bind_some]
    unfold Ref_readsAs_17 Ref_readsAs_32
    rcases ho with rfl | rfl
    · rw [if_pos rfl, show pV h1 12 b 7 (.int (8 : Int32)) = _ from e2]
      simp only [Option.bind_some]
      rw [if_pos (by first | rfl | trivial), show pV h2 12 b 8 (.int (15 : Int32)) = _ from e3]
      exact e32
    · rw [if_neg (by decide), show pV h1 12 b 7 (.int (14 : Int32)) = _ from e2]
      simp only [Option.bind_some]
      rw [if_neg (by decide), show pV h2 12 b 8 (.int (19 : Int32)) = _ from e3]
      exact e32
  · simp only [List.mem_cons, List.not_mem_nil, or_false, not_or] at hq
    obtain ⟨a1, a2, a3, a4, a5, a6, a7, a8, a9⟩ := hq
    rw [L4.1 q (by simp only [List.mem_cons, List.not_mem_nil, or_false, not_or]; exact ⟨a4, a5, a6, a7, a8, a9⟩)]
    show upd (upd (upd σ.1 9 o) 7 _) 8 _ q = σ.1 q
    unfold upd
    rw [if_neg a2, if_neg a1, if_neg a3]
end ReadsV
