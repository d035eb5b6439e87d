/-! PURE: what the clauses of a text tell -/
/-- asked from a code on, the text answers r, whatever lies on the stack -/
def AskV (h : am_H) (a wd : Nat) (fr r : Int32) : Prop := ∀ f, ∃ f2, Text_ask a fr wd (stC h f) = some (r, stC h f2)
def latv (kf tf sf : Nat → Int32) (R : Int32 → Int32) (kd w : Int32) : Nat → Int32
  | 0 => w
  | j + 1 => if kf j = kd ∧ (tf j = -1 ∨ R (tf j) = 1) ∧ ¬ R (sf (j * 3)) = BRK then R (sf (j * 3)) else latv kf tf sf R kd w j
/-- the clauses of "ends" from the j-th on; no: none has come yet -/
def hev (kf tf : Nat → Int32) (R : Int32 → Int32) (ace : Bool) : Nat → Nat → Bool → Bool
  | 0, _, no => no && ace
  | k + 1, j, no => if kf j = 2 then (if tf j = -1 ∨ R (tf j) = 1 then true else hev kf tf R ace k (j + 1) false) else hev kf tf R ace k (j + 1) no
section TextQ
variable {h : am_H} {a wd n c nC nK : Nat} {al : Int32} {cf kf sf tf mf : Nat → Int32} {R : Int32 → Int32}
theorem AskV.of (H : TxA h a n c nC nK al cf kf sf tf mf) {k : Nat} (hk : k < 2 ^ 31) {r : Int32} (hq : ∀ f, ∃ f2, AskQ h a wd k 0 f = some (r, stC h f2)) : AskV h a wd (nI k) r := by
  intro f
  obtain ⟨f2, e⟩ := hq f
  refine ⟨f2, ?_⟩
  unfold Text_ask
  rw [if_pos (H.st f).o, if_neg (fun z => by have := tilt.mp z; rw [tin hk, ti0] at this; omega)]
  exact e
theorem kindsAt (H : TxA h a n c nC nK al cf kf sf tf mf) {j : Nat} (hj : j < c) : aI h 0 (a + 2) (nI j) = some (kf j) := aI_at H.2.2.2.2.2.2.2.1 (by have := H.2.1; omega) (by have := H.2.2.2.1; omega)
theorem sumsAt (H : TxA h a n c nC nK al cf kf sf tf mf) {j : Nat} (hj : j < c * 3) : aI h 0 (a + 3) (nI j) = some (sf j) := aI_at H.2.2.2.2.2.2.2.2.1 (by have := H.2.1; omega) (by have := H.2.2.2.1; omega)
theorem testsAt (H : TxA h a n c nC nK al cf kf sf tf mf) {j : Nat} (hj : j < c) : aI h 0 (a + 4) (nI j) = some (tf j) := aI_at H.2.2.2.2.2.2.2.2.2.1 (by have := H.2.1; omega) (by have := H.2.2.2.1; omega)
theorem timesAt (H : TxA h a n c nC nK al cf kf sf tf mf) {j : Nat} (hj : j < c) : aI h 0 (a + 5) (nI j) = some (mf j) := aI_at H.2.2.2.2.2.2.2.2.2.2 (by have := H.2.1; omega) (by have := H.2.2.2.1; omega)
theorem nI_3 (j : Nat) : nI j * (3 : Int32) = nI (j * 3) := pk_mul j 3
theorem Text_latestOf_l (H : TxA h a n c nC nK al cf kf sf tf mf) (kd w : Int32) (hR : ∀ j, j < c → (¬ tf j = -1 → AskV h a wd (tf j) (R (tf j))) ∧ (kf j = kd → AskV h a wd (sf (j * 3)) (R (sf (j * 3))))) : ∀ (j : Nat), j ≤ c → ∀ f, ∃ f2, Text_latestOf_8 a kd wd w (hS j) (stC h f) = some (latv kf tf sf R kd w j, stC h f2) := by
  have := H.2.1; have := H.2.2.2.1
  intro j
  induction j with
  | zero =>
    intro _ f
    exact ⟨f, by rw [Text_latestOf_8_e, if_pos (by decide)]; rfl⟩
  | succ j ih =>
    intro hj f
    have ih := ih (by omega)
    have tj := tin (show j < 2 ^ 31 by omega)
    have e77 : ∀ g, Text_latestOf_77 a kd wd w (nI j) (stC h g) = Text_latestOf_8 a kd wd w (hS j) (stC h g) := fun g => by rw [Text_latestOf_77_e, hS_m]
    have e51 : kf j = kd → ∀ g, ∃ f2, Text_latestOf_51 a kd wd w (nI j) (stC h g) = some ((if ¬ R (sf (j * 3)) = BRK then R (sf (j * 3)) else latv kf tf sf R kd w j), stC h f2) := fun hk g => by
      rw [Text_latestOf_51_e, (H.st g).q4]
      simp only [Option.bind_some]
      rw [nI_3, sumsAt (H.st g) (by omega)]
      simp only [Option.bind_some]
      obtain ⟨g2, e2⟩ := (hR j (by omega)).2 hk g
      rw [e2]
      simp only [Option.bind_some]
      by_cases q : R (sf (j * 3)) = BRK
      · rw [if_pos q, e77, if_neg (fun z => z q)]
        exact ih g2
      · rw [if_neg q, if_pos q]
        exact ⟨g2, rfl⟩
    rw [Text_latestOf_8_e, show hS (j + 1) = nI j from rfl, if_neg (fun z => by have := tilt.mp z; rw [tj, ti0] at this; omega), (H.st f).q3]
    simp only [Option.bind_some]
    rw [kindsAt (H.st f) (by omega)]
    simp only [Option.bind_some]
    by_cases q1 : kf j = kd
    · rw [if_pos q1, (H.st f).q5]
      simp only [Option.bind_some]
      rw [testsAt (H.st f) (by omega)]
      simp only [Option.bind_some]
      by_cases q2 : tf j = -1
      · rw [if_pos q2]
        obtain ⟨f2, e⟩ := e51 q1 f
        refine ⟨f2, ?_⟩
        rw [e]
        show _ = some ((if _ then _ else _), _)
        by_cases q3 : R (sf (j * 3)) = BRK
        · rw [if_neg (fun z => z q3), if_neg (fun z => z.2.2 q3)]
        · rw [if_pos q3, if_pos ⟨q1, Or.inl q2, q3⟩]
      · rw [if_neg q2]
        obtain ⟨g2, e2⟩ := (hR j (by omega)).1 q2 f
        rw [e2]
        simp only [Option.bind_some]
        by_cases q3 : R (tf j) = 1
        · rw [if_pos q3]
          obtain ⟨f2, e⟩ := e51 q1 g2
          refine ⟨f2, ?_⟩
          rw [e]
          show _ = some ((if _ then _ else _), _)
          by_cases q4 : R (sf (j * 3)) = BRK
          · rw [if_neg (fun z => z q4), if_neg (fun z => z.2.2 q4)]
          · rw [if_pos q4, if_pos ⟨q1, Or.inr q3, q4⟩]
        · rw [if_neg q3, e77]
          obtain ⟨f2, e⟩ := ih g2
          refine ⟨f2, ?_⟩
          rw [e]
          show _ = some ((if _ then _ else _), _)
          rw [if_neg (fun z => z.2.1.elim q2 q3)]
    · rw [if_neg q1, e77]
      obtain ⟨f2, e⟩ := ih f
      refine ⟨f2, ?_⟩
      rw [e]
      show _ = some ((if _ then _ else _), _)
      rw [if_neg (fun z => q1 z.1)]
theorem Text_latestOf_v (H : TxA h a n c nC nK al cf kf sf tf mf) (kd w : Int32) (hR : ∀ j, j < c → (¬ tf j = -1 → AskV h a wd (tf j) (R (tf j))) ∧ (kf j = kd → AskV h a wd (sf (j * 3)) (R (sf (j * 3))))) (f : Nat → Int32) : ∃ f2, Text_latestOf a kd wd w (stC h f) = some (latv kf tf sf R kd w c, stC h f2) := by
  obtain ⟨f2, e⟩ := Text_latestOf_l H kd w hR c (Nat.le_refl _) f
  refine ⟨f2, ?_⟩
  unfold Text_latestOf
  rw [if_pos (H.st f).o, (H.st f).q2]
  simp only [Option.bind_some]
  rw [show nI c - (1 : Int32) = nI c + (-1 : Int32) by rw [Int32.sub_eq_add_neg], hS_m]
  exact e
theorem Text_hasEnded_l (H : TxA h a n c nC nK al cf kf sf tf mf) (ace : Bool) (hR : ∀ j, j < c → (¬ tf j = -1 → AskV h a wd (tf j) (R (tf j)))) : ∀ (k j : Nat) (no : Bool), j + k = c → ∀ f, ∃ f2, Text_hasEnded_5 a wd (nI (bN (ace = true))) (nI (bN (no = true))) (nI j) (stC h f) = some (nI (bN (hev kf tf R ace k j no = true)), stC h f2) := by
  have := H.2.1; have := H.2.2.2.1
  have tc := tin (show c < 2 ^ 31 by omega)
  intro k
  induction k with
  | zero =>
    intro j no hj f
    have tj := tin (show j < 2 ^ 31 by omega)
    refine ⟨f, ?_⟩
    rw [Text_hasEnded_5_e, (H.st f).q2]
    simp only [Option.bind_some]
    rw [if_pos (tile.mpr (by omega))]
    cases no <;> cases ace <;> rfl
  | succ k ih =>
    intro j no hj f
    have tj := tin (show j < 2 ^ 31 by omega)
    have e56 : ∀ (b : Bool) g, Text_hasEnded_56 a wd (nI (bN (ace = true))) (nI (bN (b = true))) (nI j) (stC h g) = Text_hasEnded_5 a wd (nI (bN (ace = true))) (nI (bN (b = true))) (nI (j + 1)) (stC h g) := fun b g => by rw [Text_hasEnded_56_e, nI_p1]
    rw [Text_hasEnded_5_e, (H.st f).q2, (H.st f).q3]
    simp only [Option.bind_some]
    rw [if_neg (fun z => by have := tile.mp z; omega), kindsAt (H.st f) (by omega)]
    simp only [Option.bind_some]
    by_cases q1 : kf j = 2
    · rw [if_pos q1, (H.st f).q5]
      simp only [Option.bind_some]
      rw [testsAt (H.st f) (by omega)]
      simp only [Option.bind_some]
      by_cases q2 : tf j = -1
      · rw [if_pos q2]
        refine ⟨f, ?_⟩
        rw [show hev kf tf R ace (k + 1) j no = true from (if_pos q1).trans (if_pos (Or.inl q2))]; rfl
      · rw [if_neg q2]
        obtain ⟨g2, e2⟩ := hR j (by omega) q2 f
        rw [e2]
        simp only [Option.bind_some]
        by_cases q3 : R (tf j) = 1
        · rw [if_pos q3]
          refine ⟨g2, ?_⟩
          rw [show hev kf tf R ace (k + 1) j no = true from (if_pos q1).trans (if_pos (Or.inr q3))]; rfl
        · rw [if_neg q3, show (0 : Int32) = nI (bN (false = true)) from rfl, e56]
          obtain ⟨f2, e⟩ := ih (j + 1) false (by omega) g2
          refine ⟨f2, ?_⟩
          rw [e, show hev kf tf R ace (k + 1) j no = hev kf tf R ace k (j + 1) false from (if_pos q1).trans (if_neg (fun z => z.elim q2 q3))]
    · rw [if_neg q1, e56]
      obtain ⟨f2, e⟩ := ih (j + 1) no (by omega) f
      refine ⟨f2, ?_⟩
      rw [e, show hev kf tf R ace (k + 1) j no = hev kf tf R ace k (j + 1) no from if_neg q1]
theorem Text_hasEnded_v (H : TxA h a n c nC nK al cf kf sf tf mf) (ace : Bool) (hR : ∀ j, j < c → (¬ tf j = -1 → AskV h a wd (tf j) (R (tf j)))) (f : Nat → Int32) : ∃ f2, Text_hasEnded a wd (nI (bN (ace = true))) (stC h f) = some (nI (bN (hev kf tf R ace c 0 true = true)), stC h f2) := by
  obtain ⟨f2, e⟩ := Text_hasEnded_l H ace hR c 0 true (by omega) f
  refine ⟨f2, ?_⟩
  unfold Text_hasEnded
  rw [if_pos (H.st f).o]
  exact e
theorem Text_isSo_v (H : TxA h a n c nC nK al cf kf sf tf mf) {j : Nat} (hj : j < c) (hR : ¬ tf j = -1 → AskV h a wd (tf j) (R (tf j))) (f : Nat → Int32) : ∃ f2, Text_isSo a (nI j) wd (stC h f) = some (if tf j = -1 ∨ R (tf j) = 1 then 1 else 0, stC h f2) := by
  have := H.2.1; have := H.2.2.2.1
  have tj := tin (show j < 2 ^ 31 by omega)
  have tc := tin (show c < 2 ^ 31 by omega)
  unfold Text_isSo
  rw [if_pos (H.st f).o, if_neg (fun z => by have := tilt.mp z; rw [tj, ti0] at this; omega), (H.st f).q2, (H.st f).q5]
  simp only [Option.bind_some]
  rw [if_pos (tilt.mpr (by omega)), testsAt (H.st f) hj]
  simp only [Option.bind_some]
  by_cases q2 : tf j = -1
  · rw [if_pos q2, if_pos (Or.inl q2)]; exact ⟨f, rfl⟩
  · rw [if_neg q2]
    obtain ⟨g2, e2⟩ := hR q2 f
    rw [e2]
    simp only [Option.bind_some]
    refine ⟨g2, ?_⟩
    by_cases q3 : R (tf j) = 1
    · rw [if_pos q3, if_pos (Or.inr q3)]
    · rw [if_neg q3, if_neg (fun z => z.elim q2 q3)]
theorem Text_kindOf_v (H : TxA h a n c nC nK al cf kf sf tf mf) {j : Nat} (hj : j < c) : Text_kindOf a (nI j) h = some (kf j) := by
  have := H.2.1; have := H.2.2.2.1
  have tj := tin (show j < 2 ^ 31 by omega)
  have tc := tin (show c < 2 ^ 31 by omega)
  unfold Text_kindOf
  rw [if_pos H.o, if_neg (fun z => by have := tilt.mp z; rw [tj, ti0] at this; omega), H.q2, H.q3]
  simp only [Option.bind_some]
  rw [if_neg (fun z => by have := tile.mp z; omega), kindsAt H hj]
  rfl
theorem Text_timesOf_v (H : TxA h a n c nC nK al cf kf sf tf mf) {j : Nat} (hj : j < c) : Text_timesOf a (nI j) h = some (mf j) := by
  have := H.2.1; have := H.2.2.2.1
  have tj := tin (show j < 2 ^ 31 by omega)
  have tc := tin (show c < 2 ^ 31 by omega)
  unfold Text_timesOf
  rw [if_pos H.o, if_neg (fun z => by have := tilt.mp z; rw [tj, ti0] at this; omega), H.q2, H.q6]
  simp only [Option.bind_some]
  rw [if_neg (fun z => by have := tile.mp z; omega), timesAt H hj]
  rfl
theorem Text_sumOf_v (H : TxA h a n c nC nK al cf kf sf tf mf) {j i : Nat} (hj : j < c) (hi : i < 3) (hR : AskV h a wd (sf (j * 3 + i)) (R (sf (j * 3 + i)))) (f : Nat → Int32) : ∃ f2, Text_sumOf a (nI j) (nI i) wd (stC h f) = some (R (sf (j * 3 + i)), stC h f2) := by
  have := H.2.1; have := H.2.2.2.1
  have tj := tin (show j < 2 ^ 31 by omega)
  have tI := tin (show i < 2 ^ 31 by omega)
  have tc := tin (show c < 2 ^ 31 by omega)
  have t3 : (3 : Int32).toInt = 3 := by decide
  unfold Text_sumOf
  rw [if_pos (H.st f).o, if_neg (fun z => by have := tilt.mp z; rw [tj, ti0] at this; omega), (H.st f).q2, (H.st f).q4]
  simp only [Option.bind_some]
  rw [if_neg (fun z => by have := tile.mp z; omega), if_neg (fun z => by have := tilt.mp z; rw [tI, ti0] at this; omega), if_pos (tilt.mpr (by omega)), nI_3, nI_add, sumsAt (H.st f) (by omega)]
  simp only [Option.bind_some]
  obtain ⟨g2, e2⟩ := hR f
  rw [e2]
  exact ⟨g2, rfl⟩
end TextQ
