/-! PURE: the reader reads sums, brackets too -/
theorem plq_b {f : Nat → Int32} {t : Nat} {s : PSt} : plq f t s < 16 ∧ (¬ plq f t s = 0 → s.1 < t) := by
  unfold plq
  by_cases q1 : sgp f t 43 s
  · rw [if_pos q1]; exact ⟨by decide, fun _ => tkd_y (f := f) (by rw [q1.1]; decide)⟩
  · rw [if_neg q1]
    by_cases q2 : sgp f t 45 s
    · rw [if_pos q2]; exact ⟨by decide, fun _ => tkd_y (f := f) (by rw [q2.1]; decide)⟩
    · rw [if_neg q2]; exact ⟨by decide, fun z => absurd rfl z⟩
section ReadU
variable {f : Nat → Int32} {t : Nat} {o : Int32} {c : Nat} {kf sf tf mf : Nat → Int32}
theorem Reader_sum_8_l {dd : Nat} {v : Int32} {Pt : PSt → Bool × PSt} (HP : Rn f t o c kf sf tf mf (Reader_term dd 91 v) Pt) : ∀ (k i : Nat) (h : am_H) (g : Bool) (s : PSt), i + k = 400 → RdA h f t o c kf sf tf mf s → phi t s ≤ 505 → ∃ h2, Reader_sum_8 (dd + 1) 91 v (bI g) (nI i) h = some (bI (smL Pt f t k g s).1, h2) ∧ RdA h2 f t o c kf sf tf mf (smL Pt f t k g s).2 ∧ Fr pR h h2 ∧ phi t (smL Pt f t k g s).2 ≤ phi t s := by
  have t4 : (400 : Int32).toInt = 400 := by decide
  intro k
  induction k with
  | zero =>
    intro i h g s hi H hp
    have ti := tin (show i < 2 ^ 31 by omega)
    refine ⟨h, ?_, H, Fr.rf, Nat.le_refl _⟩
    rw [Reader_sum_8_e, if_pos (tile.mpr (by omega)), bI_z]
    rfl
  | succ k ih =>
    intro i h g s hi H hp
    have ti := tin (show i < 2 ^ 31 by omega)
    obtain ⟨mb, my⟩ := plq_b (f := f) (t := t) (s := s)
    have es : ∀ x : Int32, Tape_isSign 1 x h = some (if sgp f t x s then 1 else 0) := fun x => Tape_isSign_v H.2.1 x
    have g1 := H.g.2.2.1
    rw [Reader_sum_8_e, if_neg (fun z => by have := tile.mp z; omega)]
    unfold smL
    by_cases q1 : g = true
    · rw [if_neg (fun z => bI_0.mp z q1)]
      by_cases q2 : plq f t s = 0
      · rw [if_neg (show ¬ (g = true ∧ ¬ plq f t s = 0) from fun z => z.2 q2)]
        refine ⟨h, ?_, H, Fr.rf, Nat.le_refl _⟩
        have n1 : ¬ sgp f t 43 s := fun z => by unfold plq at q2; rw [if_pos z] at q2; cases q2
        have n2 : ¬ sgp f t 45 s := fun z => by unfold plq at q2; rw [if_neg n1, if_pos z] at q2; cases q2
        simp only [g1, es, Option.bind_some]
        rw [if_neg n1, if_pos (by first | rfl | trivial), if_neg n2, if_pos (by first | rfl | trivial), bI_z]
        rfl
      · rw [if_pos (show g = true ∧ ¬ plq f t s = 0 from ⟨q1, q2⟩)]
        obtain ⟨h1, e1, R1, F1⟩ := H.go
        have p1 := (gow_p (f := f) H.2.1.1).2 (my q2)
        obtain ⟨h2, e2, R2, F2, p2⟩ := HP h1 _ R1 (by omega)
        have n2 := phi_n (t := t) (s := (Pt (gow f t s)).2) (by omega)
        obtain ⟨h3, e3, R3, F3⟩ := R2.add n2 (k := plq f t s) (g := 0) mb (by omega)
        have R3' : RdA h3 f t o c kf sf tf mf (emt (Pt (gow f t s)).2 (plq f t s)) := R3
        have p3 : phi t (emt (Pt (gow f t s)).2 (plq f t s)) = phi t (Pt (gow f t s)).2 + 1 := emt_p
        obtain ⟨h4, e4, R4, F4, p4⟩ := ih (i + 1) h3 (Pt (gow f t s)).1 _ (by omega) R3' (by omega)
        refine ⟨h4, ?_, R4, F1.tr (F2.tr (F3.tr F4)), by omega⟩
        have e60 : Reader_sum_60 (dd + 1) 91 v (nI i) (nI (plq f t s)) h = some (bI (smL Pt f t k (Pt (gow f t s)).1 (emt (Pt (gow f t s)).2 (plq f t s))).1, h4) := by
          rw [Reader_sum_60_e, g1]
          simp only [Option.bind_some]
          rw [e1]
          simp only [Option.bind_some]
          rw [if_pos (Nat.succ_pos dd), show dd + 1 - 1 = dd from rfl, e2]
          simp only [Option.bind_some]
          rw [R2.g.2.1]
          simp only [Option.bind_some]
          rw [show Text_add 92 (nI (plq f t s)) (0 : Int32) h2 = some (nI (Pt (gow f t s)).2.2.1, h3) from e3]
          simp only [Option.bind_some]
          rw [nI_p1]
          exact e4
        have e43 : Reader_sum_43 (dd + 1) 91 v (nI i) h = Reader_sum_60 (dd + 1) 91 v (nI i) (nI (plq f t s)) h := by
          rw [Reader_sum_43_e]
          simp only [g1, es, Option.bind_some]
          by_cases n1 : sgp f t 43 s
          · rw [if_pos n1, if_neg (by decide), show plq f t s = 3 from if_pos n1]; rfl
          · have n2 : sgp f t 45 s := Classical.byContradiction (fun z => q2 ((if_neg n1).trans (if_neg z)))
            rw [if_neg n1, if_pos (by first | rfl | trivial), show plq f t s = 4 from (if_neg n1).trans (if_pos n2)]; rfl
        simp only [g1, es, Option.bind_some]
        by_cases n1 : sgp f t 43 s
        · rw [if_pos n1, if_neg (by decide), e43]; exact e60
        · have n2 : sgp f t 45 s := Classical.byContradiction (fun z => q2 ((if_neg n1).trans (if_neg z)))
          rw [if_neg n1, if_pos (by first | rfl | trivial), if_pos n2, if_neg (by decide), e43]; exact e60
    · rw [if_pos (bI_0.mpr q1), if_neg (show ¬ (g = true ∧ ¬ plq f t s = 0) from fun z => q1 z.1), bI_z]
      exact ⟨h, rfl, H, Fr.rf, Nat.le_refl _⟩
theorem Reader_sum_of {dd : Nat} {v : Int32} {Pt : PSt → Bool × PSt} (HP : Rn f t o c kf sf tf mf (Reader_term dd 91 v) Pt) : Rn f t o c kf sf tf mf (Reader_sum (dd + 1) 91 v) (smm Pt f t) := by
  intro h s H hp
  obtain ⟨h2, e2, R2, F2, p2⟩ := HP h s H hp
  obtain ⟨h3, e3, R3, F3, p3⟩ := Reader_sum_8_l HP 400 0 h2 (Pt s).1 _ rfl R2 (by omega)
  refine ⟨h3, ?_, R3, F2.tr F3, Nat.le_trans p3 p2⟩
  rw [Reader_sum_e, if_pos H.g.1, if_pos (Nat.succ_pos dd), show dd + 1 - 1 = dd from rfl, e2]
  exact e3
theorem Reader_part_v : ∀ (d : Nat), d ≤ 8 → ∀ dd, 3 * d ≤ dd → Rn f t o c kf sf tf mf (Reader_part dd 91 (nI (8 - d))) (prs f t o d)
  | 0, _, dd, _ => by
    intro h s H hp
    unfold prs
    by_cases q : sgp f t 91 s
    · rw [if_pos q]
      refine ⟨h, ?_, H, Fr.rf, Nat.le_refl _⟩
      rw [Reader_part_e, if_pos H.g.1, H.g.2.2.1]
      simp only [Option.bind_some]
      rw [Tape_isSign_v H.2.1, if_pos (show tkd f t s.1 = 3 ∧ f s.1 = 91 from q)]
      simp only [Option.bind_some]
      rw [if_neg (by decide), if_pos (by decide)]
      rfl
    · rw [if_neg q]
      obtain ⟨h2, e2, R2, F2⟩ := Reader_part_leaf (dd := dd) (v := nI (8 - 0)) H (phi_n (t := t) (by omega)) q
      exact ⟨h2, e2, R2, F2, (lef_p H.2.1.1).1⟩
  | d + 1, hd, dd, hdd => by
    obtain ⟨e, rfl⟩ : ∃ e, dd = e + 1 + 1 + 1 := ⟨dd - 3, by omega⟩
    have IH := Reader_sum_of (Reader_term_of (Reader_part_v d (by omega) e (by omega)))
    intro h s H hp
    unfold prs
    by_cases q : sgp f t 91 s
    · rw [if_pos q]
      have t8 : (8 : Int32).toInt = 8 := by decide
      have tv := tin (show 8 - (d + 1) < 2 ^ 31 by omega)
      obtain ⟨h1, e1, R1, F1⟩ := Reader_takeSign_v H 91
      rw [if_pos q] at e1 R1
      have p1 := (gow_p (f := f) H.2.1.1).1
      obtain ⟨h2, e2, R2, F2, p2⟩ := IH h1 _ R1 (by omega)
      generalize smm (trm (prs f t o d) f t) f t (gow f t s) = z at *
      obtain ⟨h3, e3, R3, F3⟩ := Reader_takeSign_v R2 93
      rw [Reader_part_e, if_pos H.g.1, H.g.2.2.1]
      simp only [Option.bind_some]
      rw [Tape_isSign_v H.2.1, if_pos (show tkd f t s.1 = 3 ∧ f s.1 = 91 from q)]
      simp only [Option.bind_some]
      rw [if_neg (by decide), if_neg (fun y => by have := tile.mp y; omega), e1]
      simp only [Option.bind_some]
      rw [if_neg (by decide), if_pos (Nat.succ_pos (e + 1 + 1)), nI_p1, show 8 - (d + 1) + 1 = 8 - d by omega, show e + 1 + 1 + 1 - 1 = e + 1 + 1 from rfl, e2]
      simp only [Option.bind_some]
      by_cases q1 : z.1 = true
      · rw [if_neg (fun y => bI_0.mp y q1), if_pos q1, e3]
        simp only [Option.bind_some]
        by_cases q2 : sgp f t 93 z.2
        · rw [if_pos q2] at R3
          rw [if_pos q2, if_pos q2, if_neg (by decide)]
          have p3 := (gow_p (f := f) R2.2.1.1).1
          exact ⟨h3, rfl, R3, F1.tr (F2.tr F3), by show phi t (gow f t z.2) ≤ _; omega⟩
        · rw [if_neg q2] at R3
          rw [if_neg q2, if_neg q2, if_pos (by first | rfl | trivial)]
          exact ⟨h3, rfl, R3, F1.tr (F2.tr F3), by show phi t z.2 ≤ _; omega⟩
      · rw [if_pos (bI_0.mpr q1), if_neg q1]
        exact ⟨h2, rfl, R2, F1.tr F2, by show phi t z.2 ≤ _; omega⟩
    · rw [if_neg q]
      obtain ⟨h2, e2, R2, F2⟩ := Reader_part_leaf (dd := e + 1 + 1 + 1) (v := nI (8 - (d + 1))) H (phi_n (t := t) (by omega)) q
      exact ⟨h2, e2, R2, F2, (lef_p H.2.1.1).1⟩
theorem Reader_sum_v {d : Nat} (hd : d ≤ 8) : Rn f t o c kf sf tf mf (Reader_sum 40 91 (nI (8 - d))) (smm (trm (prs f t o d) f t) f t) := Reader_sum_of (Reader_term_of (Reader_part_v d hd 38 (by omega)))
end ReadU
