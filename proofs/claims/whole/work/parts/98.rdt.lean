/-! PURE: the reader reads parts, terms, sums -/
/-- the method X reads as Pt does -/
def Rn (f : Nat → Int32) (t : Nat) (o : Int32) (c : Nat) (kf sf tf mf : Nat → Int32) (X : am_H → Option (Int32 × am_H)) (Pt : PSt → Bool × PSt) : Prop := ∀ (h : am_H) (s : PSt), RdA h f t o c kf sf tf mf s → phi t s ≤ 505 → ∃ h2, X h = some (bI (Pt s).1, h2) ∧ RdA h2 f t o c kf sf tf mf (Pt s).2 ∧ Fr pR h h2 ∧ phi t (Pt s).2 ≤ phi t s
theorem bI_0 {b : Bool} : bI b = (0 : Int32) ↔ ¬ b = true := by cases b <;> decide
theorem mlI_0 {k : Nat} (hk : k < 16) : mlI k = (-1 : Int32) ↔ k = 0 := by
  unfold mlI
  by_cases q : k = 0
  · rw [if_pos q]; exact ⟨fun _ => q, fun _ => rfl⟩
  · rw [if_neg q]
    refine ⟨fun z => ?_, fun z => absurd z q⟩
    have := congrArg Int32.toInt z
    rw [tin (show k < 2 ^ 31 by omega), tim1] at this
    omega
theorem mlq_b {f : Nat → Int32} {t : Nat} {s : PSt} : mlq f t s < 16 ∧ (¬ mlq f t s = 0 → s.1 < t) := by
  unfold mlq
  by_cases q1 : sgp f t 42 s
  · rw [if_pos q1]; exact ⟨by decide, fun _ => tkd_y (f := f) (by rw [q1.1]; decide)⟩
  · rw [if_neg q1]
    by_cases q2 : sgp f t 47 s
    · rw [if_pos q2]; exact ⟨by decide, fun _ => tkd_y (f := f) (by rw [q2.1]; decide)⟩
    · rw [if_neg q2]
      by_cases q3 : sgp f t 37 s
      · rw [if_pos q3]; exact ⟨by decide, fun _ => tkd_y (f := f) (by rw [q3.1]; decide)⟩
      · rw [if_neg q3]; exact ⟨by decide, fun z => absurd rfl z⟩
section ReadS
variable {f : Nat → Int32} {t : Nat} {o : Int32} {c : Nat} {kf sf tf mf : Nat → Int32}
theorem phi_n {s : PSt} (h : phi t s ≤ 511) : s.2.1 < 512 := by unfold phi at h; omega
theorem Reader_term_14_l {dd : Nat} {v : Int32} {Pt : PSt → Bool × PSt} (HP : Rn f t o c kf sf tf mf (Reader_part dd 91 v) Pt) : ∀ (k i : Nat) (h : am_H) (g : Bool) (s : PSt), i + k = 400 → RdA h f t o c kf sf tf mf s → phi t s ≤ 505 → ∃ h2, Reader_term_14 (dd + 1) 91 v (bI g) (mlI (mlq f t s)) (nI i) h = some (bI (tmL Pt f t k g s).1, h2) ∧ RdA h2 f t o c kf sf tf mf (tmL Pt f t k g s).2 ∧ Fr pR h h2 ∧ phi t (tmL Pt f t k g s).2 ≤ phi t s := by
  have t4 : (400 : Int32).toInt = 400 := by decide
  intro k
  induction k with
  | zero =>
    intro i h g s hi H hp
    have ti := tin (show i < 2 ^ 31 by omega)
    refine ⟨h, ?_, H, Fr.rf, Nat.le_refl _⟩
    rw [Reader_term_14_e, if_pos (tile.mpr (by omega)), bI_z]
    rfl
  | succ k ih =>
    intro i h g s hi H hp
    have ti := tin (show i < 2 ^ 31 by omega)
    obtain ⟨mb, my⟩ := mlq_b (f := f) (t := t) (s := s)
    rw [Reader_term_14_e, if_neg (fun z => by have := tile.mp z; omega)]
    unfold tmL
    by_cases q : g = true ∧ ¬ mlq f t s = 0
    · obtain ⟨q1, q2⟩ := q
      rw [if_neg (fun z => bI_0.mp z q1), if_neg (fun z => q2 ((mlI_0 mb).mp z)), if_pos ⟨q1, q2⟩, H.g.2.2.1]
      simp only [Option.bind_some]
      obtain ⟨h1, e1, R1, F1⟩ := H.go
      have p1 := (gow_p (f := f) H.2.1.1).2 (my q2)
      obtain ⟨h2, e2, R2, F2, p2⟩ := HP h1 _ R1 (by omega)
      have n2 := phi_n (t := t) (s := (Pt (gow f t s)).2) (by omega)
      obtain ⟨h3, e3, R3, F3⟩ := R2.add n2 (k := mlq f t s) (g := 0) mb (by omega)
      have R3' : RdA h3 f t o c kf sf tf mf (emt (Pt (gow f t s)).2 (mlq f t s)) := R3
      have p3 : phi t (emt (Pt (gow f t s)).2 (mlq f t s)) = phi t (Pt (gow f t s)).2 + 1 := emt_p
      obtain ⟨h4, e4, R4, F4, p4⟩ := ih (i + 1) h3 (Pt (gow f t s)).1 _ (by omega) R3' (by omega)
      refine ⟨h4, ?_, R4, F1.tr (F2.tr (F3.tr F4)), by omega⟩
      rw [e1]
      simp only [Option.bind_some]
      rw [if_pos (Nat.succ_pos dd), show dd + 1 - 1 = dd from rfl, e2]
      simp only [Option.bind_some]
      rw [R2.g.2.1]
      simp only [Option.bind_some]
      rw [show Text_add 92 (mlI (mlq f t s)) (0 : Int32) h2 = some (nI (Pt (gow f t s)).2.2.1, h3) from (by rw [show mlI (mlq f t s) = nI (mlq f t s) from if_neg q2]; exact e3)]
      simp only [Option.bind_some]
      rw [Reader_multiplying_v R3']
      simp only [Option.bind_some]
      rw [nI_p1]
      exact e4
    · rw [if_neg q]
      refine ⟨h, ?_, H, Fr.rf, Nat.le_refl _⟩
      by_cases q1 : g = true
      · have q2 : mlq f t s = 0 := Classical.byContradiction (fun z => q ⟨q1, z⟩)
        rw [if_neg (fun z => bI_0.mp z q1), if_pos ((mlI_0 mb).mpr q2), bI_z]
        rfl
      · rw [if_pos (bI_0.mpr q1), bI_z]
        rfl
theorem Reader_term_of {dd : Nat} {v : Int32} {Pt : PSt → Bool × PSt} (HP : Rn f t o c kf sf tf mf (Reader_part dd 91 v) Pt) : Rn f t o c kf sf tf mf (Reader_term (dd + 1) 91 v) (trm Pt f t) := by
  intro h s H hp
  obtain ⟨h2, e2, R2, F2, p2⟩ := HP h s H hp
  obtain ⟨h3, e3, R3, F3, p3⟩ := Reader_term_14_l HP 400 0 h2 (Pt s).1 _ rfl R2 (by omega)
  refine ⟨h3, ?_, R3, F2.tr F3, Nat.le_trans p3 p2⟩
  rw [Reader_term_e, if_pos H.g.1, if_pos (Nat.succ_pos dd), show dd + 1 - 1 = dd from rfl, e2]
  simp only [Option.bind_some]
  rw [Reader_multiplying_v R2]
  exact e3
end ReadS
