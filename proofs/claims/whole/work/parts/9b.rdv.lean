/-! PURE: the reader: nots and comparisons -/
def ntL (f : Nat → Int32) (t : Nat) : Nat → Bool → PSt → Bool × PSt
  | 0, b, s => (b, s)
  | k + 1, b, s => if wdp f t 7 s then ntL f t k (!b) (gow f t s) else (b, s)
def nto (b : Bool) (r : Bool × PSt) : Bool × PSt := if b = true then (r.1, emt r.2 11) else r
/-- two sums compared; z is the first sum read -/
def cmR (Sm : PSt → Bool × PSt) (f : Nat → Int32) (t : Nat) (z : Bool × PSt) : Bool × PSt := if z.1 = true ∧ ¬ cmq f t z.2 = 0 then ((Sm (gow f t z.2)).1, emt (Sm (gow f t z.2)).2 (cmq f t z.2)) else (false, emt z.2 0)
def cmS (Sm : PSt → Bool × PSt) (f : Nat → Int32) (t : Nat) (s : PSt) : Bool × PSt := cmR Sm f t (Sm s)
theorem cmq_b {f : Nat → Int32} {t : Nat} {s : PSt} : cmq f t s < 16 ∧ (¬ cmq f t s = 0 → s.1 < t) := by
  unfold cmq
  by_cases q1 : sgp f t 60 s
  · rw [if_pos q1]; exact ⟨by decide, fun _ => tkd_y (f := f) (by rw [q1.1]; decide)⟩
  · rw [if_neg q1]
    by_cases q2 : sgp f t 62 s
    · rw [if_pos q2]; exact ⟨by decide, fun _ => tkd_y (f := f) (by rw [q2.1]; decide)⟩
    · rw [if_neg q2]
      by_cases q3 : sgp f t 61 s
      · rw [if_pos q3]; exact ⟨by decide, fun _ => tkd_y (f := f) (by rw [q3.1]; decide)⟩
      · rw [if_neg q3]; exact ⟨by decide, fun z => absurd rfl z⟩
section ReadV
variable {f : Nat → Int32} {t : Nat} {o : Int32} {c : Nat} {kf sf tf mf : Nat → Int32}
theorem Reader_plain_154_v {h : am_H} {s : PSt} {dd : Nat} (H : RdA h f t o c kf sf tf mf s) (hn : s.2.1 < 512) (b g : Bool) : ∃ h2, Reader_plain_154 dd 91 (bI b) (bI g) h = some (bI (nto b (g, s)).1, h2) ∧ RdA h2 f t o c kf sf tf mf (nto b (g, s)).2 ∧ Fr pR h h2 := by
  rw [Reader_plain_154_e]
  unfold nto
  by_cases q : b = true
  · rw [if_neg (fun z => bI_0.mp z q), if_pos q, H.g.2.1]
    simp only [Option.bind_some]
    obtain ⟨h2, e2, R2, F2⟩ := H.add hn (k := 11) (g := 0) (by decide) (by decide)
    rw [show Text_add 92 (11 : Int32) (0 : Int32) h = some (nI s.2.1, h2) from e2]
    simp only [Option.bind_some]
    rw [bI_z]
    exact ⟨h2, rfl, R2, F2⟩
  · rw [if_pos (bI_0.mpr q), if_neg q, bI_z]
    exact ⟨h, rfl, H, Fr.rf⟩
theorem Reader_plain_138_v {h : am_H} {s : PSt} {dd k : Nat} (hk : k < 16) (H : RdA h f t o c kf sf tf mf s) (hn : s.2.1 < 511) (b g : Bool) : ∃ h2, Reader_plain_138 dd 91 (bI b) (mlI k) (bI g) h = some (bI (nto b (g, emt s k)).1, h2) ∧ RdA h2 f t o c kf sf tf mf (nto b (g, emt s k)).2 ∧ Fr pR h h2 := by
  have em : (if mlI k < (0 : Int32) then (0 : Int32) else mlI k) = nI k := by
    unfold mlI
    by_cases q : k = 0
    · subst q; decide
    · rw [if_neg q, if_neg (fun z => by have := tilt.mp z; rw [tin (show k < 2 ^ 31 by omega), ti0] at this; omega)]
  obtain ⟨h2, e2, R2, F2⟩ := H.add (by omega) (k := k) (g := 0) hk (by omega)
  have R2' : RdA h2 f t o c kf sf tf mf (emt s k) := R2
  obtain ⟨h3, e3, R3, F3⟩ := Reader_plain_154_v (dd := dd) R2' (show s.2.1 + 1 < 512 by omega) b g
  refine ⟨h3, ?_, R3, F2.tr F3⟩
  rw [Reader_plain_138_e, H.g.2.1]
  simp only [Option.bind_some]
  rw [em, show Text_add 92 (nI k) (0 : Int32) h = some (nI s.2.1, h2) from e2]
  exact e3
theorem Reader_plain_4_l {dd : Nat} {v : Int32} : ∀ (k i : Nat) (h : am_H) (b : Bool) (s : PSt), i + k = 400 → RdA h f t o c kf sf tf mf s → ∃ h2, Reader_plain_4 dd 91 v (bI b) (nI i) h = Reader_plain_46 dd 91 v (bI (ntL f t k b s).1) h2 ∧ RdA h2 f t o c kf sf tf mf (ntL f t k b s).2 ∧ Fr pR h h2 ∧ phi t (ntL f t k b s).2 + (if (ntL f t k b s).1 = true then 1 else 0) ≤ phi t s + (if b = true then 1 else 0) := by
  have t4 : (400 : Int32).toInt = 400 := by decide
  intro k
  induction k with
  | zero =>
    intro i h b s hi H
    have ti := tin (show i < 2 ^ 31 by omega)
    refine ⟨h, ?_, H, Fr.rf, Nat.le_refl _⟩
    rw [Reader_plain_4_e, if_pos (tile.mpr (by omega))]
    rfl
  | succ k ih =>
    intro i h b s hi H
    have ti := tin (show i < 2 ^ 31 by omega)
    rw [Reader_plain_4_e, if_neg (fun z => by have := tile.mp z; omega), H.g.2.2.1]
    simp only [Option.bind_some]
    rw [show Tape_isWord 1 7 h = some (if wdp f t 7 s then 1 else 0) from Tape_isWord_v H.2.1 (by decide)]
    simp only [Option.bind_some]
    unfold ntL
    by_cases q : wdp f t 7 s
    · rw [if_pos q, if_pos q, if_neg (by decide)]
      obtain ⟨h1, e1, R1, F1⟩ := H.go
      have p1 := (gow_p (f := f) H.2.1.1).2 (tkd_y (f := f) (by rw [q.1]; decide))
      obtain ⟨h2, e2, R2, F2, p2⟩ := ih (i + 1) h1 (!b) _ (by omega) R1
      have e32 : ∀ x : Int32, Reader_plain_32 dd 91 v (nI i) x h = Reader_plain_4 dd 91 v x (nI (i + 1)) h1 := fun x => by
        rw [Reader_plain_32_e, H.g.2.2.1]
        simp only [Option.bind_some]
        rw [e1]
        simp only [Option.bind_some]
        rw [nI_p1]
      refine ⟨h2, ?_, R2, F1.tr F2, ?_⟩
      · rw [e32, e32, ← e2]
        cases b <;> rfl
      · cases b
        · have p2' : _ ≤ phi t (gow f t s) + 1 := p2
          show _ ≤ phi t s + 0
          omega
        · have p2' : _ ≤ phi t (gow f t s) + 0 := p2
          show _ ≤ phi t s + 1
          omega
    · rw [if_neg q, if_neg q, if_pos (by first | rfl | trivial)]
      exact ⟨h, rfl, H, Fr.rf, Nat.le_refl _⟩
theorem Reader_plain_cmp {h : am_H} {s : PSt} {dd : Nat} {v : Int32} {Sm : PSt → Bool × PSt} (HS : Rn f t o c kf sf tf mf (Reader_sum 40 91 v) Sm) (H : RdA h f t o c kf sf tf mf s) (hp : phi t s ≤ 505) (q : ¬ sgp f t 40 s) (b : Bool) : ∃ h2, Reader_plain_46 dd 91 v (bI b) h = some (bI (nto b (cmS Sm f t s)).1, h2) ∧ RdA h2 f t o c kf sf tf mf (nto b (cmS Sm f t s)).2 ∧ Fr pR h h2 ∧ phi t (cmS Sm f t s).2 ≤ phi t s + (if (cmS Sm f t s).1 = true then 0 else 1) := by
  obtain ⟨h1, e1, R1, F1, p1⟩ := HS h s H hp
  rw [Reader_plain_46_e, H.g.2.2.1]
  simp only [Option.bind_some]
  rw [Tape_isSign_v H.2.1, if_neg (show ¬ (tkd f t s.1 = 3 ∧ f s.1 = 40) from q)]
  simp only [Option.bind_some]
  rw [if_pos (by first | rfl | trivial), e1]
  simp only [Option.bind_some]
  unfold cmS
  generalize Sm s = z at *
  obtain ⟨cb, cy⟩ := cmq_b (f := f) (t := t) (s := z.2)
  unfold cmR
  have e0 : Reader_plain_117 dd 91 v (bI b) (-1) h1 = Reader_plain_138 dd 91 (bI b) (mlI 0) (bI false) h1 := by
    rw [Reader_plain_117_e, if_pos rfl, Reader_plain_137_e]; rfl
  by_cases q1 : z.1 = true
  · rw [if_neg (fun y => bI_0.mp y q1)]
    obtain ⟨h2, e2, R2, F2⟩ := Reader_comparison_v R1
    rw [e2]
    simp only [Option.bind_some]
    by_cases q2 : cmq f t z.2 = 0
    · rw [if_pos q2] at R2
      rw [if_neg (show ¬ (z.1 = true ∧ ¬ cmq f t z.2 = 0) from fun y => y.2 q2), q2]
      have n1 := phi_n (t := t) (s := z.2) (by omega)
      obtain ⟨h3, e3, R3, F3⟩ := Reader_plain_138_v (dd := dd) (k := 0) (by decide) R2 (by unfold phi at p1 hp; omega) b false
      refine ⟨h3, ?_, R3, F1.tr (F2.tr F3), ?_⟩
      · rw [← e3, Reader_plain_117_e, if_pos (show mlI 0 = (-1 : Int32) from rfl), Reader_plain_137_e]; rfl
      · show phi t (emt z.2 0) ≤ phi t s + 1
        rw [emt_p]; omega
    · rw [if_neg q2] at R2
      rw [if_pos (show z.1 = true ∧ ¬ cmq f t z.2 = 0 from ⟨q1, q2⟩)]
      have p2 := (gow_p (f := f) R1.2.1.1).2 (cy q2)
      obtain ⟨h3, e3, R3, F3, p3⟩ := HS h2 _ R2 (by omega)
      generalize Sm (gow f t z.2) = y at *
      obtain ⟨h4, e4, R4, F4⟩ := Reader_plain_138_v (dd := dd) (k := cmq f t z.2) cb R3 (by unfold phi at p1 p2 p3 hp; omega) b y.1
      refine ⟨h4, ?_, R4, F1.tr (F2.tr (F3.tr F4)), ?_⟩
      · rw [Reader_plain_117_e, if_neg (fun x => q2 ((mlI_0 cb).mp x)), e3]
        simp only [Option.bind_some]
        rw [← e4]
        by_cases q3 : y.1 = true
        · rw [if_neg (fun x => bI_0.mp x q3), q3]; rfl
        · rw [if_pos (bI_0.mpr q3), Reader_plain_137_e, show y.1 = false from Bool.eq_false_iff.mpr q3]; rfl
      · show phi t (emt y.2 (cmq f t z.2)) ≤ phi t s + _
        rw [emt_p]; omega
  · rw [if_pos (bI_0.mpr q1), if_neg (show ¬ (z.1 = true ∧ ¬ cmq f t z.2 = 0) from fun y => q1 y.1), e0]
    obtain ⟨h3, e3, R3, F3⟩ := Reader_plain_138_v (dd := dd) (k := 0) (by decide) R1 (by unfold phi at p1 hp; omega) b false
    refine ⟨h3, e3, R3, F1.tr F3, ?_⟩
    show phi t (emt z.2 0) ≤ phi t s + 1
    rw [emt_p]; omega
end ReadV
