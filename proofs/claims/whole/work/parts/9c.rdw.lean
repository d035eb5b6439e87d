/-! PURE: the reader: and, or -/
abbrev fl (b : Bool) : Nat := if b = true then 0 else 1
def lnd (s : PSt) (k w : Nat) : PSt := (s.1, s.2.1, upd s.2.2.1 k (nI (w + 16 * s.2.1)), s.2.2.2)
def anL (w cd : Nat) (Pt : PSt → Bool × PSt) (f : Nat → Int32) (t : Nat) : Nat → Bool → PSt → Bool × PSt
  | 0, g, s => (g, s)
  | k + 1, g, s => if g = true ∧ wdp f t w s then anL w cd Pt f t k (Pt (emt (gow f t s) cd)).1 (lnd (Pt (emt (gow f t s) cd)).2 s.2.1 cd) else (g, s)
def anq (w cd : Nat) (Pt : PSt → Bool × PSt) (f : Nat → Int32) (t : Nat) (s : PSt) : Bool × PSt := anL w cd Pt f t 400 (Pt s).1 (Pt s).2
def Rt (f : Nat → Int32) (t : Nat) (o : Int32) (c : Nat) (kf sf tf mf : Nat → Int32) (X : am_H → Option (Int32 × am_H)) (Pt : PSt → Bool × PSt) : Prop := ∀ (h : am_H) (s : PSt), RdA h f t o c kf sf tf mf s → phi t s ≤ 505 → ∃ h2, X h = some (bI (Pt s).1, h2) ∧ RdA h2 f t o c kf sf tf mf (Pt s).2 ∧ Fr pR h h2 ∧ phi t (Pt s).2 ≤ phi t s + fl (Pt s).1
theorem kpp.ln {s z : PSt} (H : kpp s z) {k w : Nat} (hk : s.2.1 ≤ k) : kpp s (lnd z k w) := ⟨H.1, fun i hi => (if_neg (show ¬ i = k by omega)).trans (H.2 i hi)⟩
theorem Kp_anL {w cd : Nat} {Pt : PSt → Bool × PSt} {f : Nat → Int32} {t : Nat} (H : Kp Pt) : ∀ (k : Nat) (g : Bool) (s : PSt), kpp s (anL w cd Pt f t k g s).2
  | 0, _, _ => kpp.rf
  | k + 1, g, s => by
    unfold anL
    by_cases q : g = true ∧ wdp f t w s
    · rw [if_pos q]
      have K : kpp s (Pt (emt (gow f t s) cd)).2 := kpp.go.tr (kpp.em.tr (H _))
      exact (K.ln (Nat.le_refl _)).tr (Kp_anL H k _ _)
    · rw [if_neg q]; exact kpp.rf
theorem Kp_anq {w cd : Nat} {Pt : PSt → Bool × PSt} {f : Nat → Int32} {t : Nat} (H : Kp Pt) : Kp (anq w cd Pt f t) := fun s => (H s).tr (Kp_anL H _ _ _)
section ReadW
variable {f : Nat → Int32} {t : Nat} {o : Int32} {c : Nat} {kf sf tf mf : Nat → Int32}
theorem RdA.ln {h : am_H} {s : PSt} (H : RdA h f t o c kf sf tf mf s) {k w : Nat} (hk : k < s.2.1) (hw : w < 16) (hc : s.2.2.1 k = nI w) : ∃ h2, Text_land 92 (nI k) h = some h2 ∧ RdA h2 f t o c kf sf tf mf (lnd s k w) ∧ Fr pR h h2 := by
  obtain ⟨a1, a2, a3, a4⟩ := H
  obtain ⟨h2, e, T, F⟩ := Text_land_v a3 hk hw (g := 0) (by omega) hc
  have N : ∀ a, a < 92 → ¬ xP 92 a := fun a ha z => by have := z.1; omega
  exact ⟨h2, e, ⟨(F 91 (N _ (by omega))).trans a1, a2.fr F (N _ (by omega)) (N _ (by omega)), T, a4⟩, F.mono (fun x z => Or.inr (by have := z.1; have := z.2; omega))⟩

theorem Reader_both_8_l {dd : Nat} {v : Int32} {Pt : PSt → Bool × PSt} (HP : Rt f t o c kf sf tf mf (Reader_plain dd 91 v) Pt) (HK : Kp Pt) : ∀ (k i : Nat) (h : am_H) (g : Bool) (s : PSt), i + k = 400 → RdA h f t o c kf sf tf mf s → phi t s ≤ 505 + fl g → ∃ h2, Reader_both_8 (dd + 1) 91 v (bI g) (nI i) h = some (bI (anL 8 13 Pt f t k g s).1, h2) ∧ RdA h2 f t o c kf sf tf mf (anL 8 13 Pt f t k g s).2 ∧ Fr pR h h2 ∧ phi t (anL 8 13 Pt f t k g s).2 + fl g ≤ phi t s + fl (anL 8 13 Pt f t k g s).1 := by
  have t4 : (400 : Int32).toInt = 400 := by decide
  intro k
  induction k with
  | zero =>
    intro i h g s hi H hp
    have ti := tin (show i < 2 ^ 31 by omega)
    refine ⟨h, ?_, H, Fr.rf, Nat.le_refl _⟩
    rw [Reader_both_8_e, if_pos (tile.mpr (by omega)), bI_z]
    rfl
  | succ k ih =>
    intro i h g s hi H hp
    have ti := tin (show i < 2 ^ 31 by omega)
    have es : Tape_isWord 1 8 h = some (if wdp f t 8 s then 1 else 0) := Tape_isWord_v H.2.1 (by decide)
    have g1 := H.g.2.2.1
    rw [Reader_both_8_e, if_neg (fun z => by have := tile.mp z; omega)]
    unfold anL
    by_cases q1 : g = true
    · rw [if_neg (fun z => bI_0.mp z q1)]
      have fg : fl g = 0 := if_pos q1
      by_cases q2 : wdp f t 8 s
      · rw [if_pos (show g = true ∧ wdp f t 8 s from ⟨q1, q2⟩)]
        obtain ⟨h1, e1, R1, F1⟩ := H.go
        have p1 := (gow_p (f := f) H.2.1.1).2 (tkd_y (f := f) (by rw [q2.1]; decide))
        have n1 : (gow f t s).2.1 < 512 := phi_n (t := t) (by omega)
        obtain ⟨h2, e2, R2, F2⟩ := R1.add n1 (k := 13) (g := 0) (by decide) (by decide)
        have R2' : RdA h2 f t o c kf sf tf mf (emt (gow f t s) 13) := R2
        have p2 : phi t (emt (gow f t s) 13) = phi t (gow f t s) + 1 := emt_p
        obtain ⟨h3, e3, R3, F3, p3⟩ := HP h2 _ R2' (by omega)
        have K := HK (emt (gow f t s) 13)
        have kn : s.2.1 + 1 ≤ (Pt (emt (gow f t s) 13)).2.2.1 := K.1
        have kc : (Pt (emt (gow f t s) 13)).2.2.2.1 s.2.1 = nI 13 := (K.2 s.2.1 (Nat.lt_succ_self _)).trans (if_pos rfl)
        obtain ⟨h4, e4, R4, F4⟩ := R3.ln (k := s.2.1) (w := 13) (by omega) (by decide) kc
        have p4 : phi t (lnd (Pt (emt (gow f t s) 13)).2 s.2.1 13) = phi t (Pt (emt (gow f t s) 13)).2 := rfl
        obtain ⟨h5, e5, R5, F5, p5⟩ := ih (i + 1) h4 (Pt (emt (gow f t s) 13)).1 _ (by omega) R4 (by omega)
        refine ⟨h5, ?_, R5, F1.tr (F2.tr (F3.tr (F4.tr F5))), by omega⟩
        simp only [g1, es, Option.bind_some]
        rw [if_pos q2, if_neg (by decide), e1]
        simp only [Option.bind_some]
        rw [R1.g.2.1]
        simp only [Option.bind_some]
        rw [show Text_add 92 (13 : Int32) (0 : Int32) h1 = some (nI s.2.1, h2) from e2]
        simp only [Option.bind_some]
        rw [if_pos (Nat.succ_pos dd), show dd + 1 - 1 = dd from rfl, e3]
        simp only [Option.bind_some]
        rw [R3.g.2.1]
        simp only [Option.bind_some]
        rw [e4]
        simp only [Option.bind_some]
        rw [nI_p1]
        exact e5
      · rw [if_neg (show ¬ (g = true ∧ wdp f t 8 s) from fun z => q2 z.2)]
        refine ⟨h, ?_, H, Fr.rf, Nat.le_refl _⟩
        simp only [g1, es, Option.bind_some]
        rw [if_neg q2, if_pos (by first | rfl | trivial), bI_z]
        rfl
    · rw [if_pos (bI_0.mpr q1), if_neg (show ¬ (g = true ∧ wdp f t 8 s) from fun z => q1 z.1), bI_z]
      exact ⟨h, rfl, H, Fr.rf, Nat.le_refl _⟩
theorem Reader_both_of {dd : Nat} {v : Int32} {Pt : PSt → Bool × PSt} (HP : Rt f t o c kf sf tf mf (Reader_plain dd 91 v) Pt) (HK : Kp Pt) : Rt f t o c kf sf tf mf (Reader_both (dd + 1) 91 v) (anq 8 13 Pt f t) := by
  intro h s H hp
  obtain ⟨h2, e2, R2, F2, p2⟩ := HP h s H hp
  obtain ⟨h3, e3, R3, F3, p3⟩ := Reader_both_8_l HP HK 400 0 h2 (Pt s).1 _ rfl R2 (by omega)
  refine ⟨h3, ?_, R3, F2.tr F3, ?_⟩
  · rw [Reader_both_e, if_pos H.g.1, if_pos (Nat.succ_pos dd), show dd + 1 - 1 = dd from rfl, e2]
    exact e3
  · show phi t (anL 8 13 Pt f t 400 (Pt s).1 (Pt s).2).2 ≤ phi t s + fl (anL 8 13 Pt f t 400 (Pt s).1 (Pt s).2).1
    omega

theorem Reader_test_8_l {dd : Nat} {v : Int32} {Pt : PSt → Bool × PSt} (HP : Rt f t o c kf sf tf mf (Reader_both dd 91 v) Pt) (HK : Kp Pt) : ∀ (k i : Nat) (h : am_H) (g : Bool) (s : PSt), i + k = 400 → RdA h f t o c kf sf tf mf s → phi t s ≤ 505 + fl g → ∃ h2, Reader_test_8 (dd + 1) 91 v (bI g) (nI i) h = some (bI (anL 9 12 Pt f t k g s).1, h2) ∧ RdA h2 f t o c kf sf tf mf (anL 9 12 Pt f t k g s).2 ∧ Fr pR h h2 ∧ phi t (anL 9 12 Pt f t k g s).2 + fl g ≤ phi t s + fl (anL 9 12 Pt f t k g s).1 := by
  have t4 : (400 : Int32).toInt = 400 := by decide
  intro k
  induction k with
  | zero =>
    intro i h g s hi H hp
    have ti := tin (show i < 2 ^ 31 by omega)
    refine ⟨h, ?_, H, Fr.rf, Nat.le_refl _⟩
    rw [Reader_test_8_e, if_pos (tile.mpr (by omega)), bI_z]
    rfl
  | succ k ih =>
    intro i h g s hi H hp
    have ti := tin (show i < 2 ^ 31 by omega)
    have es : Tape_isWord 1 9 h = some (if wdp f t 9 s then 1 else 0) := Tape_isWord_v H.2.1 (by decide)
    have g1 := H.g.2.2.1
    rw [Reader_test_8_e, if_neg (fun z => by have := tile.mp z; omega)]
    unfold anL
    by_cases q1 : g = true
    · rw [if_neg (fun z => bI_0.mp z q1)]
      have fg : fl g = 0 := if_pos q1
      by_cases q2 : wdp f t 9 s
      · rw [if_pos (show g = true ∧ wdp f t 9 s from ⟨q1, q2⟩)]
        obtain ⟨h1, e1, R1, F1⟩ := H.go
        have p1 := (gow_p (f := f) H.2.1.1).2 (tkd_y (f := f) (by rw [q2.1]; decide))
        have n1 : (gow f t s).2.1 < 512 := phi_n (t := t) (by omega)
        obtain ⟨h2, e2, R2, F2⟩ := R1.add n1 (k := 12) (g := 0) (by decide) (by decide)
        have R2' : RdA h2 f t o c kf sf tf mf (emt (gow f t s) 12) := R2
        have p2 : phi t (emt (gow f t s) 12) = phi t (gow f t s) + 1 := emt_p
        obtain ⟨h3, e3, R3, F3, p3⟩ := HP h2 _ R2' (by omega)
        have K := HK (emt (gow f t s) 12)
        have kn : s.2.1 + 1 ≤ (Pt (emt (gow f t s) 12)).2.2.1 := K.1
        have kc : (Pt (emt (gow f t s) 12)).2.2.2.1 s.2.1 = nI 12 := (K.2 s.2.1 (Nat.lt_succ_self _)).trans (if_pos rfl)
        obtain ⟨h4, e4, R4, F4⟩ := R3.ln (k := s.2.1) (w := 12) (by omega) (by decide) kc
        have p4 : phi t (lnd (Pt (emt (gow f t s) 12)).2 s.2.1 12) = phi t (Pt (emt (gow f t s) 12)).2 := rfl
        obtain ⟨h5, e5, R5, F5, p5⟩ := ih (i + 1) h4 (Pt (emt (gow f t s) 12)).1 _ (by omega) R4 (by omega)
        refine ⟨h5, ?_, R5, F1.tr (F2.tr (F3.tr (F4.tr F5))), by omega⟩
        simp only [g1, es, Option.bind_some]
        rw [if_pos q2, if_neg (by decide), e1]
        simp only [Option.bind_some]
        rw [R1.g.2.1]
        simp only [Option.bind_some]
        rw [show Text_add 92 (12 : Int32) (0 : Int32) h1 = some (nI s.2.1, h2) from e2]
        simp only [Option.bind_some]
        rw [if_pos (Nat.succ_pos dd), show dd + 1 - 1 = dd from rfl, e3]
        simp only [Option.bind_some]
        rw [R3.g.2.1]
        simp only [Option.bind_some]
        rw [e4]
        simp only [Option.bind_some]
        rw [nI_p1]
        exact e5
      · rw [if_neg (show ¬ (g = true ∧ wdp f t 9 s) from fun z => q2 z.2)]
        refine ⟨h, ?_, H, Fr.rf, Nat.le_refl _⟩
        simp only [g1, es, Option.bind_some]
        rw [if_neg q2, if_pos (by first | rfl | trivial), bI_z]
        rfl
    · rw [if_pos (bI_0.mpr q1), if_neg (show ¬ (g = true ∧ wdp f t 9 s) from fun z => q1 z.1), bI_z]
      exact ⟨h, rfl, H, Fr.rf, Nat.le_refl _⟩
theorem Reader_test_of {dd : Nat} {v : Int32} {Pt : PSt → Bool × PSt} (HP : Rt f t o c kf sf tf mf (Reader_both dd 91 v) Pt) (HK : Kp Pt) : Rt f t o c kf sf tf mf (Reader_test (dd + 1) 91 v) (anq 9 12 Pt f t) := by
  intro h s H hp
  obtain ⟨h2, e2, R2, F2, p2⟩ := HP h s H hp
  obtain ⟨h3, e3, R3, F3, p3⟩ := Reader_test_8_l HP HK 400 0 h2 (Pt s).1 _ rfl R2 (by omega)
  refine ⟨h3, ?_, R3, F2.tr F3, ?_⟩
  · rw [Reader_test_e, if_pos H.g.1, if_pos (Nat.succ_pos dd), show dd + 1 - 1 = dd from rfl, e2]
    exact e3
  · show phi t (anL 9 12 Pt f t 400 (Pt s).1 (Pt s).2).2 ≤ phi t s + fl (anL 9 12 Pt f t 400 (Pt s).1 (Pt s).2).1
    omega

end ReadW
