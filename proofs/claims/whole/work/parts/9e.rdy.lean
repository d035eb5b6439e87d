/-! PURE: the reader: clauses -/
/-- the state, and the clauses' rows: how many, kinds, sums, tests, times -/
abbrev CSt : Type := PSt × Nat × (Nat → Int32) × (Nat → Int32) × (Nat → Int32) × (Nat → Int32)
abbrev RdC (h : am_H) (f : Nat → Int32) (t : Nat) (o : Int32) (S : CSt) : Prop := RdA h f t o S.2.1 S.2.2.1 S.2.2.2.1 S.2.2.2.2.1 S.2.2.2.2.2 S.1
def thn (P Q : CSt → Bool × CSt) (S : CSt) : Bool × CSt := if (P S).1 = true then Q (P S).2 else (false, (P S).2)
def rsm (f : Nat → Int32) (t : Nat) (o : Int32) (i : Nat) (S : CSt) : Bool × CSt := ((smd f t o 8 S.1).1, emt (smd f t o 8 S.1).2 0, S.2.1, S.2.2.1, upd S.2.2.2.1 ((S.2.1 - 1) * 3 + i) (nI S.1.2.1), S.2.2.2.2)
def rif (f : Nat → Int32) (t : Nat) (o : Int32) (S : CSt) : Bool × CSt := if wdp f t 6 S.1 then ((tss f t o 8 (gow f t S.1)).1, emt (tss f t o 8 (gow f t S.1)).2 0, S.2.1, S.2.2.1, S.2.2.2.1, upd S.2.2.2.2.1 (S.2.1 - 1) (nI S.1.2.1), S.2.2.2.2.2) else (true, S)
def rtm (f : Nat → Int32) (t : Nat) (S : CSt) : Bool × CSt := if wdp f t 5 S.1 then (if tkd f t (gow f t S.1).1 = 2 ∧ 1 ≤ nmv f t (gow f t S.1) ∧ nmv f t (gow f t S.1) ≤ 20 then (true, gow f t (gow f t S.1), S.2.1, S.2.2.1, S.2.2.2.1, S.2.2.2.2.1, upd S.2.2.2.2.2 (S.2.1 - 1) (nI (nmv f t (gow f t S.1)))) else (false, gow f t S.1, S.2)) else (true, S)
def tkw (f : Nat → Int32) (t w : Nat) (S : CSt) : Bool × CSt := if wdp f t w S.1 then (true, gow f t S.1, S.2) else (false, S)
def bgn (f : Nat → Int32) (t : Nat) (kd : Int32) (S : CSt) : CSt := (gow f t S.1, S.2.1 + 1, upd S.2.2.1 S.2.1 kd, S.2.2.2.1, upd S.2.2.2.2.1 S.2.1 (-1), upd S.2.2.2.2.2 S.2.1 1)
def rru (f : Nat → Int32) (t : Nat) (o : Int32) (S : CSt) : Bool × CSt := if amg f t 10 S.1 = -1 then (false, S) else if amg f t 10 S.1 = 2 then rif f t o (bgn f t (amg f t 10 S.1) S) else thn (rsm f t o 0) (rif f t o) (bgn f t (amg f t 10 S.1) S)
def ror (f : Nat → Int32) (t : Nat) (o : Int32) (S : CSt) : Bool × CSt := if amg f t 0 S.1 = -1 then (false, S) else if amg f t 0 S.1 = 1 then thn (rsm f t o 0) (thn (tkw f t 3) (thn (rsm f t o 1) (thn (tkw f t 4) (thn (rsm f t o 2) (thn (rtm f t) (rif f t o)))))) (bgn f t (amg f t 0 S.1) S) else if amg f t 0 S.1 = 2 then thn (rsm f t o 0) (thn (tkw f t 4) (thn (rsm f t o 1) (thn (rtm f t) (rif f t o)))) (bgn f t (amg f t 0 S.1) S) else thn (rsm f t o 0) (thn (rtm f t) (rif f t o)) (bgn f t (amg f t 0 S.1) S)
/-- the method X reads as P does: from a on, at most b is left to pay if it was good -/
def Cx (f : Nat → Int32) (t : Nat) (o : Int32) (a b : Nat) (X : am_H → Option (Int32 × am_H)) (P : CSt → Bool × CSt) : Prop := ∀ (h : am_H) (S : CSt), RdC h f t o S → 1 ≤ S.2.1 → phi t S.1 ≤ a → ∃ h2, X h = some (bI (P S).1, h2) ∧ RdC h2 f t o (P S).2 ∧ Fr pR h h2 ∧ (P S).2.2.1 = S.2.1 ∧ ((P S).1 = true → phi t (P S).2.1 ≤ b)
section ReadC
variable {f : Nat → Int32} {t : Nat} {o : Int32}
theorem Cx_thn {a b c : Nat} {X Y : am_H → Option (Int32 × am_H)} {P Q : CSt → Bool × CSt} (H1 : Cx f t o a b X P) (H2 : Cx f t o b c Y Q) : Cx f t o a c (fun h => (X h).bind fun r => if r.1 = (0 : Int32) then some ((0 : Int32), r.2) else Y r.2) (thn P Q) := by
  intro h S H hc hp
  obtain ⟨h1, e1, R1, F1, c1, p1⟩ := H1 h S H hc hp
  unfold thn
  generalize P S = r at *
  by_cases q : r.1 = true
  · obtain ⟨h2, e2, R2, F2, c2, p2⟩ := H2 h1 r.2 R1 (by omega) (p1 q)
    rw [if_pos q]
    refine ⟨h2, ?_, R2, F1.tr F2, c2.trans c1, p2⟩
    show (X h).bind _ = _
    rw [e1]
    simp only [Option.bind_some]
    rw [if_neg (fun x => bI_0.mp x q)]
    exact e2
  · rw [if_neg q]
    refine ⟨h1, ?_, R1, F1, c1, fun z => absurd z Bool.false_ne_true⟩
    show (X h).bind _ = _
    rw [e1]
    simp only [Option.bind_some]
    rw [if_pos (bI_0.mpr q)]
    rfl
theorem Reader_readSum_v {a i : Nat} (ha : a ≤ 505) (hi : i < 3) : Cx f t o a (a + 1) (Reader_readSum 91 (nI i)) (rsm f t o i) := by
  rintro h ⟨s, c, kf, sf, tf, mf⟩ H hc hp
  obtain ⟨c, rfl⟩ : ∃ k, c = k + 1 := ⟨c - 1, by have : 1 ≤ c := hc; omega⟩
  have H : RdA h f t o (c + 1) kf sf tf mf s := H
  have hp : phi t s ≤ a := hp
  obtain ⟨a1, a2, a3, a4⟩ := H
  obtain ⟨h1, e1, T1, F1⟩ := Text_setSum_v a3 hi
  have N : ∀ x, x < 92 → ¬ xP 92 x := fun x hx z => by have := z.1; omega
  have R1 : RdA h1 f t o (c + 1) kf (upd sf (c * 3 + i) (nI s.2.1)) tf mf s := ⟨(F1 91 (N _ (by omega))).trans a1, a2.fr F1 (N _ (by omega)) (N _ (by omega)), T1, a4⟩
  obtain ⟨h2, e2, R2, F2, p2⟩ := Reader_sum_v (d := 8) (by decide) h1 s R1 (by omega)
  have e2 : Reader_sum 40 91 0 h1 = some (bI (smd f t o 8 s).1, h2) := e2
  have R2 : RdA h2 f t o (c + 1) kf (upd sf (c * 3 + i) (nI s.2.1)) tf mf (smd f t o 8 s).2 := R2
  have p2 : phi t (smd f t o 8 s).2 ≤ phi t s := p2
  obtain ⟨h3, e3, R3, F3⟩ := R2.add (phi_n (t := t) (by omega)) (k := 0) (g := 0) (by decide) (by decide)
  refine ⟨h3, ?_, R3, (F1.mono (fun x z => Or.inr (by have := z.1; have := z.2; omega))).tr (F2.tr F3), rfl, fun _ => ?_⟩
  · unfold Reader_readSum
    rw [if_pos (isO_of a1), (RdA.g (c := c + 1) ⟨a1, a2, a3, a4⟩).2.1]
    simp only [Option.bind_some]
    rw [e1]
    simp only [Option.bind_some]
    rw [e2]
    simp only [Option.bind_some]
    rw [R2.g.2.1]
    simp only [Option.bind_some]
    rw [show Text_add 92 (0 : Int32) (0 : Int32) h2 = _ from e3]
    simp only [Option.bind_some]
    rw [bI_z]
    rfl
  · show phi t (emt (smd f t o 8 s).2 0) ≤ a + 1
    rw [emt_p]; omega
theorem Reader_readIf_v {a : Nat} (ha : a ≤ 505) : Cx f t o a a (Reader_readIf 91) (rif f t o) := by
  rintro h ⟨s, c, kf, sf, tf, mf⟩ H hc hp
  obtain ⟨c, rfl⟩ : ∃ k, c = k + 1 := ⟨c - 1, by have : 1 ≤ c := hc; omega⟩
  have H : RdA h f t o (c + 1) kf sf tf mf s := H
  have hp : phi t s ≤ a := hp
  obtain ⟨h1, e1, R1, F1⟩ := Reader_take_v H (k := 6) (by decide)
  unfold rif
  by_cases q : wdp f t 6 s
  · rw [if_pos q] at e1 R1
    rw [if_pos (show wdp f t 6 (s, c + 1, kf, sf, tf, mf).1 from q)]
    have p1 := (gow_p (f := f) H.2.1.1).2 (tkd_y (f := f) (y := s.1) (by have := q.1; omega))
    obtain ⟨a1, a2, a3, a4⟩ := R1
    obtain ⟨h2, e2, T2, F2⟩ := Text_setTest_v a3
    have N : ∀ x, x < 92 → ¬ xP 92 x := fun x hx z => by have := z.1; omega
    have R2 : RdA h2 f t o (c + 1) kf sf (upd tf c (nI s.2.1)) mf (gow f t s) := ⟨(F2 91 (N _ (by omega))).trans a1, a2.fr F2 (N _ (by omega)) (N _ (by omega)), T2, a4⟩
    obtain ⟨h3, e3, R3, F3, p3⟩ := Reader_test_v 8 (by decide) 40 (by decide) h2 _ R2 (by omega)
    have fy : fl (tss f t o 8 (gow f t s)).1 ≤ 1 := by unfold fl; split <;> omega
    have fz : (tss f t o 8 (gow f t s)).1 = true → fl (tss f t o 8 (gow f t s)).1 = 0 := fun z => if_pos z
    obtain ⟨h4, e4, R4, F4⟩ := R3.add (phi_n (t := t) (by omega)) (k := 0) (g := 0) (by decide) (by decide)
    refine ⟨h4, ?_, R4, F1.tr ((F2.mono (fun x z => Or.inr (by have := z.1; have := z.2; omega))).tr (F3.tr F4)), rfl, fun z => ?_⟩
    · unfold Reader_readIf
      rw [if_pos H.g.1, e1]
      simp only [Option.bind_some]
      rw [if_neg (by decide), (RdA.g (c := c + 1) (s := gow f t s) ⟨a1, a2, a3, a4⟩).2.1]
      simp only [Option.bind_some]
      rw [e2]
      simp only [Option.bind_some]
      rw [show Reader_test 40 91 (0 : Int32) h2 = _ from e3]
      simp only [Option.bind_some]
      rw [R3.g.2.1]
      simp only [Option.bind_some]
      rw [show Text_add 92 (0 : Int32) (0 : Int32) h3 = _ from e4]
      simp only [Option.bind_some]
      rw [bI_z]
      rfl
    · show phi t (emt (tss f t o 8 (gow f t s)).2 0) ≤ a
      rw [emt_p]
      have := fz z
      omega
  · rw [if_neg q] at e1 R1
    rw [if_neg (show ¬ wdp f t 6 (s, c + 1, kf, sf, tf, mf).1 from q)]
    refine ⟨h1, ?_, R1, F1, rfl, fun _ => hp⟩
    unfold Reader_readIf
    rw [if_pos H.g.1, e1]
    simp only [Option.bind_some]
    rw [if_pos (by first | rfl | trivial)]
    rfl
theorem Reader_take_x {a k : Nat} (hk : k < 11) : Cx f t o a (a - 1) (Reader_take 91 k) (tkw f t k) := by
  rintro h ⟨s, c, kf, sf, tf, mf⟩ H hc hp
  have H : RdA h f t o c kf sf tf mf s := H
  have hp : phi t s ≤ a := hp
  obtain ⟨h1, e1, R1, F1⟩ := Reader_take_v H hk
  unfold tkw
  by_cases q : wdp f t k s
  · rw [if_pos q] at e1 R1
    rw [if_pos (show wdp f t k (s, c, kf, sf, tf, mf).1 from q)]
    have p1 := (gow_p (f := f) H.2.1.1).2 (tkd_y (f := f) (y := s.1) (by have := q.1; omega))
    exact ⟨h1, e1, R1, F1, rfl, fun _ => by show phi t (gow f t s) ≤ a - 1; omega⟩
  · rw [if_neg q] at e1 R1
    rw [if_neg (show ¬ wdp f t k (s, c, kf, sf, tf, mf).1 from q)]
    exact ⟨h1, e1, R1, F1, rfl, fun z => absurd z Bool.false_ne_true⟩
theorem Reader_readTimes_v {a : Nat} : Cx f t o a a (Reader_readTimes 91) (rtm f t) := by
  rintro h ⟨s, c, kf, sf, tf, mf⟩ H hc hp
  obtain ⟨c, rfl⟩ : ∃ k, c = k + 1 := ⟨c - 1, by have : 1 ≤ c := hc; omega⟩
  have H : RdA h f t o (c + 1) kf sf tf mf s := H
  have hp : phi t s ≤ a := hp
  obtain ⟨h1, e1, R1, F1⟩ := Reader_take_v H (k := 5) (by decide)
  unfold rtm
  by_cases q : wdp f t 5 s
  · rw [if_pos q] at e1 R1
    rw [if_pos (show wdp f t 5 (s, c + 1, kf, sf, tf, mf).1 from q)]
    have p1 := (gow_p (f := f) H.2.1.1).1
    have n1 := nmv_le (f := f) (t := t) (s := gow f t s)
    have tn := tin (show nmv f t (gow f t s) < 2 ^ 31 by omega)
    have t1 : (1 : Int32).toInt = 1 := by decide
    have t20 : (20 : Int32).toInt = 20 := by decide
    have en : Tape_number 1 h1 = some (if tkd f t (gow f t s).1 = 2 then nI (nmv f t (gow f t s)) else -1) := Tape_number_v R1.2.1
    by_cases q2 : tkd f t (gow f t s).1 = 2 ∧ 1 ≤ nmv f t (gow f t s) ∧ nmv f t (gow f t s) ≤ 20
    · rw [if_pos q2.1] at en
      rw [if_pos (show tkd f t (gow f t (s, c + 1, kf, sf, tf, mf).1).1 = 2 ∧ 1 ≤ nmv f t (gow f t (s, c + 1, kf, sf, tf, mf).1) ∧ nmv f t (gow f t (s, c + 1, kf, sf, tf, mf).1) ≤ 20 from q2)]
      have g1 := R1.g
      obtain ⟨a1, a2, a3, a4⟩ := R1
      obtain ⟨h2, e2, T2, F2⟩ := Text_setTimes_v a3 (nI (nmv f t (gow f t s)))
      have N : ∀ x, x < 92 → ¬ xP 92 x := fun x hx z => by have := z.1; omega
      have R2 : RdA h2 f t o (c + 1) kf sf tf (upd mf c (nI (nmv f t (gow f t s)))) (gow f t s) := ⟨(F2 91 (N _ (by omega))).trans a1, a2.fr F2 (N _ (by omega)) (N _ (by omega)), T2, a4⟩
      obtain ⟨h3, e3, R3, F3⟩ := R2.go
      refine ⟨h3, ?_, R3, F1.tr ((F2.mono (fun x z => Or.inr (by have := z.1; have := z.2; omega))).tr F3), rfl, fun _ => ?_⟩
      · unfold Reader_readTimes
        rw [if_pos H.g.1, e1]
        simp only [Option.bind_some]
        rw [if_neg (by decide), g1.2.2.1]
        simp only [Option.bind_some]
        rw [en]
        simp only [Option.bind_some]
        rw [if_neg (fun x => by have := tilt.mp x; omega), if_pos (tile.mpr (by omega)), g1.2.1]
        simp only [Option.bind_some]
        rw [e2]
        simp only [Option.bind_some]
        rw [R2.g.2.2.1]
        simp only [Option.bind_some]
        rw [e3]
        rfl
      · show phi t (gow f t (gow f t s)) ≤ a
        have := (gow_p (f := f) (show (gow f t s).1 ≤ t from R2.2.1.1)).1
        omega
    · rw [if_neg (show ¬ (tkd f t (gow f t (s, c + 1, kf, sf, tf, mf).1).1 = 2 ∧ 1 ≤ nmv f t (gow f t (s, c + 1, kf, sf, tf, mf).1) ∧ nmv f t (gow f t (s, c + 1, kf, sf, tf, mf).1) ≤ 20) from q2)]
      refine ⟨h1, ?_, R1, F1, rfl, fun z => absurd z Bool.false_ne_true⟩
      unfold Reader_readTimes
      rw [if_pos H.g.1, e1]
      simp only [Option.bind_some]
      rw [if_neg (by decide), R1.g.2.2.1]
      simp only [Option.bind_some]
      rw [en]
      simp only [Option.bind_some]
      by_cases q3 : tkd f t (gow f t s).1 = 2
      · rw [if_pos q3]
        by_cases q4 : nmv f t (gow f t s) = 0
        · rw [if_pos (tilt.mpr (by omega))]
          rfl
        · rw [if_neg (fun x => by have := tilt.mp x; omega), if_neg (fun x => by have := tile.mp x; exact q2 ⟨q3, by omega, by omega⟩)]
          rfl
      · rw [if_neg q3, if_pos (by decide)]
        rfl
  · rw [if_neg q] at e1 R1
    rw [if_neg (show ¬ wdp f t 5 (s, c + 1, kf, sf, tf, mf).1 from q)]
    refine ⟨h1, ?_, R1, F1, rfl, fun _ => hp⟩
    unfold Reader_readTimes
    rw [if_pos H.g.1, e1]
    simp only [Option.bind_some]
    rw [if_pos (by first | rfl | trivial)]
    rfl
theorem Reader_begin_v {h : am_H} {S : CSt} (H : RdC h f t o S) (hc : S.2.1 < 12) (kd : Int32) : ∃ h1 h2, Text_begin 92 kd h = some h1 ∧ gR h1 3 91 1 = some 1 ∧ Tape_go 1 h1 = some h2 ∧ RdC h2 f t o (bgn f t kd S) ∧ Fr pR h h2 := by
  obtain ⟨s, c, kf, sf, tf, mf⟩ := S
  obtain ⟨a1, a2, a3, a4⟩ := H
  obtain ⟨h1, e1, T1, F1⟩ := Text_begin_v a3 hc kd
  have N : ∀ x, x < 92 → ¬ xP 92 x := fun x hx z => by have := z.1; omega
  have R1 : RdA h1 f t o (c + 1) (upd kf c kd) sf (upd tf c (-1)) (upd mf c 1) s := ⟨(F1 91 (N _ (by omega))).trans a1, a2.fr F1 (N _ (by omega)) (N _ (by omega)), T1, a4⟩
  obtain ⟨h2, e2, R2, F2⟩ := R1.go
  exact ⟨h1, h2, e1, R1.g.2.2.1, e2, R2, (F1.mono (fun x z => Or.inr (by have := z.1; have := z.2; omega))).tr F2⟩
theorem Cx_if2 {a b : Nat} {X : am_H → Option (Int32 × am_H)} {P : CSt → Bool × CSt} (H : Cx f t o a b X P) : Cx f t o a b (fun h => (X h).bind fun r => if r.1 = (0 : Int32) then some ((0 : Int32), r.2) else some ((1 : Int32), r.2)) P := by
  intro h S HS hc hp
  obtain ⟨h1, e1, R1, F1, c1, p1⟩ := H h S HS hc hp
  refine ⟨h1, ?_, R1, F1, c1, p1⟩
  show (X h).bind _ = _
  rw [e1]
  simp only [Option.bind_some]
  by_cases q : (P S).1 = true
  · rw [if_neg (fun x => bI_0.mp x q)]
    show _ = some (bI (P S).1, h1)
    rw [show bI (P S).1 = 1 from if_pos q]
  · rw [if_pos (bI_0.mpr q)]
    show _ = some (bI (P S).1, h1)
    rw [show bI (P S).1 = 0 from if_neg q]
theorem Reader_readRule_45_v {a : Nat} (ha : a ≤ 505) : Cx f t o a a (Reader_readRule_45 91) (rif f t o) := Cx_if2 (Reader_readIf_v ha)
/-- a clause is read -/
def Cw (f : Nat → Int32) (t : Nat) (o : Int32) (X : am_H → Option (Int32 × am_H)) (P : CSt → Bool × CSt) : Prop := ∀ (h : am_H) (S : CSt), RdC h f t o S → S.2.1 < 12 → phi t S.1 ≤ 400 → ∃ h2, X h = some (bI (P S).1, h2) ∧ RdC h2 f t o (P S).2 ∧ Fr pR h h2 ∧ ((P S).1 = true → (P S).2.2.1 = S.2.1 + 1 ∧ phi t (P S).2.1 ≤ 400)
theorem amg_p {w : Nat} {s : PSt} (hs : s.1 ≤ t) (h : ¬ amg f t w s = -1) : phi t (gow f t s) + 1 ≤ phi t s := by
  refine (gow_p (f := f) hs).2 (tkd_y (f := f) ?_)
  by_cases e : tkd f t s.1 = 1
  · omega
  · exact absurd (if_neg e) h
theorem Reader_readRule_v : Cw f t o (Reader_readRule 91) (rru f t o) := by
  intro h S H hc hp
  have g := H.g
  have ea : Tape_among 1 10 h = some (amg f t 10 S.1) := Tape_among_v H.2.1 (by decide)
  unfold rru
  by_cases q : amg f t 10 S.1 = -1
  · rw [if_pos q]
    refine ⟨h, ?_, H, Fr.rf, fun z => absurd z Bool.false_ne_true⟩
    unfold Reader_readRule
    rw [if_pos g.1, g.2.2.1]
    simp only [Option.bind_some]
    rw [ea]
    simp only [Option.bind_some]
    rw [if_pos q]
    rfl
  · rw [if_neg q]
    obtain ⟨h1, h2, e1, e2, e3, R, F⟩ := Reader_begin_v H hc (amg f t 10 S.1)
    have pb : phi t (bgn f t (amg f t 10 S.1) S).1 ≤ 399 := by
      have := amg_p (f := f) H.2.1.1 q
      show phi t (gow f t S.1) ≤ 399
      omega
    have cb : (bgn f t (amg f t 10 S.1) S).2.1 = S.2.1 + 1 := rfl
    have E : Reader_readRule 91 h = (if amg f t 10 S.1 = (2 : Int32) then Reader_readRule_45 91 h2 else (Reader_readSum 91 (0 : Int32) h2).bind fun r24 => if r24.1 = (0 : Int32) then some ((0 : Int32), r24.2) else Reader_readRule_45 91 r24.2) := by
      unfold Reader_readRule
      rw [if_pos g.1, g.2.2.1]
      simp only [Option.bind_some]
      rw [ea]
      simp only [Option.bind_some]
      rw [if_neg q, g.2.1]
      simp only [Option.bind_some]
      rw [e1]
      simp only [Option.bind_some]
      rw [e2]
      simp only [Option.bind_some]
      rw [e3]
      rfl
    rw [E]
    generalize bgn f t (amg f t 10 S.1) S = B at *
    by_cases q2 : amg f t 10 S.1 = 2
    · rw [if_pos q2, if_pos q2]
      obtain ⟨h3, e4, R3, F3, c3, p3⟩ := Reader_readRule_45_v (a := 399) (by decide) h2 B R (by omega) pb
      exact ⟨h3, e4, R3, F.tr F3, fun z => ⟨c3.trans cb, by have := p3 z; omega⟩⟩
    · rw [if_neg q2, if_neg q2]
      obtain ⟨h3, e4, R3, F3, c3, p3⟩ := Cx_thn (Reader_readSum_v (a := 399) (i := 0) (by decide) (by decide)) (Reader_readRule_45_v (a := 400) (by decide)) h2 B R (by omega) pb
      exact ⟨h3, e4, R3, F.tr F3, fun z => ⟨c3.trans cb, p3 z⟩⟩
theorem Reader_readOrder_122_v {a : Nat} (ha : a ≤ 505) : Cx f t o a a (fun h => Reader_readOrder_122 91 1 h) (thn (rtm f t) (rif f t o)) := by
  intro h S H hc hp
  obtain ⟨h2, e, R⟩ := Cx_thn Reader_readTimes_v (Cx_if2 (Reader_readIf_v ha)) h S H hc hp
  refine ⟨h2, ?_, R⟩
  show Reader_readOrder_122 91 1 h = _
  unfold Reader_readOrder_122
  rw [if_neg (by decide)]
  exact e
theorem Cx_122 {a : Nat} (ha : a + 1 ≤ 505) {i : Nat} (hi : i < 3) : Cx f t o a (a + 1) (fun h => (Reader_readSum 91 (nI i) h).bind fun r => Reader_readOrder_122 91 r.1 r.2) (thn (rsm f t o i) (thn (rtm f t) (rif f t o))) := by
  intro h S H hc hp
  obtain ⟨h2, e, R⟩ := Cx_thn (Reader_readSum_v (a := a) (by omega) hi) (Reader_readOrder_122_v (a := a + 1) ha) h S H hc hp
  refine ⟨h2, ?_, R⟩
  rw [← e]
  obtain ⟨h3, e3, _⟩ := Reader_readSum_v (a := a) (by omega) hi h S H hc hp
  show (Reader_readSum 91 (nI i) h).bind _ = (Reader_readSum 91 (nI i) h).bind _
  rw [e3]
  simp only [Option.bind_some]
  by_cases q : (rsm f t o i S).1 = true
  · rw [if_neg (fun x => bI_0.mp x q), show bI (rsm f t o i S).1 = 1 from if_pos q]
  · rw [if_pos (bI_0.mpr q), show bI (rsm f t o i S).1 = 0 from if_neg q]
    unfold Reader_readOrder_122
    rw [if_pos rfl]
theorem R122_0 (h : am_H) : Reader_readOrder_122 91 0 h = some (0, h) := by unfold Reader_readOrder_122; rw [if_pos rfl]
theorem R85 (h : am_H) : Reader_readOrder_85 91 h = some (0, h) := R122_0 h
theorem R120 (h : am_H) : Reader_readOrder_120 91 h = some (0, h) := R122_0 h
theorem R86 (h : am_H) : Reader_readOrder_86 91 1 h = Reader_readOrder_122 91 1 h := rfl
theorem R121 (h : am_H) : Reader_readOrder_121 91 1 h = Reader_readOrder_122 91 1 h := rfl
theorem Reader_readOrder_v : Cw f t o (Reader_readOrder 91) (ror f t o) := by
  intro h S H hc hp
  have g := H.g
  have ea : Tape_among 1 0 h = some (amg f t 0 S.1) := Tape_among_v H.2.1 (by decide)
  unfold ror
  by_cases q : amg f t 0 S.1 = -1
  · rw [if_pos q]
    refine ⟨h, ?_, H, Fr.rf, fun z => absurd z Bool.false_ne_true⟩
    unfold Reader_readOrder
    rw [if_pos g.1, g.2.2.1]
    simp only [Option.bind_some]
    rw [ea]
    simp only [Option.bind_some]
    rw [if_pos q]
    rfl
  · rw [if_neg q]
    obtain ⟨h1, h2, e1, e2, e3, R, F⟩ := Reader_begin_v H hc (amg f t 0 S.1)
    have pb : phi t (bgn f t (amg f t 0 S.1) S).1 ≤ 399 := by
      have := amg_p (f := f) H.2.1.1 q
      show phi t (gow f t S.1) ≤ 399
      omega
    have cb : (bgn f t (amg f t 0 S.1) S).2.1 = S.2.1 + 1 := rfl
    have S0 := Reader_readSum_v (f := f) (t := t) (o := o) (a := 399) (i := 0) (by decide) (by decide)
    have S1 := Reader_readSum_v (f := f) (t := t) (o := o) (a := 399) (i := 1) (by decide) (by decide)
    have S2 := Reader_readSum_v (f := f) (t := t) (o := o) (a := 399) (i := 2) (by decide) (by decide)
    have T3 := Reader_take_x (f := f) (t := t) (o := o) (a := 400) (k := 3) (by decide)
    have T4 := Reader_take_x (f := f) (t := t) (o := o) (a := 400) (k := 4) (by decide)
    have X := Reader_readOrder_122_v (f := f) (t := t) (o := o) (a := 400) (by decide)
    unfold Reader_readOrder
    rw [if_pos g.1, g.2.2.1]
    simp only [Option.bind_some]
    rw [ea]
    simp only [Option.bind_some]
    rw [if_neg q, g.2.1]
    simp only [Option.bind_some]
    rw [e1]
    simp only [Option.bind_some]
    rw [e2]
    simp only [Option.bind_some]
    rw [e3]
    simp only [Option.bind_some]
    simp only [R85, R120, R86, R121]
    generalize bgn f t (amg f t 0 S.1) S = B at *
    by_cases q2 : amg f t 0 S.1 = 1
    · simp only [if_pos q2]
      obtain ⟨h3, e4, R3, F3, c3, p3⟩ := Cx_thn S0 (Cx_thn T3 (Cx_thn S1 (Cx_thn T4 (Cx_thn S2 X)))) h2 B R (by omega) pb
      exact ⟨h3, e4, R3, F.tr F3, fun z => ⟨c3.trans cb, p3 z⟩⟩
    · simp only [if_neg q2]
      by_cases q3 : amg f t 0 S.1 = 2
      · simp only [if_pos q3]
        obtain ⟨h3, e4, R3, F3, c3, p3⟩ := Cx_thn S0 (Cx_thn T4 (Cx_thn S1 X)) h2 B R (by omega) pb
        exact ⟨h3, e4, R3, F.tr F3, fun z => ⟨c3.trans cb, p3 z⟩⟩
      · simp only [if_neg q3]
        obtain ⟨h3, e4, R3, F3, c3, p3⟩ := Cx_122 (f := f) (t := t) (o := o) (a := 399) (i := 0) (by decide) (by decide) h2 B R (by omega) pb
        exact ⟨h3, e4, R3, F.tr F3, fun z => ⟨c3.trans cb, p3 z⟩⟩
/-- a clause by o: 0 laws, else orders -/
def rcl (f : Nat → Int32) (t : Nat) (o : Int32) (S : CSt) : Bool × CSt := if o = 0 then rru f t o S else ror f t o S
/-- all clauses, k more at most: read whole, and the state -/
def rdL (f : Nat → Int32) (t : Nat) (o : Int32) : Nat → CSt → Bool × CSt
  | 0, S => (false, S)
  | k + 1, S => if (rcl f t o S).1 = true then (if (rcl f t o S).2.1.1 = t then (true, (rcl f t o S).2) else if sgp f t 59 (rcl f t o S).2.1 then rdL f t o k (gow f t (rcl f t o S).2.1, (rcl f t o S).2.2) else (false, (rcl f t o S).2)) else (false, (rcl f t o S).2)
def rdI (r : Bool × CSt) : Int32 := if r.1 = true then -1 else nI r.2.1.1
theorem tkd_4 {y : Nat} (h : y ≤ t) : tkd f t y = 4 ↔ y = t := by
  unfold tkd
  by_cases q : t ≤ y
  · rw [if_pos q]; exact ⟨fun _ => by omega, fun _ => rfl⟩
  · rw [if_neg q]
    refine ⟨fun z => ?_, fun z => by omega⟩
    by_cases q1 : 97 ≤ f y ∧ f y ≤ 122
    · rw [if_pos q1] at z; exact absurd z (by decide)
    · rw [if_neg q1] at z
      by_cases q2 : 48 ≤ f y ∧ f y ≤ 57
      · rw [if_pos q2] at z; exact absurd z (by decide)
      · rw [if_neg q2] at z; exact absurd z (by decide)
theorem Tok.gI2 {h : am_H} {y : Nat} (H : Tok h f t y) : gI h 8 1 2 = some (nI (tkd f t y)) ∧ gI h 8 1 3 = some (nI y) := ⟨H.2.2.g2, H.2.2.g3⟩
theorem Reader_read_26_l : ∀ (k i : Nat) (h : am_H) (S : CSt), i + k = 12 → RdC h f t o S → S.2.1 = i → phi t S.1 ≤ 400 → ∃ h2, Reader_read_26 91 o (nI i) h = some (rdI (rdL f t o k S), h2) ∧ RdC h2 f t o (rdL f t o k S).2 ∧ Fr pR h h2
  | 0, i, h, S, hi, H, hc, hp => by
    have ti := tin (show i < 2 ^ 31 by omega)
    have t12 : (12 : Int32).toInt = 12 := by decide
    refine ⟨h, ?_, H, Fr.rf⟩
    rw [Reader_read_26_e, if_pos (tile.mpr (by omega)), H.g.2.2.1]
    simp only [Option.bind_some]
    rw [H.2.1.gI2.2]
    rfl
  | k + 1, i, h, S, hi, H, hc, hp => by
    have ti := tin (show i < 2 ^ 31 by omega)
    have t12 : (12 : Int32).toInt = 12 := by decide
    have E : ∃ h1, Reader_read_26 91 o (nI i) h = Reader_read_47 91 o (nI i) (bI (rcl f t o S).1) h1 ∧ RdC h1 f t o (rcl f t o S).2 ∧ Fr pR h h1 ∧ ((rcl f t o S).1 = true → (rcl f t o S).2.2.1 = S.2.1 + 1 ∧ phi t (rcl f t o S).2.1 ≤ 400) := by
      rw [Reader_read_26_e, if_neg (fun x => by have := tile.mp x; omega)]
      unfold rcl
      by_cases q : o = 0
      · obtain ⟨h1, e1, R1, F1, p1⟩ := Reader_readRule_v (f := f) (t := t) (o := o) h S H (by omega) hp
        rw [if_pos q, if_pos q]
        refine ⟨h1, ?_, R1, F1, p1⟩
        rw [e1]
        rfl
      · obtain ⟨h1, e1, R1, F1, p1⟩ := Reader_readOrder_v (f := f) (t := t) (o := o) h S H (by omega) hp
        rw [if_neg q, if_neg q]
        refine ⟨h1, ?_, R1, F1, p1⟩
        rw [e1]
        rfl
    obtain ⟨h1, e1, R1, F1, p1⟩ := E
    rw [e1]
    unfold rdL
    generalize rcl f t o S = r at *
    have E65 : ∀ h3, RdC h3 f t o r.2 → r.1 = false → Reader_read_65 91 o (nI i) 0 h3 = some (nI r.2.1.1, h3) := fun h3 R3 _ => by
      rw [Reader_read_65_e, if_pos rfl, R3.g.2.2.1]
      simp only [Option.bind_some]
      rw [R3.2.1.gI2.2]
      rfl
    by_cases q : r.1 = true
    · rw [if_pos q]
      obtain ⟨pc, pp⟩ := p1 q
      have eb : bI r.1 = 1 := if_pos q
      rw [eb, Reader_read_47_e, if_neg (by decide), R1.g.2.2.1]
      simp only [Option.bind_some]
      rw [R1.2.1.gI2.1]
      simp only [Option.bind_some]
      by_cases q2 : r.2.1.1 = t
      · rw [if_pos q2, if_pos (by rw [(tkd_4 (f := f) R1.2.1.1).mpr q2]; rfl)]
        exact ⟨h1, rfl, R1, F1⟩
      · have tk : tkd f t r.2.1.1 < 5 := by unfold tkd; split <;> (try split) <;> (try split) <;> omega
        rw [if_neg q2, if_neg (show ¬ nI (tkd f t r.2.1.1) = (4 : Int32) from fun x => q2 ((tkd_4 (f := f) R1.2.1.1).mp ((nI_eq (b := 4) (by omega) (by decide)).mp x)))]
        obtain ⟨h2, e2, R2, F2⟩ := Reader_takeSign_v R1 59
        rw [Reader_read_65_e, if_neg (by decide), e2]
        simp only [Option.bind_some]
        by_cases q3 : sgp f t 59 r.2.1
        · rw [if_pos q3] at R2
          rw [if_pos q3, if_pos q3, if_neg (by decide), nI_p1]
          have pg := (gow_p (f := f) R1.2.1.1).1
          obtain ⟨h3, e3, R3, F3⟩ := Reader_read_26_l k (i + 1) h2 (gow f t r.2.1, r.2.2) (by omega) R2 (by show r.2.2.1 = i + 1; omega) (by show phi t (gow f t r.2.1) ≤ 400; omega)
          exact ⟨h3, e3, R3, F1.tr (F2.tr F3)⟩
        · rw [if_neg q3] at R2
          rw [if_neg q3, if_neg q3, if_pos (by first | rfl | trivial), R2.g.2.2.1]
          simp only [Option.bind_some]
          rw [R2.2.1.gI2.2]
          exact ⟨h2, rfl, R2, F1.tr F2⟩
    · have eb : bI r.1 = 0 := if_neg q
      rw [if_neg q, eb, Reader_read_47_e, if_pos rfl, E65 h1 R1 (by cases hr : r.1 <;> simp_all)]
      exact ⟨h1, rfl, R1, F1⟩
/-- the reader at rest -/
def RdW (h : am_H) (f : Nat → Int32) (t : Nat) : Prop := t ≤ 400 ∧ (∃ o pa, h[91]? = some (.inr (3, rdF o pa))) ∧ (∃ k p x, TapA h f (nI t) k p x) ∧ ∃ N c al cf kf sf tf mf, TxA h 92 N c 512 12 al cf kf sf tf mf
theorem RdA.rest {h : am_H} {S : CSt} (H : RdC h f t o S) : RdW h f t := ⟨H.2.1.2.1, ⟨_, _, H.1⟩, ⟨_, _, _, H.2.1.2.2⟩, ⟨_, _, _, _, _, _, _, _, H.2.2.1⟩⟩
def cs0 (f : Nat → Int32) (t : Nat) (cf kf sf tf mf : Nat → Int32) : CSt := ((skw f t 0, 0, cf, 0, 0), 0, kf, sf, tf, mf)
theorem Reader_read_v {h : am_H} (H : RdW h f t) (ho : o = 0 ∨ o = 1) : ∃ cf kf sf tf mf h2, Reader_read 91 o h = some (rdI (rdL f t o 12 (cs0 f t cf kf sf tf mf)), h2) ∧ RdC h2 f t o (rdL f t o 12 (cs0 f t cf kf sf tf mf)).2 ∧ Fr pR h h2 := by
  obtain ⟨ht, ⟨o0, pa, ho0⟩, ⟨k, p, x, HT⟩, N, c, al, cf, kf, sf, tf, mf, HX⟩ := H
  have e1 : pV h 3 91 2 (.int o) = some (h.set 91 (.inr (3, rdF o pa))) := by unfold pV; rw [ob_of ho0]; rfl
  have F1 : Fr (fun a => a = 91) h (h.set 91 (.inr (3, rdF o pa))) := Fr.set rfl
  have g1 : (h.set 91 (.inr (3, rdF o pa)))[91]? = some (.inr (3, rdF o pa)) := set_at ho0
  have HX1 := HX.fr F1 (fun x h1 h2 z => by have z : x = 91 := z; omega)
  have HT1 : TapA (h.set 91 (.inr (3, rdF o pa))) f (nI t) k p x := ⟨(F1 1 (by decide)).trans HT.1, (F1 2 (by decide)).trans HT.2⟩
  generalize h.set 91 (.inr (3, rdF o pa)) = h1 at *
  have e2 : pV h1 3 91 3 (.int (0 : Int32)) = some (h1.set 91 (.inr (3, rdF o 0))) := by unfold pV; rw [ob_of g1]; rfl
  have F2 : Fr (fun a => a = 91) h1 (h1.set 91 (.inr (3, rdF o 0))) := Fr.set rfl
  have g2 : (h1.set 91 (.inr (3, rdF o 0)))[91]? = some (.inr (3, rdF o 0)) := set_at g1
  have HX2 := HX1.fr F2 (fun x h1 h2 z => by have z : x = 91 := z; omega)
  have HT2 : TapA (h1.set 91 (.inr (3, rdF o 0))) f (nI t) k p x := ⟨(F2 1 (by decide)).trans HT1.1, (F2 2 (by decide)).trans HT1.2⟩
  generalize h1.set 91 (.inr (3, rdF o 0)) = h2 at *
  obtain ⟨h3, e3, HX3, F3⟩ := Text_clear_v HX2
  have N3 : ∀ x, x < 92 → ¬ xP 92 x := fun x hx z => by have := z.1; omega
  have g3 : h3[91]? = some (.inr (3, rdF o 0)) := (F3 91 (N3 _ (by omega))).trans g2
  have HT3 : TapA h3 f (nI t) k p x := ⟨(F3 1 (N3 _ (by omega))).trans HT2.1, (F3 2 (N3 _ (by omega))).trans HT2.2⟩
  obtain ⟨h4, e4, T4, F4⟩ := Tape_rewind_v ht HT3
  have R4 : RdC h4 f t o (cs0 f t cf kf sf tf mf) := ⟨(F4 91 (by decide)).trans g3, T4, HX3.fr F4 (fun x h1 h2 z => by have z : x = 1 := z; omega), Nat.zero_le _, Or.inl rfl⟩
  obtain ⟨h5, e5, R5, F5⟩ := Reader_read_26_l 12 0 h4 (cs0 f t cf kf sf tf mf) rfl R4 rfl (by show 0 + (t - skw f t 0) ≤ 400; omega)
  refine ⟨cf, kf, sf, tf, mf, h5, ?_, R5, (F1.mono (fun x z => Or.inr (by have z : x = 91 := z; omega))).tr ((F2.mono (fun x z => Or.inr (by have z : x = 91 := z; omega))).tr ((F3.mono (fun x z => Or.inr (by have := z.1; have := z.2; omega))).tr ((F4.mono (fun x z => Or.inl z)).tr F5)))⟩
  unfold Reader_read
  rw [if_pos (isO_of ho0), show nrZ o = some o from by rcases ho with rfl | rfl <;> rfl]
  simp only [Option.bind_some]
  rw [e1]
  simp only [Option.bind_some]
  rw [e2]
  simp only [Option.bind_some]
  rw [show gR h2 3 91 0 = some 92 from by unfold gR; rw [ob_of g2]; rfl]
  simp only [Option.bind_some]
  rw [e3]
  simp only [Option.bind_some]
  rw [show gR h3 3 91 1 = some 1 from by unfold gR; rw [ob_of g3]; rfl]
  simp only [Option.bind_some]
  rw [e4]
  exact e5
end ReadC
