/-! PURE: the reader reads tests, brackets too -/
def bra (f : Nat → Int32) (t : Nat) (r : Bool × PSt) : Bool × PSt := if r.1 = true then (if sgp f t 41 r.2 then (true, gow f t r.2) else (false, r.2)) else (false, r.2)
def plr (Sm : PSt → Bool × PSt) (op : Bool) (Ts : PSt → Bool × PSt) (f : Nat → Int32) (t : Nat) (z : PSt) : Bool × PSt := if sgp f t 40 z then (if op = true then bra f t (Ts (gow f t z)) else (false, z)) else cmS Sm f t z
def pln (Pr : PSt → Bool × PSt) (f : Nat → Int32) (t : Nat) (s : PSt) : Bool × PSt := nto (ntL f t 400 false s).1 (Pr (ntL f t 400 false s).2)
def smd (f : Nat → Int32) (t : Nat) (o : Int32) (d : Nat) : PSt → Bool × PSt := smm (trm (prs f t o d) f t) f t
/-- a test, d brackets may still open -/
def tss (f : Nat → Int32) (t : Nat) (o : Int32) : Nat → PSt → Bool × PSt
  | 0 => anq 9 12 (anq 8 13 (pln (plr (smd f t o 0) false (fun s => (false, s)) f t) f t) f t) f t
  | d + 1 => anq 9 12 (anq 8 13 (pln (plr (smd f t o (d + 1)) true (tss f t o d) f t) f t) f t) f t
section ReadX
variable {f : Nat → Int32} {t : Nat} {o : Int32} {c : Nat} {kf sf tf mf : Nat → Int32}
theorem Kp_ntL : ∀ (k : Nat) (b : Bool) (s : PSt), kpp s (ntL f t k b s).2
  | 0, _, _ => kpp.rf
  | k + 1, b, s => by
    unfold ntL
    by_cases q : wdp f t 7 s
    · rw [if_pos q]; exact kpp.go.tr (Kp_ntL k _ _)
    · rw [if_neg q]; exact kpp.rf
theorem kpp.nt {s : PSt} {b : Bool} {r : Bool × PSt} (H : kpp s r.2) : kpp s (nto b r).2 := by
  unfold nto
  by_cases q : b = true
  · rw [if_pos q]; exact H.tr kpp.em
  · rw [if_neg q]; exact H
theorem Kp_pln {Pr : PSt → Bool × PSt} (H : Kp Pr) : Kp (pln Pr f t) := fun s => ((Kp_ntL 400 false s).tr (H _)).nt
theorem Kp_cmS {Sm : PSt → Bool × PSt} (H : Kp Sm) : Kp (cmS Sm f t) := by
  intro s
  unfold cmS cmR
  by_cases q : (Sm s).1 = true ∧ ¬ cmq f t (Sm s).2 = 0
  · rw [if_pos q]; exact (H s).tr (kpp.go.tr ((H _).tr kpp.em))
  · rw [if_neg q]; exact (H s).tr kpp.em
theorem Kp_plr {Sm Ts : PSt → Bool × PSt} {op : Bool} (HS : Kp Sm) (HT : Kp Ts) : Kp (plr Sm op Ts f t) := by
  intro s
  unfold plr
  by_cases q : sgp f t 40 s
  · rw [if_pos q]
    by_cases q1 : op = true
    · rw [if_pos q1]
      have K := (kpp.go (f := f) (t := t) (s := s)).tr (HT (gow f t s))
      unfold bra
      by_cases q2 : (Ts (gow f t s)).1 = true
      · rw [if_pos q2]
        by_cases q3 : sgp f t 41 (Ts (gow f t s)).2
        · rw [if_pos q3]; exact K.tr kpp.go
        · rw [if_neg q3]; exact K
      · rw [if_neg q2]; exact K
    · rw [if_neg q1]; exact kpp.rf
  · rw [if_neg q]; exact Kp_cmS HS s
theorem Kp_smd (d : Nat) : Kp (smd f t o d) := Kp_smm (Kp_trm (Kp_prs d))
theorem Kp_tss : ∀ (d : Nat), Kp (tss f t o d)
  | 0 => Kp_anq (Kp_anq (Kp_pln (Kp_plr (Kp_smd 0) (fun _ => kpp.rf))))
  | d + 1 => Kp_anq (Kp_anq (Kp_pln (Kp_plr (Kp_smd (d + 1)) (Kp_tss d))))
theorem Reader_plain_of {dd : Nat} {v : Int32} {Pr : PSt → Bool × PSt} (H46 : ∀ (h : am_H) (z : PSt) (b : Bool), RdA h f t o c kf sf tf mf z → phi t z ≤ 505 → ∃ h2, Reader_plain_46 dd 91 v (bI b) h = some (bI (nto b (Pr z)).1, h2) ∧ RdA h2 f t o c kf sf tf mf (nto b (Pr z)).2 ∧ Fr pR h h2 ∧ phi t (Pr z).2 ≤ phi t z + fl (Pr z).1) : Rt f t o c kf sf tf mf (Reader_plain dd 91 v) (pln Pr f t) := by
  intro h s H hp
  obtain ⟨h1, e1, R1, F1, p1⟩ := Reader_plain_4_l (dd := dd) (v := v) 400 0 h false s rfl H
  have p1' : phi t (ntL f t 400 false s).2 + (if (ntL f t 400 false s).1 = true then 1 else 0) ≤ phi t s := p1
  unfold pln
  generalize ntL f t 400 false s = n at *
  obtain ⟨h2, e2, R2, F2, p2⟩ := H46 h1 n.2 n.1 R1 (by omega)
  refine ⟨h2, ?_, R2, F1.tr F2, ?_⟩
  · rw [Reader_plain_e, if_pos H.g.1]
    exact e1.trans e2
  · unfold nto
    by_cases q : n.1 = true
    · rw [if_pos q] at p1' ⊢
      show phi t (emt (Pr n.2).2 11) ≤ phi t s + fl (Pr n.2).1
      rw [emt_p]; omega
    · rw [if_neg q] at p1' ⊢
      omega
theorem Reader_plain_0 {dd : Nat} : Rt f t o c kf sf tf mf (Reader_plain dd 91 (nI (8 - 0))) (pln (plr (smd f t o 0) false (fun s => (false, s)) f t) f t) := by
  refine Reader_plain_of (fun h z b H hp => ?_)
  unfold plr
  by_cases q : sgp f t 40 z
  · rw [if_pos q, if_neg (by decide)]
    obtain ⟨h2, e2, R2, F2⟩ := Reader_plain_154_v (dd := dd) H (phi_n (t := t) (by omega)) b false
    refine ⟨h2, ?_, R2, F2, Nat.le_succ _⟩
    rw [Reader_plain_46_e, H.g.2.2.1]
    simp only [Option.bind_some]
    rw [Tape_isSign_v H.2.1, if_pos (show tkd f t z.1 = 3 ∧ f z.1 = 40 from q)]
    simp only [Option.bind_some]
    rw [if_neg (by decide), if_pos (by decide), Reader_plain_96_e, Reader_plain_97_e]
    exact e2
  · rw [if_neg q]
    exact Reader_plain_cmp (Reader_sum_v (by decide)) H hp q b
theorem Reader_plain_more {dd d : Nat} (hd : d + 1 ≤ 8) {Ts : PSt → Bool × PSt} (HT : Rt f t o c kf sf tf mf (Reader_test dd 91 (nI (8 - d))) Ts) : Rt f t o c kf sf tf mf (Reader_plain (dd + 1) 91 (nI (8 - (d + 1)))) (pln (plr (smd f t o (d + 1)) true Ts f t) f t) := by
  refine Reader_plain_of (fun h z b H hp => ?_)
  unfold plr
  by_cases q : sgp f t 40 z
  · rw [if_pos q, if_pos rfl]
    have t8 : (8 : Int32).toInt = 8 := by decide
    have tv := tin (show 8 - (d + 1) < 2 ^ 31 by omega)
    obtain ⟨h1, e1, R1, F1⟩ := Reader_takeSign_v H 40
    rw [if_pos q] at e1 R1
    have p1 := (gow_p (f := f) H.2.1.1).1
    obtain ⟨h2, e2, R2, F2, p2⟩ := HT h1 _ R1 (by omega)
    generalize Ts (gow f t z) = y at *
    obtain ⟨h3, e3, R3, F3⟩ := Reader_takeSign_v R2 41
    have fy : fl y.1 ≤ 1 := by unfold fl; split <;> omega
    rw [Reader_plain_46_e, H.g.2.2.1]
    simp only [Option.bind_some]
    rw [Tape_isSign_v H.2.1, if_pos (show tkd f t z.1 = 3 ∧ f z.1 = 40 from q)]
    simp only [Option.bind_some]
    rw [if_neg (by decide), if_neg (fun x => by have := tile.mp x; omega), e1]
    simp only [Option.bind_some]
    rw [if_neg (by decide), if_pos (Nat.succ_pos dd), nI_p1, show 8 - (d + 1) + 1 = 8 - d by omega, show dd + 1 - 1 = dd from rfl, e2]
    simp only [Option.bind_some]
    unfold bra
    by_cases q1 : y.1 = true
    · have f0 : fl y.1 = 0 := if_pos q1
      rw [if_neg (fun x => bI_0.mp x q1), if_pos q1, e3]
      simp only [Option.bind_some]
      by_cases q2 : sgp f t 41 y.2
      · rw [if_pos q2] at R3
        rw [if_pos q2, if_pos q2, if_neg (by decide), Reader_plain_97_e]
        have p3 := (gow_p (f := f) R2.2.1.1).1
        obtain ⟨h4, e4, R4, F4⟩ := Reader_plain_154_v (dd := dd + 1) R3 (phi_n (t := t) (by omega)) b true
        exact ⟨h4, e4, R4, F1.tr (F2.tr (F3.tr F4)), by show phi t (gow f t y.2) ≤ phi t z + 0; omega⟩
      · rw [if_neg q2] at R3
        rw [if_neg q2, if_neg q2, if_pos (by first | rfl | trivial), Reader_plain_96_e, Reader_plain_97_e]
        obtain ⟨h4, e4, R4, F4⟩ := Reader_plain_154_v (dd := dd + 1) R3 (phi_n (t := t) (by omega)) b false
        exact ⟨h4, e4, R4, F1.tr (F2.tr (F3.tr F4)), by show phi t y.2 ≤ phi t z + 1; omega⟩
    · rw [if_pos (bI_0.mpr q1), if_neg q1, Reader_plain_96_e, Reader_plain_97_e]
      obtain ⟨h4, e4, R4, F4⟩ := Reader_plain_154_v (dd := dd + 1) R2 (phi_n (t := t) (by omega)) b false
      exact ⟨h4, e4, R4, F1.tr (F2.tr F4), by show phi t y.2 ≤ phi t z + 1; omega⟩
  · rw [if_neg q]
    exact Reader_plain_cmp (Reader_sum_v hd) H hp q b
theorem Reader_test_v : ∀ (d : Nat), d ≤ 8 → ∀ dd, 3 * d + 2 ≤ dd → Rt f t o c kf sf tf mf (Reader_test dd 91 (nI (8 - d))) (tss f t o d)
  | 0, _, dd, hdd => by
    obtain ⟨e, rfl⟩ : ∃ e, dd = e + 1 + 1 := ⟨dd - 2, by omega⟩
    have K : Kp (pln (plr (smd f t o 0) false (fun s => (false, s)) f t) f t) := Kp_pln (Kp_plr (Kp_smd 0) (fun _ => kpp.rf))
    exact Reader_test_of (Reader_both_of Reader_plain_0 K) (Kp_anq K)
  | d + 1, hd, dd, hdd => by
    obtain ⟨e, rfl⟩ : ∃ e, dd = e + 1 + 1 + 1 := ⟨dd - 3, by omega⟩
    have K : Kp (pln (plr (smd f t o (d + 1)) true (tss f t o d) f t) f t) := Kp_pln (Kp_plr (Kp_smd (d + 1)) (Kp_tss d))
    exact Reader_test_of (Reader_both_of (Reader_plain_more hd (Reader_test_v d (by omega) e (by omega))) K) (Kp_anq K)
end ReadX
