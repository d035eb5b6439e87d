/-! PURE: the reader: numbers and words -/
theorem nbv_le {f : Nat → Int32} : ∀ (k i a : Nat), a ≤ 1001 → nbv f k i a ≤ 1001
  | 0, _, _, h => h
  | k + 1, i, _, _ => nbv_le k (i + 1) _ (Nat.min_le_right _ _)
def nmv (f : Nat → Int32) (t : Nat) (s : PSt) : Nat := nbv f (tnx f t s.1 - s.1) s.1 0
theorem nmv_le {f : Nat → Int32} {t : Nat} {s : PSt} : nmv f t s ≤ 1001 := nbv_le _ _ _ (by decide)
/-- which of the words: 0 is none, k + 1 the k-th -/
theorem amr_v {f : Nat → Int32} {t y n : Nat} : ∀ (r : List Int32) (wh cn : Nat) (al : Bool), amr f t y n r wh cn al = -1 ∨ ∃ k, k ≤ wh + r.length ∧ amr f t y n r wh cn al = nI k
  | [], wh, cn, al => by
    unfold amr
    by_cases q : al = true ∧ cn = n
    · rw [if_pos q]; exact Or.inr ⟨wh, Nat.le_refl _, rfl⟩
    · rw [if_neg q]; exact Or.inl rfl
  | c :: r, wh, cn, al => by
    unfold amr
    by_cases q : c = 32
    · rw [if_pos q]
      by_cases q2 : al = true ∧ cn = n
      · rw [if_pos q2]; exact Or.inr ⟨wh, by omega, rfl⟩
      · rw [if_neg q2]
        rcases amr_v r (wh + 1) 0 true with z | ⟨k, hk, z⟩
        · exact Or.inl z
        · exact Or.inr ⟨k, by rw [List.length_cons]; omega, z⟩
    · rw [if_neg q]
      rcases amr_v r wh (cn + 1) (al && decide (cn < n) && decide (y + cn < t) && decide (f (y + cn) = c)) with z | ⟨k, hk, z⟩
      · exact Or.inl z
      · exact Or.inr ⟨k, by rw [List.length_cons]; omega, z⟩
def amg (f : Nat → Int32) (t w : Nat) (s : PSt) : Int32 := if tkd f t s.1 = 1 then amr f t s.1 (tnx f t s.1 - s.1) (am_byt.getD w []) 0 0 true else -1
theorem amg_v {f : Nat → Int32} {t w : Nat} {s : PSt} (hw : w < 11) : amg f t w s = -1 ∨ ∃ k, k < 50 ∧ amg f t w s = nI k := by
  unfold amg
  by_cases q : tkd f t s.1 = 1
  · rw [if_pos q]
    rcases amr_v (f := f) (t := t) (y := s.1) (n := tnx f t s.1 - s.1) (am_byt.getD w []) 0 0 true with z | ⟨k, hk, z⟩
    · exact Or.inl z
    · refine Or.inr ⟨k, ?_, z⟩
      obtain ⟨h1, h2⟩ := str_len w hw
      rw [h1] at hk; omega
  · rw [if_neg q]; exact Or.inl rfl
section ReadQ
variable {h : am_H} {f : Nat → Int32} {t : Nat} {o : Int32} {c : Nat} {kf sf tf mf : Nat → Int32} {s : PSt}
theorem Reader_number_v (H : RdA h f t o c kf sf tf mf s) (hn : s.2.1 < 512) (q : tkd f t s.1 = 2) : ∃ h2, Reader_number 91 h = some ((if nmv f t s ≤ 1000 then 1 else 0), h2) ∧ RdA h2 f t o c kf sf tf mf (if nmv f t s ≤ 1000 then gow f t (emt s (1 + 16 * nmv f t s)) else s) ∧ Fr pR h h2 := by
  obtain ⟨g, g0, g1, _⟩ := H.g
  have hv : nmv f t s ≤ 1001 := nmv_le
  have e : Tape_number 1 h = some (nI (nmv f t s)) := by rw [Tape_number_v H.2.1, if_pos q]; rfl
  have tv := tin (show nmv f t s < 2 ^ 31 by omega)
  have t1 : (1000 : Int32).toInt = 1000 := by decide
  unfold Reader_number
  rw [if_pos g, g1]
  simp only [Option.bind_some]
  rw [e]
  simp only [Option.bind_some]
  rw [if_neg (fun z => by have := tilt.mp z; rw [tv, ti0] at this; omega)]
  by_cases q2 : nmv f t s ≤ 1000
  · rw [if_pos (tile.mpr (by omega)), g0, if_pos q2, if_pos q2]
    simp only [Option.bind_some]
    obtain ⟨h2, e2, R2, F2⟩ := H.add hn (k := 1) (g := nmv f t s) (by decide) (by omega)
    obtain ⟨h3, e3, R3, F3⟩ := R2.go
    refine ⟨h3, ?_, R3, F2.tr F3⟩
    rw [show Text_add 92 (1 : Int32) (nI (nmv f t s)) h = some (nI s.2.1, h2) from e2]
    simp only [Option.bind_some]
    rw [R2.g.2.2.1]
    simp only [Option.bind_some]
    rw [e3]
    rfl
  · rw [if_neg (fun z => by have := tile.mp z; omega), if_neg q2, if_neg q2]
    exact ⟨h, rfl, H, Fr.rf⟩
def alt (s : PSt) (k : Nat) : PSt := (s.1, s.2.1, s.2.2.1, (if ¬ s.2.2.2.1 = 0 ∨ k = 5 then 1 else 0), s.2.2.2.2)
theorem Reader_lawWord_no (H : RdA h f t o c kf sf tf mf s) (q : amg f t 2 s = -1) : Reader_lawWord 91 h = some (0, h) := by
  obtain ⟨g, g0, g1, _⟩ := H.g
  unfold Reader_lawWord
  rw [if_pos g, g1]
  simp only [Option.bind_some]
  rw [show Tape_among 1 2 h = some (amg f t 2 s) from Tape_among_v H.2.1 (by decide), q]
  simp only [Option.bind_some]
  rw [if_pos (by first | rfl | trivial)]
theorem Reader_lawWord_v (H : RdA h f t o c kf sf tf mf s) (hn : s.2.1 < 512) {k : Nat} (hk : k < 50) (q : amg f t 2 s = nI k) : ∃ h2, Reader_lawWord 91 h = some (1, h2) ∧ RdA h2 f t o c kf sf tf mf (gow f t (alt (emt s (2 + 16 * k)) k)) ∧ Fr pR h h2 := by
  obtain ⟨g, g0, g1, _⟩ := H.g
  have tk := tin (show k < 2 ^ 31 by omega)
  obtain ⟨h2, e2, R2, F2⟩ := H.add hn (k := 2) (g := k) (by decide) (by omega)
  have hk1 : ¬ nI k = (-1 : Int32) := fun z => by have := congrArg Int32.toInt z; rw [tk, tim1] at this; omega
  have ea : gI h2 9 92 8 = some s.2.2.2.1 := by unfold gI; rw [ob_of R2.2.2.1.2.2.2.2.2.1]; rfl
  have e51 : ∀ y : Int32, y = 0 ∨ y = 1 → ∃ h3, Reader_lawWord_51 91 y 92 h2 = some (1, h3) ∧ RdA h3 f t o c kf sf tf mf (gow f t (s.1, s.2.1 + 1, upd s.2.2.1 s.2.1 (nI (2 + 16 * k)), y, s.2.2.2.2)) ∧ Fr pR h h3 := fun y hy => by
    have ep : pV h2 9 92 8 (.int y) = some (h2.set 92 (.inr (9, texF 92 (nI (s.2.1 + 1)) (nI c) y))) := by unfold pV; rw [ob_of R2.2.2.1.2.2.2.2.2.1]; rfl
    have F3 : Fr (fun a => a = 92) h2 (h2.set 92 (.inr (9, texF 92 (nI (s.2.1 + 1)) (nI c) y))) := Fr.set rfl
    have R3 : RdA (h2.set 92 (.inr (9, texF 92 (nI (s.2.1 + 1)) (nI c) y))) f t o c kf sf tf mf (s.1, s.2.1 + 1, upd s.2.2.1 s.2.1 (nI (2 + 16 * k)), y, s.2.2.2.2) := ⟨(F3 91 (by decide)).trans R2.1, R2.2.1.fr F3 (by decide) (by decide), (R2.2.2.1.setO (n2 := s.2.1 + 1) (c2 := c) (al2 := y) R2.2.2.1.1 R2.2.2.1.2.1).1, R2.2.2.2.1, hy⟩
    obtain ⟨h4, e4, R4, F4⟩ := R3.go
    refine ⟨h4, ?_, R4, F2.tr ((F3.mono (fun x z => Or.inr (by have z : x = 92 := z; omega))).tr F4)⟩
    unfold Reader_lawWord_51
    rw [show nrZ y = some y from if_pos hy]
    simp only [Option.bind_some]
    rw [ep]
    simp only [Option.bind_some]
    rw [R3.g.2.2.1]
    simp only [Option.bind_some]
    rw [e4]
    rfl
  unfold Reader_lawWord
  rw [if_pos g, g1]
  simp only [Option.bind_some]
  rw [show Tape_among 1 2 h = some (amg f t 2 s) from Tape_among_v H.2.1 (by decide), q]
  simp only [Option.bind_some]
  rw [if_neg hk1, g0]
  simp only [Option.bind_some]
  rw [show Text_add 92 (2 : Int32) (nI k) h = some (nI s.2.1, h2) from e2]
  simp only [Option.bind_some]
  rw [R2.g.2.1]
  simp only [Option.bind_some]
  rw [ea]
  simp only [Option.bind_some]
  unfold alt emt
  by_cases q1 : s.2.2.2.1 = 0
  · rw [if_pos q1]
    by_cases q2 : k = 5
    · rw [if_pos (show nI k = (5 : Int32) from congrArg nI q2), if_pos (Or.inr q2)]
      exact e51 1 (Or.inr rfl)
    · rw [if_neg (show ¬ nI k = (5 : Int32) from nIne (b := 5) (by omega) (by decide) q2), if_neg (fun z => z.elim (fun z => z q1) q2)]
      exact e51 0 (Or.inl rfl)
  · rw [if_neg q1, if_pos (Or.inl q1)]
    exact e51 1 (Or.inr rfl)
end ReadQ
