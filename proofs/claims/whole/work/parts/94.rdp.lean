/-! PURE: the reader: its world, and what takes one token -/
abbrev rdF (o pa : Int32) : List Value := [.ref 92, .ref 1, .int o, .int pa]
/-- place, codes written, the codes, whether it asks last, parts -/
abbrev PSt : Type := Nat × Nat × (Nat → Int32) × Int32 × Nat
def RdA (h : am_H) (f : Nat → Int32) (t : Nat) (o : Int32) (c : Nat) (kf sf tf mf : Nat → Int32) (s : PSt) : Prop := h[91]? = some (.inr (3, rdF o (nI s.2.2.2.2))) ∧ Tok h f t s.1 ∧ TxA h 92 s.2.1 c 512 12 s.2.2.2.1 s.2.2.1 kf sf tf mf ∧ s.2.2.2.2 ≤ 50 ∧ (s.2.2.2.1 = 0 ∨ s.2.2.2.1 = 1)
/-- the next token -/
def gow (f : Nat → Int32) (t : Nat) (s : PSt) : PSt := (skw f t (tnx f t s.1), s.2)
/-- a code written -/
def emt (s : PSt) (w : Nat) : PSt := (s.1, s.2.1 + 1, upd s.2.2.1 s.2.1 (nI w), s.2.2.2)
abbrev sgp (f : Nat → Int32) (t : Nat) (c : Int32) (s : PSt) : Prop := tkd f t s.1 = 3 ∧ f s.1 = c
abbrev wdp (f : Nat → Int32) (t w : Nat) (s : PSt) : Prop := tkd f t s.1 = 1 ∧ amr f t s.1 (tnx f t s.1 - s.1) (am_byt.getD w []) 0 0 true = 0
abbrev pR : Nat → Prop := fun a => a = 1 ∨ (91 ≤ a ∧ a ≤ 97)
section ReadP
variable {h : am_H} {f : Nat → Int32} {t : Nat} {o : Int32} {c : Nat} {kf sf tf mf : Nat → Int32} {s : PSt}
theorem RdA.g (H : RdA h f t o c kf sf tf mf s) : isO h 3 91 = true ∧ gR h 3 91 0 = some 92 ∧ gR h 3 91 1 = some 1 ∧ gI h 3 91 2 = some o ∧ gI h 3 91 3 = some (nI s.2.2.2.2) := by
  refine ⟨isO_of H.1, ?_, ?_, ?_, ?_⟩
  · unfold gR; rw [ob_of H.1]; rfl
  · unfold gR; rw [ob_of H.1]; rfl
  · unfold gI; rw [ob_of H.1]; rfl
  · unfold gI; rw [ob_of H.1]; rfl
theorem RdA.go (H : RdA h f t o c kf sf tf mf s) : ∃ h2, Tape_go 1 h = some h2 ∧ RdA h2 f t o c kf sf tf mf (gow f t s) ∧ Fr pR h h2 := by
  obtain ⟨a1, a2, a3, a4⟩ := H
  obtain ⟨h2, e, T, F⟩ := Tape_go_v a2
  exact ⟨h2, e, ⟨(F 91 (by decide)).trans a1, T, a3.fr F (fun x h1 _ z => by have z : x = 1 := z; omega), a4⟩, F.mono (fun x z => Or.inl z)⟩
theorem Tok.fr {P : Nat → Prop} {h2 : am_H} {y : Nat} (H : Tok h f t y) (F : Fr P h h2) (h1 : ¬ P 1) (h3 : ¬ P 2) : Tok h2 f t y := ⟨H.1, H.2.1, (F 1 h1).trans H.2.2.1, (F 2 h3).trans H.2.2.2⟩
theorem RdA.add (H : RdA h f t o c kf sf tf mf s) (hn : s.2.1 < 512) {k g : Nat} (ho : k < 16) (hg : k + 16 * g < 2 ^ 31) : ∃ h2, Text_add 92 (nI k) (nI g) h = some (nI s.2.1, h2) ∧ RdA h2 f t o c kf sf tf mf (emt s (k + 16 * g)) ∧ Fr pR h h2 := by
  obtain ⟨a1, a2, a3, a4⟩ := H
  obtain ⟨h2, e, T, F⟩ := Text_add_v a3 hn ho hg
  have N : ∀ a, a < 92 → ¬ xP 92 a := fun a ha z => by have := z.1; omega
  exact ⟨h2, e, ⟨(F 91 (N _ (by omega))).trans a1, a2.fr F (N _ (by omega)) (N _ (by omega)), T, a4⟩, F.mono (fun x z => Or.inr (by have := z.1; have := z.2; omega))⟩
theorem Reader_takeSign_v (H : RdA h f t o c kf sf tf mf s) (k : Int32) : ∃ h2, Reader_takeSign 91 k h = some ((if sgp f t k s then 1 else 0), h2) ∧ RdA h2 f t o c kf sf tf mf (if sgp f t k s then gow f t s else s) ∧ Fr pR h h2 := by
  obtain ⟨g, _, g1, _⟩ := H.g
  unfold Reader_takeSign
  rw [if_pos g, g1]
  simp only [Option.bind_some]
  rw [Tape_isSign_v H.2.1]
  simp only [Option.bind_some]
  by_cases q : sgp f t k s
  · obtain ⟨h2, e, R, F⟩ := H.go
    refine ⟨h2, ?_, by rw [if_pos q]; exact R, F⟩
    rw [if_pos (show tkd f t s.1 = 3 ∧ f s.1 = k from q), if_neg (by decide), e]
    rfl
  · refine ⟨h, ?_, by rw [if_neg q]; exact H, Fr.rf⟩
    rw [if_neg (show ¬ (tkd f t s.1 = 3 ∧ f s.1 = k) from q), if_pos (by first | rfl | trivial)]
theorem Reader_take_v (H : RdA h f t o c kf sf tf mf s) {k : Nat} (hk : k < 11) : ∃ h2, Reader_take 91 k h = some ((if wdp f t k s then 1 else 0), h2) ∧ RdA h2 f t o c kf sf tf mf (if wdp f t k s then gow f t s else s) ∧ Fr pR h h2 := by
  obtain ⟨g, _, g1, _⟩ := H.g
  unfold Reader_take
  rw [if_pos g, g1]
  simp only [Option.bind_some]
  rw [Tape_isWord_v H.2.1 hk]
  simp only [Option.bind_some]
  by_cases q : wdp f t k s
  · obtain ⟨h2, e, R, F⟩ := H.go
    refine ⟨h2, ?_, by rw [if_pos q]; exact R, F⟩
    rw [if_pos (show tkd f t s.1 = 1 ∧ amr f t s.1 (tnx f t s.1 - s.1) (am_byt.getD k []) 0 0 true = 0 from q), if_neg (by decide), e]
    rfl
  · refine ⟨h, ?_, by rw [if_neg q]; exact H, Fr.rf⟩
    rw [if_neg (show ¬ (tkd f t s.1 = 1 ∧ amr f t s.1 (tnx f t s.1 - s.1) (am_byt.getD k []) 0 0 true = 0) from q), if_pos (by first | rfl | trivial)]
def mlq (f : Nat → Int32) (t : Nat) (s : PSt) : Nat := if sgp f t 42 s then 5 else if sgp f t 47 s then 6 else if sgp f t 37 s then 7 else 0
def mlI (k : Nat) : Int32 := if k = 0 then -1 else nI k
theorem Reader_multiplying_v (H : RdA h f t o c kf sf tf mf s) : Reader_multiplying 91 h = some (mlI (mlq f t s)) := by
  obtain ⟨g, _, g1, _⟩ := H.g
  have e : ∀ k, Tape_isSign 1 k h = some (if sgp f t k s then 1 else 0) := fun k => Tape_isSign_v H.2.1 k
  unfold Reader_multiplying mlq
  rw [if_pos g]
  simp only [g1, e, Option.bind_some]
  by_cases q1 : sgp f t 42 s
  · rw [if_pos q1, if_pos q1, if_neg (by decide)]; rfl
  · rw [if_neg q1, if_neg q1, if_pos (by first | rfl | trivial)]
    by_cases q2 : sgp f t 47 s
    · rw [if_pos q2, if_pos q2, if_neg (by decide)]; rfl
    · rw [if_neg q2, if_neg q2, if_pos (by first | rfl | trivial)]
      by_cases q3 : sgp f t 37 s
      · rw [if_pos q3, if_pos q3, if_neg (by decide)]; rfl
      · rw [if_neg q3, if_neg q3, if_pos (by first | rfl | trivial)]; rfl
def cmq (f : Nat → Int32) (t : Nat) (s : PSt) : Nat := if sgp f t 60 s then 8 else if sgp f t 62 s then 9 else if sgp f t 61 s then 10 else 0
theorem Reader_comparison_v (H : RdA h f t o c kf sf tf mf s) : ∃ h2, Reader_comparison 91 h = some (mlI (cmq f t s), h2) ∧ RdA h2 f t o c kf sf tf mf (if cmq f t s = 0 then s else gow f t s) ∧ Fr pR h h2 := by
  obtain ⟨g, _, g1, _⟩ := H.g
  have e : ∀ k, Tape_isSign 1 k h = some (if sgp f t k s then 1 else 0) := fun k => Tape_isSign_v H.2.1 k
  obtain ⟨h2, eg, R, F⟩ := H.go
  have e53 : ∀ k : Int32, ¬ k = -1 → Reader_comparison_53 91 k h = some (k, h2) := fun k hk => by
    unfold Reader_comparison_53
    rw [if_neg hk, g1]
    simp only [Option.bind_some]
    rw [eg]; rfl
  have e50 : Reader_comparison_53 91 (-1) h = some (-1, h) := by unfold Reader_comparison_53; rw [if_pos rfl]
  unfold Reader_comparison cmq
  rw [if_pos g]
  simp only [g1, e, Option.bind_some]
  by_cases q1 : sgp f t 60 s
  · refine ⟨h2, ?_, by rw [if_pos q1, if_neg (by decide)]; exact R, F⟩
    rw [if_pos q1, if_pos q1, if_neg (by decide)]; exact e53 8 (by decide)
  · by_cases q2 : sgp f t 62 s
    · refine ⟨h2, ?_, by rw [if_neg q1, if_pos q2, if_neg (by decide)]; exact R, F⟩
      rw [if_neg q1, if_neg q1, if_pos (by first | rfl | trivial), if_pos q2, if_pos q2, if_neg (by decide)]; exact e53 9 (by decide)
    · by_cases q3 : sgp f t 61 s
      · refine ⟨h2, ?_, by rw [if_neg q1, if_neg q2, if_pos q3, if_neg (by decide)]; exact R, F⟩
        rw [if_neg q1, if_neg q1, if_pos (by first | rfl | trivial), if_neg q2, if_neg q2, if_pos (by first | rfl | trivial), if_pos q3, if_pos q3, if_neg (by decide)]; exact e53 10 (by decide)
      · refine ⟨h, ?_, by rw [if_neg q1, if_neg q2, if_neg q3, if_pos rfl]; exact H, Fr.rf⟩
        rw [if_neg q1, if_neg q1, if_pos (by first | rfl | trivial), if_neg q2, if_neg q2, if_pos (by first | rfl | trivial), if_neg q3, if_neg q3, if_pos (by first | rfl | trivial)]; exact e50
end ReadP
