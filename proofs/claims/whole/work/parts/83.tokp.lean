/-! PURE: the tape's tokens -/
def skp (f : Nat → Int32) (t : Nat) : Nat → Nat → Nat
  | 0, x => x
  | k + 1, x => if x < t ∧ f x = 32 then skp f t k (x + 1) else x
def rnw (f : Nat → Int32) (t : Nat) (lo hi : Int32) : Nat → Nat → Nat
  | 0, x => x
  | k + 1, x => if x < t ∧ lo ≤ f x ∧ f x ≤ hi then rnw f t lo hi k (x + 1) else x
def skw (f : Nat → Int32) (t x : Nat) : Nat := skp f t (t - x) x
def tkd (f : Nat → Int32) (t x : Nat) : Nat := if t ≤ x then 4 else if 97 ≤ f x ∧ f x ≤ 122 then 1 else if 48 ≤ f x ∧ f x ≤ 57 then 2 else 3
def tnx (f : Nat → Int32) (t x : Nat) : Nat := if t ≤ x then x else if 97 ≤ f x ∧ f x ≤ 122 then rnw f t 97 122 (t - (x + 1)) (x + 1) else if 48 ≤ f x ∧ f x ≤ 57 then rnw f t 48 57 (t - (x + 1)) (x + 1) else x + 1
theorem skp_le {f : Nat → Int32} {t : Nat} : ∀ (k x : Nat), x + k ≤ t → x ≤ skp f t k x ∧ skp f t k x ≤ t
  | 0, x, h => ⟨Nat.le_refl _, h⟩
  | k + 1, x, h => by
    have := skp_le (f := f) (t := t) k (x + 1) (by omega)
    unfold skp
    split
    · omega
    · omega
theorem rnw_le {f : Nat → Int32} {t : Nat} {lo hi : Int32} : ∀ (k x : Nat), x + k ≤ t → x ≤ rnw f t lo hi k x ∧ rnw f t lo hi k x ≤ t
  | 0, x, h => ⟨Nat.le_refl _, h⟩
  | k + 1, x, h => by
    have := rnw_le (f := f) (t := t) (lo := lo) (hi := hi) k (x + 1) (by omega)
    unfold rnw
    split
    · omega
    · omega
section Tok
variable {h : am_H} {f : Nat → Int32} {t : Nat} {k p x : Int32}
theorem TapA.g0 (H : TapA h f (nI t) k p x) : gR h 8 1 0 = some 2 := by unfold gR; rw [ob_of H.1]; rfl
theorem TapA.g1 (H : TapA h f (nI t) k p x) : gI h 8 1 1 = some (nI t) := by unfold gI; rw [ob_of H.1]; rfl
theorem TapA.g2 (H : TapA h f (nI t) k p x) : gI h 8 1 2 = some k := by unfold gI; rw [ob_of H.1]; rfl
theorem TapA.g3 (H : TapA h f (nI t) k p x) : gI h 8 1 3 = some p := by unfold gI; rw [ob_of H.1]; rfl
theorem TapA.g4 (H : TapA h f (nI t) k p x) : gI h 8 1 4 = some x := by unfold gI; rw [ob_of H.1]; rfl
theorem TapA.set (H : TapA h f (nI t) k p x) (k2 p2 x2 : Int32) : TapA (h.set 1 (.inr (8, tapF (nI t) k2 p2 x2))) f (nI t) k2 p2 x2 := ⟨set_at H.1, by rw [List.getElem?_set_ne (by decide)]; exact H.2⟩
theorem TapA.p2 (H : TapA h f (nI t) k p x) (y : Int32) : ∃ h2, pV h 8 1 2 (.int y) = some h2 ∧ TapA h2 f (nI t) y p x ∧ Fr (fun a => a = 1) h h2 := ⟨_, by unfold pV; rw [ob_of H.1]; rfl, H.set y p x, Fr.set rfl⟩
theorem TapA.p3 (H : TapA h f (nI t) k p x) (y : Int32) : ∃ h2, pV h 8 1 3 (.int y) = some h2 ∧ TapA h2 f (nI t) k y x ∧ Fr (fun a => a = 1) h h2 := ⟨_, by unfold pV; rw [ob_of H.1]; rfl, H.set k y x, Fr.set rfl⟩
theorem TapA.p4 (H : TapA h f (nI t) k p x) (y : Int32) : ∃ h2, pV h 8 1 4 (.int y) = some h2 ∧ TapA h2 f (nI t) k p y ∧ Fr (fun a => a = 1) h h2 := ⟨_, by unfold pV; rw [ob_of H.1]; rfl, H.set k p y, Fr.set rfl⟩
theorem TapA.by (H : TapA h f (nI t) k p x) {i : Nat} (hi : i < 400) : aI h 1 2 (nI i) = some (f i) := aI_at H.2 hi (by decide)
theorem Tape_go_174_l (ht : t ≤ 400) {lo hi : Int32} {kn : Nat} (hk : kn = 1 ∨ kn = 2) : ∀ (m y : Nat) (h : am_H), y + m = t → TapA h f (nI t) (nI kn) p (nI y) → ∃ h2, Tape_go_174 1 lo hi h = some h2 ∧ TapA h2 f (nI t) (nI kn) p (nI (rnw f t lo hi m y)) ∧ Fr (fun a => a = 1) h h2 := by
  have tt := tin (show t < 2 ^ 31 by omega)
  have hk3 : ¬ nI kn = (3 : Int32) := by rcases hk with rfl | rfl <;> decide
  intro m
  induction m with
  | zero =>
    intro y h hy H
    have ty := tin (show y < 2 ^ 31 by omega)
    refine ⟨h, ?_, H, Fr.rf⟩
    rw [Tape_go_174_e, H.g2, H.g4, H.g1]
    simp only [Option.bind_some]
    rw [if_neg hk3, if_pos (tile.mpr (by omega))]
  | succ m ih =>
    intro y h hy H
    have ty := tin (show y < 2 ^ 31 by omega)
    rw [Tape_go_174_e, H.g2, H.g4, H.g1, H.g0]
    simp only [Option.bind_some]
    rw [if_neg hk3, if_neg (fun z => by have := tile.mp z; omega), H.by (by omega)]
    simp only [Option.bind_some]
    by_cases q1 : f y < lo
    · rw [if_pos q1]
      refine ⟨h, rfl, ?_, Fr.rf⟩
      rw [show rnw f t lo hi (m + 1) y = y from if_neg (fun z => by have := tile.mp z.2.1; have := tilt.mp q1; omega)]; exact H
    · rw [if_neg q1]
      by_cases q2 : hi < f y
      · rw [if_pos q2]
        refine ⟨h, rfl, ?_, Fr.rf⟩
        rw [show rnw f t lo hi (m + 1) y = y from if_neg (fun z => by have := tile.mp z.2.2; have := tilt.mp q2; omega)]; exact H
      · rw [if_neg q2]
        obtain ⟨h1, e1, H1, F1⟩ := H.p4 (nI y + (1 : Int32))
        rw [e1]
        simp only [Option.bind_some]
        rw [nI_p1] at H1
        obtain ⟨h2, e2, H2, F2⟩ := ih (y + 1) h1 (by omega) H1
        refine ⟨h2, e2, ?_, F1.tr F2⟩
        rw [show rnw f t lo hi (m + 1) y = rnw f t lo hi m (y + 1) from if_pos ⟨by omega, tile.mpr (by have := mt tilt.mpr q1; omega), tile.mpr (by have := mt tilt.mpr q2; omega)⟩]
        exact H2
theorem Tape_go_46_v (ht : t ≤ 400) {y : Nat} (hy : y ≤ t) (H : TapA h f (nI t) k (nI y) x) : ∃ h2, Tape_go_46 1 h = some h2 ∧ TapA h2 f (nI t) (nI (tkd f t y)) (nI y) (nI (tnx f t y)) ∧ Fr (fun a => a = 1) h h2 := by
  have tt := tin (show t < 2 ^ 31 by omega)
  have ty := tin (show y < 2 ^ 31 by omega)
  unfold Tape_go_46
  rw [H.g3, H.g1]
  simp only [Option.bind_some]
  by_cases q : t ≤ y
  · rw [if_neg (fun z => by have := tilt.mp z; omega)]
    obtain ⟨h1, e1, H1, F1⟩ := H.p2 4
    rw [e1]
    simp only [Option.bind_some]
    rw [H1.g3]
    simp only [Option.bind_some]
    obtain ⟨h2, e2, H2, F2⟩ := H1.p4 (nI y)
    rw [e2]
    refine ⟨h2, rfl, ?_, F1.tr F2⟩
    rw [show tkd f t y = 4 from if_pos q, show tnx f t y = y from if_pos q]
    exact H2
  · rw [if_pos (tilt.mpr (by omega)), H.g0]
    simp only [Option.bind_some]
    rw [H.by (by omega)]
    simp only [Option.bind_some]
    -- the three kinds
    have fin : ∀ (kn : Nat) (lo hi : Int32), kn = 1 ∨ kn = 2 → ∀ h1, TapA h1 f (nI t) (nI kn) (nI y) x → ∃ h2, Tape_go_162 1 lo hi h1 = some h2 ∧ TapA h2 f (nI t) (nI kn) (nI y) (nI (rnw f t lo hi (t - (y + 1)) (y + 1))) ∧ Fr (fun a => a = 1) h1 h2 := fun kn lo hi hk h1 H1 => by
      unfold Tape_go_162
      rw [H1.g3]
      simp only [Option.bind_some]
      obtain ⟨h2, e2, H2, F2⟩ := H1.p4 (nI y + (1 : Int32))
      rw [e2]
      simp only [Option.bind_some]
      rw [nI_p1] at H2
      obtain ⟨h3, e3, H3, F3⟩ := Tape_go_174_l ht hk (t - (y + 1)) (y + 1) h2 (by omega) H2
      exact ⟨h3, e3, H3, F2.tr F3⟩
    have fin3 : ∀ (lo hi : Int32), ∀ h1, TapA h1 f (nI t) 3 (nI y) x → ∃ h2, Tape_go_162 1 lo hi h1 = some h2 ∧ TapA h2 f (nI t) 3 (nI y) (nI (y + 1)) ∧ Fr (fun a => a = 1) h1 h2 := fun lo hi h1 H1 => by
      unfold Tape_go_162
      rw [H1.g3]
      simp only [Option.bind_some]
      obtain ⟨h2, e2, H2, F2⟩ := H1.p4 (nI y + (1 : Int32))
      rw [e2]
      simp only [Option.bind_some]
      rw [nI_p1] at H2
      refine ⟨h2, ?_, H2, F2⟩
      rw [Tape_go_174_e, H2.g2]
      simp only [Option.bind_some]
      rw [if_pos trivial]
    by_cases l1 : 97 ≤ f y ∧ f y ≤ 122
    · rw [if_neg (fun z => by have := tilt.mp z; have := tile.mp l1.1; omega), if_neg (fun z => by have := tilt.mp z; have := tile.mp l1.2; omega)]
      obtain ⟨h1, e1, H1, F1⟩ := H.p2 1
      obtain ⟨h2, e2, H2, F2⟩ := fin 1 97 122 (Or.inl rfl) h1 H1
      have go135 : ∀ z, Tape_go_116 1 (1 : Int32) z h = Tape_go_162 1 97 122 h1 := fun z => by
        unfold Tape_go_116 Tape_go_135 Tape_go_149
        rw [if_neg (by decide), e1]
        simp only [Option.bind_some]
        rw [if_neg (by decide), if_neg (by decide)]
      refine ⟨h2, ?_, ?_, F1.tr F2⟩
      · unfold Tape_go_98 Tape_go_115
        rw [go135, go135]
        split
        · exact e2
        · split <;> exact e2
      · rw [show tkd f t y = 1 from (if_neg q).trans (if_pos l1), show tnx f t y = _ from (if_neg q).trans (if_pos l1)]
        exact H2
    · have e97 : (if f y < (97 : Int32) then Tape_go_97 1 (f y) h else if (122 : Int32) < f y then Tape_go_97 1 (f y) h else Tape_go_98 1 (f y) (1 : Int32) h) = Tape_go_98 1 (f y) (0 : Int32) h := by
        by_cases a1 : f y < 97
        · rw [if_pos a1]; rfl
        · rw [if_neg a1]
          by_cases a2 : 122 < f y
          · rw [if_pos a2]; rfl
          · exact absurd ⟨tile.mpr (by have := mt tilt.mpr a1; omega), tile.mpr (by have := mt tilt.mpr a2; omega)⟩ l1
      rw [e97]
      by_cases l2 : 48 ≤ f y ∧ f y ≤ 57
      · obtain ⟨h1, e1, H1, F1⟩ := H.p2 2
        obtain ⟨h2, e2, H2, F2⟩ := fin 2 48 57 (Or.inr rfl) h1 H1
        refine ⟨h2, ?_, ?_, F1.tr F2⟩
        · unfold Tape_go_98
          rw [if_neg (fun z => by have := tilt.mp z; have := tile.mp l2.1; omega), if_neg (fun z => by have := tilt.mp z; have := tile.mp l2.2; omega)]
          unfold Tape_go_116 Tape_go_135 Tape_go_149
          rw [if_pos rfl, if_neg (by decide), e1]
          simp only [Option.bind_some]
          rw [if_pos trivial, if_pos trivial]
          exact e2
        · rw [show tkd f t y = 2 from (if_neg q).trans ((if_neg l1).trans (if_pos l2)), show tnx f t y = _ from (if_neg q).trans ((if_neg l1).trans (if_pos l2))]
          exact H2
      · obtain ⟨h1, e1, H1, F1⟩ := H.p2 3
        obtain ⟨h2, e2, H2, F2⟩ := fin3 48 57 h1 H1
        have go0 : Tape_go_116 1 (0 : Int32) (0 : Int32) h = some h2 := by
          unfold Tape_go_116 Tape_go_135 Tape_go_149
          rw [if_pos rfl, if_pos rfl, e1]
          simp only [Option.bind_some]
          rw [if_pos trivial, if_pos trivial]
          exact e2
        refine ⟨h2, ?_, ?_, F1.tr F2⟩
        · unfold Tape_go_98 Tape_go_115
          by_cases a1 : f y < 48
          · rw [if_pos a1]; exact go0
          · rw [if_neg a1]
            by_cases a2 : 57 < f y
            · rw [if_pos a2]; exact go0
            · exact absurd ⟨tile.mpr (by have := mt tilt.mpr a1; omega), tile.mpr (by have := mt tilt.mpr a2; omega)⟩ l2
        · rw [show tkd f t y = 3 from (if_neg q).trans ((if_neg l1).trans (if_neg l2)), show tnx f t y = y + 1 from (if_neg q).trans ((if_neg l1).trans (if_neg l2))]
          exact H2
theorem Tape_go_8_l (ht : t ≤ 400) : ∀ (m y : Nat) (h : am_H), y + m = t → TapA h f (nI t) k (nI y) x → ∃ h2, Tape_go_8 1 h = some h2 ∧ TapA h2 f (nI t) (nI (tkd f t (skp f t m y))) (nI (skp f t m y)) (nI (tnx f t (skp f t m y))) ∧ Fr (fun a => a = 1) h h2 := by
  have tt := tin (show t < 2 ^ 31 by omega)
  intro m
  induction m with
  | zero =>
    intro y h hy H
    have ty := tin (show y < 2 ^ 31 by omega)
    rw [Tape_go_8_e, H.g3, H.g1]
    simp only [Option.bind_some]
    rw [if_pos (tile.mpr (by omega))]
    exact Tape_go_46_v (y := y) ht (by omega) H
  | succ m ih =>
    intro y h hy H
    have ty := tin (show y < 2 ^ 31 by omega)
    rw [Tape_go_8_e, H.g3, H.g1, H.g0]
    simp only [Option.bind_some]
    rw [if_neg (fun z => by have := tile.mp z; omega), H.by (by omega)]
    simp only [Option.bind_some]
    by_cases q : f y = 32
    · rw [if_pos q]
      obtain ⟨h1, e1, H1, F1⟩ := H.p3 (nI y + (1 : Int32))
      rw [e1]
      simp only [Option.bind_some]
      rw [nI_p1] at H1
      obtain ⟨h2, e2, H2, F2⟩ := ih (y + 1) h1 (by omega) H1
      refine ⟨h2, e2, ?_, F1.tr F2⟩
      rw [show skp f t (m + 1) y = skp f t m (y + 1) from if_pos ⟨by omega, q⟩]
      exact H2
    · rw [if_neg q, show skp f t (m + 1) y = y from if_neg (fun z => q z.2)]
      exact Tape_go_46_v (y := y) ht (by omega) H
/-- the token at place y is the tape's -/
def Tok (h : am_H) (f : Nat → Int32) (t y : Nat) : Prop := y ≤ t ∧ t ≤ 400 ∧ TapA h f (nI t) (nI (tkd f t y)) (nI y) (nI (tnx f t y))
theorem tnx_le {y : Nat} (hy : y ≤ t) : tnx f t y ≤ t ∧ (y < t → y < tnx f t y) := by
  unfold tnx
  split
  · omega
  · split
    · have := rnw_le (f := f) (t := t) (lo := 97) (hi := 122) (t - (y + 1)) (y + 1) (by omega); omega
    · split
      · have := rnw_le (f := f) (t := t) (lo := 48) (hi := 57) (t - (y + 1)) (y + 1) (by omega); omega
      · omega
theorem Tape_go_v {y : Nat} (H : Tok h f t y) : ∃ h2, Tape_go 1 h = some h2 ∧ Tok h2 f t (skw f t (tnx f t y)) ∧ Fr (fun a => a = 1) h h2 := by
  obtain ⟨hy, ht, H⟩ := H
  have hx := (tnx_le (f := f) hy).1
  obtain ⟨h1, e1, H1, F1⟩ := H.p3 (nI (tnx f t y))
  obtain ⟨h2, e2, H2, F2⟩ := Tape_go_8_l ht (t - tnx f t y) (tnx f t y) h1 (by omega) H1
  have hs := skp_le (f := f) (t := t) (t - tnx f t y) (tnx f t y) (by omega)
  refine ⟨h2, ?_, ⟨hs.2, ht, H2⟩, F1.tr F2⟩
  unfold Tape_go
  rw [if_pos (isO_of H.1), H.g4]
  simp only [Option.bind_some]
  rw [e1]
  exact e2
theorem Tape_rewind_v (ht : t ≤ 400) (H : TapA h f (nI t) k p x) : ∃ h2, Tape_rewind 1 h = some h2 ∧ Tok h2 f t (skw f t 0) ∧ Fr (fun a => a = 1) h h2 := by
  obtain ⟨h0, e0, H0, F0⟩ := H.p4 0
  obtain ⟨h1, e1, H1, F1⟩ := H0.p3 0
  obtain ⟨h2, e2, H2, F2⟩ := Tape_go_8_l ht t 0 h1 (by omega) H1
  have hs := skp_le (f := f) (t := t) t 0 (by omega)
  refine ⟨h2, ?_, ⟨hs.2, ht, H2⟩, (F0.tr F1).tr F2⟩
  unfold Tape_rewind
  rw [if_pos (isO_of H.1), e0]
  simp only [Option.bind_some]
  unfold Tape_go
  rw [if_pos (isO_of H0.1), H0.g4]
  simp only [Option.bind_some]
  rw [e1]
  simp only [Option.bind_some]
  rw [e2]
  rfl
theorem Tape_isSign_v {y : Nat} (H : Tok h f t y) (c : Int32) : Tape_isSign 1 c h = some (if tkd f t y = 3 ∧ f y = c then 1 else 0) := by
  obtain ⟨hy, ht, H⟩ := H
  have tt := tin (show t < 2 ^ 31 by omega)
  have ty := tin (show y < 2 ^ 31 by omega)
  have hk : tkd f t y < 5 := by unfold tkd; split; decide; split; decide; split <;> decide
  unfold Tape_isSign
  rw [if_pos (isO_of H.1), H.g2, H.g3, H.g1, H.g0]
  simp only [Option.bind_some]
  by_cases q : tkd f t y = 3
  · have hyt : y < t := by
      refine Nat.lt_of_not_le (fun z => ?_)
      have : tkd f t y = 4 := if_pos z
      omega
    rw [if_pos (by rw [q]; rfl), if_neg (fun z => by have := tile.mp z; omega), H.by (by omega)]
    simp only [Option.bind_some]
    by_cases q2 : f y = c
    · rw [if_pos q2, if_pos ⟨q, q2⟩]
    · rw [if_neg q2, if_neg (fun z => q2 z.2)]
  · rw [if_neg (show ¬ nI (tkd f t y) = (3 : Int32) from nIne (b := 3) (by omega) (by decide) q), if_neg (fun z => q z.1)]
end Tok
