/-! PURE: the reader: what isn't a bracket -/
def owq (f : Nat → Int32) (t : Nat) (s : PSt) : Bool × PSt := if amg f t 1 s = -1 then (false, s) else if (amg f t 1 s).toInt.toNat < 3 then (true, emt (gow f t s) (2 + 16 * (amg f t 1 s).toInt.toNat)) else if tkd f t (gow f t s).1 = 2 ∧ nmv f t (gow f t s) < 6 then (true, gow f t (emt (gow f t s) (2 + 16 * (3 + ((amg f t 1 s).toInt.toNat - 3) * 6 + nmv f t (gow f t s))))) else (false, gow f t s)
def lwq (f : Nat → Int32) (t : Nat) (s : PSt) : Bool × PSt := if amg f t 2 s = -1 then (false, s) else (true, gow f t (alt (emt s (2 + 16 * (amg f t 2 s).toInt.toNat)) (amg f t 2 s).toInt.toNat))
def nuq (f : Nat → Int32) (t : Nat) (s : PSt) : Bool × PSt := if nmv f t s ≤ 1000 then (true, gow f t (emt s (1 + 16 * nmv f t s))) else (false, s)
def lep (f : Nat → Int32) (t : Nat) (o : Int32) (s : PSt) : Bool × PSt := if tkd f t s.1 = 2 then nuq f t s else if o = 0 then lwq f t s else owq f t s
def pap (s : PSt) : PSt := (s.1, s.2.1, s.2.2.1, s.2.2.2.1, s.2.2.2.2 + 1)
def lef (f : Nat → Int32) (t : Nat) (o : Int32) (s : PSt) : Bool × PSt := if s.2.2.2.2 < 50 then lep f t o (pap s) else (false, s)
/-- the answer of a reading method -/
abbrev bI (b : Bool) : Int32 := if b = true then 1 else 0
theorem bI_z (b : Bool) : nrZ (bI b) = some (bI b) := by cases b <;> rfl
section ReadR
variable {h : am_H} {f : Nat → Int32} {t : Nat} {o : Int32} {c : Nat} {kf sf tf mf : Nat → Int32} {s : PSt}
theorem Reader_orderWord_v (H : RdA h f t o c kf sf tf mf s) (hn : s.2.1 < 512) : ∃ h2, Reader_orderWord 91 h = some (bI (owq f t s).1, h2) ∧ RdA h2 f t o c kf sf tf mf (owq f t s).2 ∧ Fr pR h h2 := by
  obtain ⟨g, g0, g1, _⟩ := H.g
  have t3 : (3 : Int32).toInt = 3 := by decide
  have t6 : (6 : Int32).toInt = 6 := by decide
  unfold Reader_orderWord owq
  rw [if_pos g, g1]
  simp only [Option.bind_some]
  rw [show Tape_among 1 1 h = some (amg f t 1 s) from Tape_among_v H.2.1 (by decide)]
  simp only [Option.bind_some]
  by_cases q : amg f t 1 s = -1
  · rw [if_pos q, if_pos q]; exact ⟨h, rfl, H, Fr.rf⟩
  · rw [if_neg q, if_neg q]
    obtain ⟨k, hk, ek⟩ : ∃ k, k < 50 ∧ amg f t 1 s = nI k := (amg_v (by decide)).resolve_left q
    have tk := tin (show k < 2 ^ 31 by omega)
    rw [ek, tk, show ((k : Nat) : Int).toNat = k by omega]
    obtain ⟨h1, e1, R1, F1⟩ := H.go
    rw [e1]
    simp only [Option.bind_some]
    obtain ⟨_, r0, r1, _⟩ := R1.g
    have hn1 : (gow f t s).2.1 < 512 := hn
    by_cases q3 : k < 3
    · rw [if_neg (fun z => by have := tile.mp z; omega), if_pos q3, r0]
      simp only [Option.bind_some]
      obtain ⟨h2, e2, R2, F2⟩ := R1.add hn1 (k := 2) (g := k) (by decide) (by omega)
      rw [show Text_add 92 (2 : Int32) (nI k) h1 = some (nI (gow f t s).2.1, h2) from e2]
      exact ⟨h2, rfl, R2, F1.tr F2⟩
    · rw [if_pos (tile.mpr (by omega)), if_neg q3, r1]
      simp only [Option.bind_some]
      rw [show Tape_number 1 h1 = some (if tkd f t (gow f t s).1 = 2 then nI (nmv f t (gow f t s)) else -1) from Tape_number_v R1.2.1]
      simp only [Option.bind_some]
      by_cases q4 : tkd f t (gow f t s).1 = 2
      · rw [if_pos q4]
        have hv : nmv f t (gow f t s) ≤ 1001 := nmv_le
        have tv := tin (show nmv f t (gow f t s) < 2 ^ 31 by omega)
        rw [if_neg (fun z => by have := tilt.mp z; rw [tv, ti0] at this; omega)]
        by_cases q5 : nmv f t (gow f t s) < 6
        · rw [if_pos (tilt.mpr (by omega)), if_pos ⟨q4, q5⟩, r0]
          simp only [Option.bind_some]
          have ec : ((3 : Int32) + ((nI k - (3 : Int32)) * (6 : Int32))) + nI (nmv f t (gow f t s)) = nI (3 + (k - 3) * 6 + nmv f t (gow f t s)) := by
            rw [show nI k - (3 : Int32) = nI (k - 3) from pk_sub (a := k) (b := 3) (by omega), show (6 : Int32) = nI 6 from rfl, pk_mul, show (3 : Int32) = nI 3 from rfl, nI_add, nI_add]
          obtain ⟨h2, e2, R2, F2⟩ := R1.add hn1 (k := 2) (g := 3 + (k - 3) * 6 + nmv f t (gow f t s)) (by decide) (by omega)
          obtain ⟨h3, e3, R3, F3⟩ := R2.go
          rw [ec, show Text_add 92 (2 : Int32) (nI (3 + (k - 3) * 6 + nmv f t (gow f t s))) h1 = some (nI (gow f t s).2.1, h2) from e2]
          simp only [Option.bind_some]
          rw [R2.g.2.2.1]
          simp only [Option.bind_some]
          rw [e3]
          exact ⟨h3, rfl, R3, F1.tr (F2.tr F3)⟩
        · rw [if_neg (fun z => by have := tilt.mp z; omega), if_neg (fun z => q5 z.2)]
          exact ⟨h1, rfl, R1, F1⟩
      · rw [if_neg q4, if_pos (by decide), if_neg (fun z => q4 z.1)]
        exact ⟨h1, rfl, R1, F1⟩
theorem Reader_lawWord_a (H : RdA h f t o c kf sf tf mf s) (hn : s.2.1 < 512) : ∃ h2, Reader_lawWord 91 h = some (bI (lwq f t s).1, h2) ∧ RdA h2 f t o c kf sf tf mf (lwq f t s).2 ∧ Fr pR h h2 := by
  unfold lwq
  by_cases q : amg f t 2 s = -1
  · rw [if_pos q]; exact ⟨h, Reader_lawWord_no H q, H, Fr.rf⟩
  · rw [if_neg q]
    obtain ⟨k, hk, ek⟩ : ∃ k, k < 50 ∧ amg f t 2 s = nI k := (amg_v (by decide)).resolve_left q
    have tk := tin (show k < 2 ^ 31 by omega)
    obtain ⟨h2, e2, R2, F2⟩ := Reader_lawWord_v H hn hk ek
    rw [ek, tk, show ((k : Nat) : Int).toNat = k by omega]
    exact ⟨h2, e2, R2, F2⟩
theorem Reader_number_a (H : RdA h f t o c kf sf tf mf s) (hn : s.2.1 < 512) (q : tkd f t s.1 = 2) : ∃ h2, Reader_number 91 h = some (bI (nuq f t s).1, h2) ∧ RdA h2 f t o c kf sf tf mf (nuq f t s).2 ∧ Fr pR h h2 := by
  obtain ⟨h2, e2, R2, F2⟩ := Reader_number_v H hn q
  unfold nuq
  by_cases q2 : nmv f t s ≤ 1000
  · rw [if_pos q2] at e2 R2 ⊢
    exact ⟨h2, e2, R2, F2⟩
  · rw [if_neg q2] at e2 R2 ⊢
    exact ⟨h2, e2, R2, F2⟩
theorem Reader_part_leaf {dd : Nat} {v : Int32} (H : RdA h f t o c kf sf tf mf s) (hn : s.2.1 < 512) (q : ¬ sgp f t 91 s) : ∃ h2, Reader_part dd 91 v h = some (bI (lef f t o s).1, h2) ∧ RdA h2 f t o c kf sf tf mf (lef f t o s).2 ∧ Fr pR h h2 := by
  obtain ⟨g, g0, g1, g2, g3⟩ := H.g
  have hp := H.2.2.2.1
  have tp := tin (show s.2.2.2.2 < 2 ^ 31 by omega)
  have t50 : (50 : Int32).toInt = 50 := by decide
  rw [Reader_part_e, if_pos g, g1]
  simp only [Option.bind_some]
  rw [Tape_isSign_v H.2.1, if_neg (show ¬ (tkd f t s.1 = 3 ∧ f s.1 = 91) from q)]
  simp only [Option.bind_some]
  rw [if_pos (by first | rfl | trivial), g3]
  simp only [Option.bind_some]
  unfold lef
  by_cases q2 : s.2.2.2.2 < 50
  · rw [if_pos (tilt.mpr (by omega)), if_pos q2, nI_p1]
    have ep : pV h 3 91 3 (.int (nI (s.2.2.2.2 + 1))) = some (h.set 91 (.inr (3, rdF o (nI (s.2.2.2.2 + 1))))) := by unfold pV; rw [ob_of H.1]; rfl
    have F1 : Fr (fun a => a = 91) h (h.set 91 (.inr (3, rdF o (nI (s.2.2.2.2 + 1))))) := Fr.set rfl
    have R1 : RdA (h.set 91 (.inr (3, rdF o (nI (s.2.2.2.2 + 1))))) f t o c kf sf tf mf (pap s) := ⟨set_at H.1, H.2.1.fr F1 (by decide) (by decide), H.2.2.1.fr F1 (fun x h1 _ z => by have z : x = 91 := z; omega), (show s.2.2.2.2 + 1 ≤ 50 by omega), H.2.2.2.2⟩
    have F1' : Fr pR h (h.set 91 (.inr (3, rdF o (nI (s.2.2.2.2 + 1))))) := F1.mono (fun x z => Or.inr (by have z : x = 91 := z; omega))
    rw [ep]
    simp only [Option.bind_some]
    generalize h.set 91 (.inr (3, rdF o (nI (s.2.2.2.2 + 1)))) = h1 at *
    obtain ⟨r, r0, r1, r2, r3⟩ := R1.g
    have hn1 : (pap s).2.1 < 512 := hn
    have hk : tkd f t (pap s).1 < 5 := by unfold tkd; split; decide; split; decide; split <;> decide
    rw [r1]
    simp only [Option.bind_some]
    rw [R1.2.1.2.2.g2, r2]
    simp only [Option.bind_some]
    unfold lep
    by_cases q3 : tkd f t (pap s).1 = 2
    · rw [if_pos (show nI (tkd f t (pap s).1) = (2 : Int32) from congrArg nI q3), if_pos q3]
      obtain ⟨h2, e2, R2, F2⟩ := Reader_number_a R1 hn1 q3
      rw [e2]
      simp only [Option.bind_some]
      rw [bI_z]
      exact ⟨h2, rfl, R2, F1'.tr F2⟩
    · rw [if_neg (show ¬ nI (tkd f t (pap s).1) = (2 : Int32) from nIne (b := 2) (by omega) (by decide) q3), if_neg q3]
      by_cases q4 : o = 0
      · rw [if_pos q4, if_pos q4]
        obtain ⟨h2, e2, R2, F2⟩ := Reader_lawWord_a R1 hn1
        rw [e2]
        simp only [Option.bind_some]
        rw [bI_z]
        exact ⟨h2, rfl, R2, F1'.tr F2⟩
      · rw [if_neg q4, if_neg q4]
        obtain ⟨h2, e2, R2, F2⟩ := Reader_orderWord_v R1 hn1
        rw [e2]
        simp only [Option.bind_some]
        rw [bI_z]
        exact ⟨h2, rfl, R2, F1'.tr F2⟩
  · rw [if_neg (fun z => by have := tilt.mp z; omega), if_neg q2]
    exact ⟨h, rfl, H, Fr.rf⟩
end ReadR
