/-! PURE: the reader: parts, terms, sums -/
def tmL (Pt : PSt → Bool × PSt) (f : Nat → Int32) (t : Nat) : Nat → Bool → PSt → Bool × PSt
  | 0, g, s => (g, s)
  | k + 1, g, s => if g = true ∧ ¬ mlq f t s = 0 then tmL Pt f t k (Pt (gow f t s)).1 (emt (Pt (gow f t s)).2 (mlq f t s)) else (g, s)
def trm (Pt : PSt → Bool × PSt) (f : Nat → Int32) (t : Nat) (s : PSt) : Bool × PSt := tmL Pt f t 400 (Pt s).1 (Pt s).2
def plq (f : Nat → Int32) (t : Nat) (s : PSt) : Nat := if sgp f t 43 s then 3 else if sgp f t 45 s then 4 else 0
def smL (Tm : PSt → Bool × PSt) (f : Nat → Int32) (t : Nat) : Nat → Bool → PSt → Bool × PSt
  | 0, g, s => (g, s)
  | k + 1, g, s => if g = true ∧ ¬ plq f t s = 0 then smL Tm f t k (Tm (gow f t s)).1 (emt (Tm (gow f t s)).2 (plq f t s)) else (g, s)
def smm (Tm : PSt → Bool × PSt) (f : Nat → Int32) (t : Nat) (s : PSt) : Bool × PSt := smL Tm f t 400 (Tm s).1 (Tm s).2
/-- a part, d brackets may still open -/
def prs (f : Nat → Int32) (t : Nat) (o : Int32) : Nat → PSt → Bool × PSt
  | 0, s => if sgp f t 91 s then (false, s) else lef f t o s
  | d + 1, s => if sgp f t 91 s then (if (smm (trm (prs f t o d) f t) f t (gow f t s)).1 = true then (if sgp f t 93 (smm (trm (prs f t o d) f t) f t (gow f t s)).2 then (true, gow f t (smm (trm (prs f t o d) f t) f t (gow f t s)).2) else (false, (smm (trm (prs f t o d) f t) f t (gow f t s)).2)) else (false, (smm (trm (prs f t o d) f t) f t (gow f t s)).2)) else lef f t o s
/-- what is left to pay for codes -/
def phi (t : Nat) (s : PSt) : Nat := s.2.1 + (t - s.1)
theorem tkd_y {f : Nat → Int32} {t y : Nat} (h : tkd f t y < 4) : y < t := by
  refine Nat.lt_of_not_le (fun z => ?_)
  have : tkd f t y = 4 := if_pos z
  omega
theorem gow_y {f : Nat → Int32} {t : Nat} {s : PSt} (h : s.1 ≤ t) : s.1 ≤ (gow f t s).1 ∧ (gow f t s).1 ≤ t ∧ (s.1 < t → s.1 < (gow f t s).1) := by
  obtain ⟨x1, x2⟩ := tnx_le (f := f) h
  have x3 := skp_le (f := f) (t := t) (t - tnx f t s.1) (tnx f t s.1) (by omega)
  have e : (gow f t s).1 = skp f t (t - tnx f t s.1) (tnx f t s.1) := rfl
  have x0 : s.1 ≤ tnx f t s.1 := by
    by_cases q : s.1 < t
    · exact Nat.le_of_lt (x2 q)
    · exact Nat.le_of_eq (if_pos (show t ≤ s.1 by omega)).symm
  rw [e]
  refine ⟨by omega, by omega, fun z => ?_⟩
  have := x2 z
  omega
theorem gow_p {f : Nat → Int32} {t : Nat} {s : PSt} (h : s.1 ≤ t) : phi t (gow f t s) ≤ phi t s ∧ (s.1 < t → phi t (gow f t s) + 1 ≤ phi t s) := by
  obtain ⟨x1, x2, x3⟩ := gow_y (f := f) h
  have e : (gow f t s).2.1 = s.2.1 := rfl
  unfold phi
  rw [e]
  refine ⟨by omega, fun z => ?_⟩
  have := x3 z
  omega
theorem emt_p {t : Nat} {s : PSt} {w : Nat} : phi t (emt s w) = phi t s + 1 := by
  show s.2.1 + 1 + (t - s.1) = s.2.1 + (t - s.1) + 1
  omega
theorem lef_p {f : Nat → Int32} {t : Nat} {o : Int32} {s : PSt} (h : s.1 ≤ t) : phi t (lef f t o s).2 ≤ phi t s ∧ (lef f t o s).2.1 ≤ t := by
  have amg_y : ∀ w (z : PSt), ¬ amg f t w z = -1 → z.1 < t := fun w z q => by
    refine tkd_y (f := f) ?_
    by_cases e : tkd f t z.1 = 1
    · omega
    · exact absurd (if_neg e) q
  unfold lef
  by_cases q : s.2.2.2.2 < 50
  · rw [if_pos q]
    have hp : phi t (pap s) = phi t s := rfl
    have h1 : (pap s).1 ≤ t := h
    rw [← hp]
    generalize pap s = z at *
    unfold lep
    by_cases q2 : tkd f t z.1 = 2
    · rw [if_pos q2]
      unfold nuq
      by_cases q3 : nmv f t z ≤ 1000
      · rw [if_pos q3]
        have h2 : (emt z (1 + 16 * nmv f t z)).1 ≤ t := h1
        have := (gow_p (f := f) h2).2 (tkd_y (f := f) (y := z.1) (by omega))
        rw [emt_p] at this
        exact ⟨by show phi t (gow f t (emt z (1 + 16 * nmv f t z))) ≤ _; omega, (gow_y (f := f) h2).2.1⟩
      · rw [if_neg q3]; exact ⟨Nat.le_refl _, h1⟩
    · rw [if_neg q2]
      by_cases q4 : o = 0
      · rw [if_pos q4]
        unfold lwq
        by_cases q3 : amg f t 2 z = -1
        · rw [if_pos q3]; exact ⟨Nat.le_refl _, h1⟩
        · rw [if_neg q3]
          have h2 : (alt (emt z (2 + 16 * (amg f t 2 z).toInt.toNat)) (amg f t 2 z).toInt.toNat).1 ≤ t := h1
          have := (gow_p (f := f) h2).2 (amg_y 2 z q3)
          have e : phi t (alt (emt z (2 + 16 * (amg f t 2 z).toInt.toNat)) (amg f t 2 z).toInt.toNat) = phi t z + 1 := emt_p (w := 2 + 16 * (amg f t 2 z).toInt.toNat)
          rw [e] at this
          refine ⟨?_, (gow_y (f := f) h2).2.1⟩
          show phi t (gow f t (alt (emt z (2 + 16 * (amg f t 2 z).toInt.toNat)) (amg f t 2 z).toInt.toNat)) ≤ _
          omega
      · rw [if_neg q4]
        unfold owq
        by_cases q3 : amg f t 1 z = -1
        · rw [if_pos q3]; exact ⟨Nat.le_refl _, h1⟩
        · rw [if_neg q3]
          have g1 := (gow_p (f := f) h1).2 (amg_y 1 z q3)
          have g2 := (gow_y (f := f) h1).2.1
          generalize (amg f t 1 z).toInt.toNat = k at *
          by_cases q5 : k < 3
          · rw [if_pos q5]
            refine ⟨?_, g2⟩
            show phi t (emt (gow f t z) (2 + 16 * k)) ≤ _
            rw [emt_p]; exact g1
          · rw [if_neg q5]
            by_cases q6 : tkd f t (gow f t z).1 = 2 ∧ nmv f t (gow f t z) < 6
            · rw [if_pos q6]
              have h3 : (emt (gow f t z) (2 + 16 * (3 + (k - 3) * 6 + nmv f t (gow f t z)))).1 ≤ t := g2
              have g3 := (gow_p (f := f) h3).1
              rw [emt_p] at g3
              refine ⟨?_, (gow_y (f := f) h3).2.1⟩
              show phi t (gow f t (emt (gow f t z) (2 + 16 * (3 + (k - 3) * 6 + nmv f t (gow f t z))))) ≤ _
              omega
            · rw [if_neg q6]
              exact ⟨by show phi t (gow f t z) ≤ _; omega, g2⟩
  · rw [if_neg q]; exact ⟨Nat.le_refl _, h⟩
