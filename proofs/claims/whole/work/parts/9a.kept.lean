/-! PURE: what the reader has written stays -/
def kpp (s z : PSt) : Prop := s.2.1 ≤ z.2.1 ∧ ∀ i, i < s.2.1 → z.2.2.1 i = s.2.2.1 i
theorem kpp.rf {s : PSt} : kpp s s := ⟨Nat.le_refl _, fun _ _ => rfl⟩
theorem kpp.tr {a b d : PSt} (h1 : kpp a b) (h2 : kpp b d) : kpp a d := ⟨Nat.le_trans h1.1 h2.1, fun i hi => (h2.2 i (Nat.lt_of_lt_of_le hi h1.1)).trans (h1.2 i hi)⟩
theorem kpp.go {f : Nat → Int32} {t : Nat} {s : PSt} : kpp s (gow f t s) := ⟨Nat.le_refl _, fun _ _ => rfl⟩
theorem kpp.em {s : PSt} {w : Nat} : kpp s (emt s w) := ⟨Nat.le_succ _, fun i hi => if_neg (show ¬ i = s.2.1 by omega)⟩
theorem kpp.al {s : PSt} {k : Nat} : kpp s (alt s k) := ⟨Nat.le_refl _, fun _ _ => rfl⟩
theorem kpp.pa {s : PSt} : kpp s (pap s) := ⟨Nat.le_refl _, fun _ _ => rfl⟩
def Kp (Pt : PSt → Bool × PSt) : Prop := ∀ s, kpp s (Pt s).2
section Kept
variable {f : Nat → Int32} {t : Nat} {o : Int32}
theorem Kp_lef : Kp (lef f t o) := by
  intro s
  unfold lef
  by_cases q : s.2.2.2.2 < 50
  · rw [if_pos q]
    refine kpp.pa.tr ?_
    generalize pap s = z
    unfold lep
    by_cases q2 : tkd f t z.1 = 2
    · rw [if_pos q2]
      unfold nuq
      by_cases q3 : nmv f t z ≤ 1000
      · rw [if_pos q3]; exact kpp.em.tr kpp.go
      · rw [if_neg q3]; exact kpp.rf
    · rw [if_neg q2]
      by_cases q4 : o = 0
      · rw [if_pos q4]
        unfold lwq
        by_cases q3 : amg f t 2 z = -1
        · rw [if_pos q3]; exact kpp.rf
        · rw [if_neg q3]; exact kpp.em.tr (kpp.al.tr kpp.go)
      · rw [if_neg q4]
        unfold owq
        by_cases q3 : amg f t 1 z = -1
        · rw [if_pos q3]; exact kpp.rf
        · rw [if_neg q3]
          generalize (amg f t 1 z).toInt.toNat = k
          by_cases q5 : k < 3
          · rw [if_pos q5]; exact kpp.go.tr kpp.em
          · rw [if_neg q5]
            by_cases q6 : tkd f t (gow f t z).1 = 2 ∧ nmv f t (gow f t z) < 6
            · rw [if_pos q6]; exact kpp.go.tr (kpp.em.tr kpp.go)
            · rw [if_neg q6]; exact kpp.go
  · rw [if_neg q]; exact kpp.rf
theorem Kp_tmL {Pt : PSt → Bool × PSt} (H : Kp Pt) : ∀ (k : Nat) (g : Bool) (s : PSt), kpp s (tmL Pt f t k g s).2
  | 0, _, _ => kpp.rf
  | k + 1, g, s => by
    unfold tmL
    by_cases q : g = true ∧ ¬ mlq f t s = 0
    · rw [if_pos q]; exact kpp.go.tr ((H _).tr (kpp.em.tr (Kp_tmL H k _ _)))
    · rw [if_neg q]; exact kpp.rf
theorem Kp_trm {Pt : PSt → Bool × PSt} (H : Kp Pt) : Kp (trm Pt f t) := fun s => (H s).tr (Kp_tmL H _ _ _)
theorem Kp_smL {Pt : PSt → Bool × PSt} (H : Kp Pt) : ∀ (k : Nat) (g : Bool) (s : PSt), kpp s (smL Pt f t k g s).2
  | 0, _, _ => kpp.rf
  | k + 1, g, s => by
    unfold smL
    by_cases q : g = true ∧ ¬ plq f t s = 0
    · rw [if_pos q]; exact kpp.go.tr ((H _).tr (kpp.em.tr (Kp_smL H k _ _)))
    · rw [if_neg q]; exact kpp.rf
theorem Kp_smm {Pt : PSt → Bool × PSt} (H : Kp Pt) : Kp (smm Pt f t) := fun s => (H s).tr (Kp_smL H _ _ _)
theorem Kp_prs : ∀ (d : Nat), Kp (prs f t o d)
  | 0 => by
    intro s
    unfold prs
    by_cases q : sgp f t 91 s
    · rw [if_pos q]; exact kpp.rf
    · rw [if_neg q]; exact Kp_lef s
  | d + 1 => by
    have IH := Kp_smm (f := f) (t := t) (Kp_trm (f := f) (t := t) (Kp_prs d))
    intro s
    unfold prs
    by_cases q : sgp f t 91 s
    · rw [if_pos q]
      have K := (kpp.go (f := f) (t := t) (s := s)).tr (IH (gow f t s))
      generalize smm (trm (prs f t o d) f t) f t (gow f t s) = z at *
      by_cases q1 : z.1 = true
      · rw [if_pos q1]
        by_cases q2 : sgp f t 93 z.2
        · rw [if_pos q2]; exact K.tr kpp.go
        · rw [if_neg q2]; exact K
      · rw [if_neg q1]; exact K
    · rw [if_neg q]; exact Kp_lef s
end Kept
