/-! PURE: the reference reads as the class's parser does: tokens taken, parts -/
def rst (σ0 : am_S) (k l : Nat) (x : Int32) : am_S := (upd (upd (upd σ0.1 18 (nI k)) 19 (nI l)) 20 x, σ0.2)
theorem rst_18 {σ0 : am_S} {k l k2 : Nat} {x : Int32} : (upd (rst σ0 k l x).1 18 (nI k2), (rst σ0 k l x).2) = rst σ0 k2 l x := by
  unfold rst
  refine Prod.ext ?_ rfl
  funext j
  show upd (upd (upd (upd σ0.1 18 (nI k)) 19 (nI l)) 20 x) 18 (nI k2) j = upd (upd (upd σ0.1 18 (nI k2)) 19 (nI l)) 20 x j
  unfold upd
  by_cases h1 : j = 18 <;> by_cases h2 : j = 19 <;> by_cases h3 : j = 20 <;> simp [h1, h2, h3] <;> omega
theorem rst_19 {σ0 : am_S} {k l l2 : Nat} {x : Int32} : (upd (rst σ0 k l x).1 19 (nI l2), (rst σ0 k l x).2) = rst σ0 k l2 x := by
  unfold rst
  refine Prod.ext ?_ rfl
  funext j
  show upd (upd (upd (upd σ0.1 18 (nI k)) 19 (nI l)) 20 x) 19 (nI l2) j = upd (upd (upd σ0.1 18 (nI k)) 19 (nI l2)) 20 x j
  unfold upd
  by_cases h1 : j = 18 <;> by_cases h2 : j = 19 <;> by_cases h3 : j = 20 <;> simp [h1, h2, h3] <;> omega
theorem rst_20 {σ0 : am_S} {k l : Nat} {x x2 : Int32} : (upd (rst σ0 k l x).1 20 x2, (rst σ0 k l x).2) = rst σ0 k l x2 := by
  unfold rst
  refine Prod.ext ?_ rfl
  funext j
  show upd (upd (upd (upd σ0.1 18 (nI k)) 19 (nI l)) 20 x) 20 x2 j = upd (upd (upd σ0.1 18 (nI k)) 19 (nI l)) 20 x2 j
  unfold upd
  by_cases h3 : j = 20 <;> simp [h3]
def RE (f : Nat → Int32) (t : Nat) (o : Int32) (σ0 : am_S) (n : Nat) : Prop := t ≤ 400 ∧ (∀ i, i < t → -128 ≤ (f i).toInt ∧ (f i).toInt < 128) ∧ TkE f t σ0 n ∧ σ0.1 7 = nI (if o = 0 then 8 else 14) ∧ σ0.1 8 = nI (if o = 0 then 15 else 19) ∧ σ0.1 9 = o ∧ (o = 0 ∨ o = 1)
def AtR (f : Nat → Int32) (t b : Nat) (σ0 : am_S) (n : Nat) (h : am_H) (k : Nat) (s : PSt) : Prop := Mo b h (rst σ0 k s.2.2.2.2 (-1)) ∧ k ≤ n ∧ plc f t k = s.1 ∧ s.2.2.2.2 ≤ 50
def BdR (t b : Nat) (σ0 : am_S) (n : Nat) (h : am_H) (p : Nat) : Prop := p ≤ t ∧ ∃ k l, k ≤ n ∧ Mo b h (rst σ0 k l (nI p))
/-- the method X reads as P does -/
def RfN (f : Nat → Int32) (t b : Nat) (σ0 : am_S) (n : Nat) (X : am_H → Option am_H) (P : PSt → Bool × PSt) : Prop := (∀ h k s, AtR f t b σ0 n h k s → ∃ h2, X h = some h2 ∧ Same b h h2 ∧ ((P s).1 = true → ∃ k2, k ≤ k2 ∧ AtR f t b σ0 n h2 k2 (P s).2) ∧ (¬ (P s).1 = true → BdR t b σ0 n h2 (P s).2.1)) ∧ (∀ h p, BdR t b σ0 n h p → X h = some h)
section ReadM
variable {f : Nat → Int32} {t b n : Nat} {o : Int32} {σ0 : am_S} {h : am_H} {k : Nat} {s : PSt}
theorem RE.pl (E : RE f t o σ0 n) {k : Nat} (hk : k ≤ n) : plc f t k ≤ t ∧ (k < n ↔ plc f t k < t) := by
  obtain ⟨_, _, ⟨_, e2, e3, _⟩, _⟩ := E
  by_cases q : k = n
  · subst q; rw [e3]; exact ⟨Nat.le_refl _, by omega⟩
  · have := (e2 k (by omega)).1
    exact ⟨by omega, by omega⟩
theorem RE.rw (E : RE f t o σ0 n) {k : Nat} (hk : k ≤ n) : σ0.2.1 10 k = nI (plc f t k) ∧ σ0.2.1 8 k = nI (cdN f t (plc f t k)) ∧ σ0.2.1 9 k = nI (vlN f t (plc f t k)) := by
  obtain ⟨_, _, ⟨_, e2, e3, e4, e5, e6, _⟩, _⟩ := E
  by_cases q : k = n
  · subst q
    rw [e3, cdN_t (Nat.le_refl _), e4, e5, e6]
    have : vlN f t t = 0 := by unfold vlN; rw [if_neg (by rw [show tkd f t t = 4 from if_pos (Nat.le_refl _)]; decide)]
    rw [this]
    exact ⟨rfl, rfl, rfl⟩
  · exact (e2 k (by omega)).2
theorem AtR.le (E : RE f t o σ0 n) (A : AtR f t b σ0 n h k s) : s.1 ≤ t ∧ (k < n ↔ s.1 < t) ∧ k ≤ 400 := by
  have := E.pl A.2.1
  rw [A.2.2.1] at this
  exact ⟨this.1, this.2, Nat.le_trans A.2.1 E.2.2.1.1⟩
theorem AtR.fine (A : AtR f t b σ0 n h k s) : Ref_fine b h = some 1 := by
  unfold Ref_fine
  rw [if_pos A.1.o, A.1.i20, show (rst σ0 k s.2.2.2.2 (-1)).1 20 = -1 from rfl]
  simp only [Option.bind_some]
  rw [if_pos (by first | rfl | trivial)]
theorem BdR.fine {p : Nat} (E : RE f t o σ0 n) (A : BdR t b σ0 n h p) : Ref_fine b h = some 0 := by
  obtain ⟨hp, k, l, hk, M⟩ := A
  have := E.1
  unfold Ref_fine
  rw [if_pos M.o, M.i20, show (rst σ0 k l (nI p)).1 20 = nI p from rfl]
  simp only [Option.bind_some]
  rw [if_neg (fun z => by have := congrArg Int32.toInt z; rw [tim1, tin (show p < 2 ^ 31 by omega)] at this; omega)]
theorem AtR.cd (E : RE f t o σ0 n) (A : AtR f t b σ0 n h k s) : gI h 12 b 18 = some (nI k) ∧ aI h 0 (b + 1 + 8) (nI k) = some (nI (cdN f t s.1)) ∧ aI h 0 (b + 1 + 9) (nI k) = some (nI (vlN f t s.1)) ∧ aI h 0 (b + 1 + 10) (nI k) = some (nI s.1) := by
  obtain ⟨r1, r2, r3⟩ := E.rw A.2.1
  have h4 := (A.le E).2.2
  rw [A.2.2.1] at r1 r2 r3
  refine ⟨A.1.i18, ?_, ?_, ?_⟩
  · rw [← r2]; exact A.1.rd (r := 8) (by decide) (by decide) (show k < 401 by omega)
  · rw [← r3]; exact A.1.rd (r := 9) (by decide) (by decide) (show k < 401 by omega)
  · rw [← r1]; exact A.1.rd (r := 10) (by decide) (by decide) (show k < 401 by omega)
theorem AtR.nx (E : RE f t o σ0 n) (A : AtR f t b σ0 n h k s) (hs : s.1 < t) : ∃ h2, pV h 12 b 18 (.int (nI (k + 1))) = some h2 ∧ Same b h h2 ∧ AtR f t b σ0 n h2 (k + 1) (gow f t s) := by
  obtain ⟨h2, e, M, S⟩ := A.1.w18 (nI (k + 1))
  rw [rst_18] at M
  refine ⟨h2, e, S, M, ?_, ?_, A.2.2.2⟩
  · have := (A.le E).2.1.mpr hs; omega
  · show skw f t (tnx f t (plc f t k)) = skw f t (tnx f t s.1)
    rw [A.2.2.1]
theorem takes_v (E : RE f t o σ0 n) (A : AtR f t b σ0 n h k s) {c : Nat} (hc0 : c ≠ 0) (hc : c < 1000) : ∃ h2, Ref_takes0 b (nI c) h = some (bI (decide (cdN f t s.1 = c)), h2) ∧ Same b h h2 ∧ (cdN f t s.1 = c → AtR f t b σ0 n h2 (k + 1) (gow f t s)) ∧ (¬ cdN f t s.1 = c → h2 = h) := by
  obtain ⟨g1, g2, _, _⟩ := A.cd E
  have hb := cdN_b (f := f) (t := t) (y := s.1)
  by_cases q : cdN f t s.1 = c
  · have hs : s.1 < t := by
      refine Nat.lt_of_not_le (fun z => ?_)
      have := cdN_t (f := f) z
      omega
    obtain ⟨h2, e, S, A2⟩ := A.nx E hs
    refine ⟨h2, ?_, S, fun _ => A2, fun z => absurd q z⟩
    unfold Ref_takes0
    rw [if_pos A.1.o, A.fine]
    simp only [Option.bind_some]
    rw [if_neg (by decide), A.1.r14, g1]
    simp only [Option.bind_some]
    rw [g2]
    simp only [Option.bind_some]
    rw [if_pos (by rw [q])]
    unfold Ref_takes0_25
    rw [if_neg (by decide), g1]
    simp only [Option.bind_some]
    rw [nI_p1, e]
    simp only [Option.bind_some]
    rw [show bI (decide (cdN f t s.1 = c)) = 1 from if_pos (decide_eq_true q)]
    rfl
  · refine ⟨h, ?_, Same.rf, fun z => absurd z q, fun _ => rfl⟩
    unfold Ref_takes0
    rw [if_pos A.1.o, A.fine]
    simp only [Option.bind_some]
    rw [if_neg (by decide), A.1.r14, g1]
    simp only [Option.bind_some]
    rw [g2]
    simp only [Option.bind_some]
    rw [if_neg (fun z => q ((nI_eq (by omega) (by omega)).mp z)), show bI (decide (cdN f t s.1 = c)) = 0 from if_neg (fun z => q (of_decide_eq_true z))]
    unfold Ref_takes0_24 Ref_takes0_25
    rw [if_pos rfl]
    rfl
theorem takes_b (E : RE f t o σ0 n) {p : Nat} (A : BdR t b σ0 n h p) (c : Int32) : Ref_takes0 b c h = some (0, h) := by
  unfold Ref_takes0
  rw [if_pos A.2.choose_spec.choose_spec.2.o, A.fine E]
  simp only [Option.bind_some]
  rw [if_pos (by first | rfl | trivial)]
  unfold Ref_takes0_24 Ref_takes0_25
  rw [if_pos rfl]
  rfl
theorem faults_v (E : RE f t o σ0 n) (A : AtR f t b σ0 n h k s) : ∃ h2, Ref_faults b h = some h2 ∧ Same b h h2 ∧ BdR t b σ0 n h2 s.1 := by
  obtain ⟨g1, _, _, g2⟩ := A.cd E
  obtain ⟨h2, e, M, S⟩ := A.1.w20 (nI s.1)
  rw [rst_20] at M
  refine ⟨h2, ?_, S, (A.le E).1, k, _, A.2.1, M⟩
  unfold Ref_faults
  rw [if_pos A.1.o, A.fine]
  simp only [Option.bind_some]
  rw [if_neg (by decide), A.1.r16, g1]
  simp only [Option.bind_some]
  rw [g2]
  simp only [Option.bind_some]
  rw [e]
  rfl
theorem faults_b (E : RE f t o σ0 n) {p : Nat} (A : BdR t b σ0 n h p) : Ref_faults b h = some h := by
  unfold Ref_faults
  rw [if_pos A.2.choose_spec.choose_spec.2.o, A.fine E]
  simp only [Option.bind_some]
  rw [if_pos (by first | rfl | trivial)]
theorem must_b (E : RE f t o σ0 n) {p : Nat} (A : BdR t b σ0 n h p) (c : Int32) : Ref_must b c h = some h := by
  unfold Ref_must
  rw [if_pos A.2.choose_spec.choose_spec.2.o, takes_b E A]
  simp only [Option.bind_some]
  rw [if_pos (by first | rfl | trivial), faults_b E A]
  rfl
theorem must_v (E : RE f t o σ0 n) (A : AtR f t b σ0 n h k s) {c : Nat} (hc0 : c ≠ 0) (hc : c < 1000) : ∃ h2, Ref_must b (nI c) h = some h2 ∧ Same b h h2 ∧ (cdN f t s.1 = c → AtR f t b σ0 n h2 (k + 1) (gow f t s)) ∧ (¬ cdN f t s.1 = c → BdR t b σ0 n h2 s.1) := by
  obtain ⟨h1, e1, S1, y1, n1⟩ := takes_v E A hc0 hc
  by_cases q : cdN f t s.1 = c
  · refine ⟨h1, ?_, S1, y1, fun z => absurd q z⟩
    unfold Ref_must
    rw [if_pos A.1.o, e1]
    simp only [Option.bind_some]
    rw [if_neg (fun x => bI_0.mp x (decide_eq_true q))]
  · have := n1 q
    subst this
    obtain ⟨h2, e2, S2, B2⟩ := faults_v E A
    refine ⟨h2, ?_, S2, fun z => absurd z q, fun _ => B2⟩
    unfold Ref_must
    rw [if_pos A.1.o, e1]
    simp only [Option.bind_some]
    rw [if_pos (bI_0.mpr (fun z => q (of_decide_eq_true z))), e2]
    rfl
theorem leaf_v (E : RE f t o σ0 n) (A : AtR f t b σ0 n h k s) (hs : s.1 < t) : ∃ h2, Ref_leaf b h = some h2 ∧ Same b h h2 ∧ (s.2.2.2.2 < 50 → AtR f t b σ0 n h2 (k + 1) (gow f t (pap s))) ∧ (¬ s.2.2.2.2 < 50 → BdR t b σ0 n h2 s.1) := by
  have hl := A.2.2.2
  have g19 : gI h 12 b 19 = some (nI s.2.2.2.2) := A.1.i19
  by_cases q : s.2.2.2.2 < 50
  · obtain ⟨h1, e1, M1, S1⟩ := A.1.w19 (nI (s.2.2.2.2 + 1))
    rw [rst_19] at M1
    have A1 : AtR f t b σ0 n h1 k (pap s) := ⟨M1, A.2.1, A.2.2.1, q⟩
    obtain ⟨h2, e2, S2, A2⟩ := A1.nx E hs
    refine ⟨h2, ?_, S1.tr S2, fun _ => A2, fun z => absurd q z⟩
    unfold Ref_leaf
    rw [if_pos A.1.o, g19]
    simp only [Option.bind_some]
    rw [if_neg (show ¬ nI s.2.2.2.2 = (50 : Int32) from nIne (b := 50) (by omega) (by decide) (by omega))]
    unfold Ref_leaf_13
    rw [g19]
    simp only [Option.bind_some]
    rw [nI_p1, e1]
    simp only [Option.bind_some]
    rw [A1.fine]
    simp only [Option.bind_some]
    rw [if_neg (by decide), (A1.cd E).1]
    simp only [Option.bind_some]
    rw [nI_p1, e2]
    rfl
  · have l50 : s.2.2.2.2 = 50 := by omega
    obtain ⟨h1, e1, S1, B1⟩ := faults_v E A
    obtain ⟨hp, k1, l1, hk1, M1⟩ := B1
    obtain ⟨h2, e2, M2, S2⟩ := M1.w19 (nI (l1 + 1))
    rw [rst_19] at M2
    have B2 : BdR t b σ0 n h2 s.1 := ⟨hp, k1, _, hk1, M2⟩
    refine ⟨h2, ?_, S1.tr S2, fun z => absurd z q, fun _ => B2⟩
    unfold Ref_leaf
    rw [if_pos A.1.o, g19]
    simp only [Option.bind_some]
    rw [if_pos (by rw [l50]; rfl), e1]
    simp only [Option.bind_some]
    unfold Ref_leaf_13
    rw [M1.i19, show (rst σ0 k1 l1 (nI s.1)).1 19 = nI l1 from rfl]
    simp only [Option.bind_some]
    rw [nI_p1, e2]
    simp only [Option.bind_some]
    rw [B2.fine E]
    simp only [Option.bind_some]
    rw [if_pos (by first | rfl | trivial)]
theorem mustNumber_b (E : RE f t o σ0 n) {p : Nat} (A : BdR t b σ0 n h p) (c d : Int32) : Ref_mustNumber b c d h = some h := by
  unfold Ref_mustNumber
  rw [if_pos A.2.choose_spec.choose_spec.2.o, A.fine E]
  simp only [Option.bind_some]
  rw [if_pos (by first | rfl | trivial)]
  unfold Ref_mustNumber_42
  rw [A.fine E]
  simp only [Option.bind_some]
  rw [if_pos (by first | rfl | trivial)]
theorem rbv_b (hd : ∀ i, i < t → (f i).toInt < 128) : ∀ (k i a : Nat), i + k ≤ t → a ≤ 10001000 → rbv f k i a ≤ 10001000
  | 0, _, _, _, h => h
  | k + 1, i, a, hk, h => by
    have := hd i (by omega)
    refine rbv_b hd k (i + 1) _ (by omega) ?_
    by_cases q : 1000000 < a
    · rw [if_pos q]; exact h
    · rw [if_neg q]; omega
theorem vlN_b (hd : ∀ i, i < t → (f i).toInt < 128) {y : Nat} : vlN f t y ≤ 10001000 := by
  unfold vlN
  by_cases q : tkd f t y = 2
  · rw [if_pos q]
    have hy : y < t := tkd_y (f := f) (by omega)
    have := tnx_le (f := f) (Nat.le_of_lt hy)
    exact rbv_b hd _ _ _ (by have := this.2 hy; omega) (by omega)
  · rw [if_neg q]; omega
theorem mustNumber_v (E : RE f t o σ0 n) (A : AtR f t b σ0 n h k s) {lo hi : Nat} (hhi : hi ≤ 1000) (hlo : lo ≤ hi) : ∃ h2, Ref_mustNumber b (nI lo) (nI hi) h = some h2 ∧ Same b h h2 ∧ (tkd f t s.1 = 2 ∧ lo ≤ nmv f t s ∧ nmv f t s ≤ hi → AtR f t b σ0 n h2 (k + 1) (gow f t s)) ∧ (¬ (tkd f t s.1 = 2 ∧ lo ≤ nmv f t s ∧ nmv f t s ≤ hi) → BdR t b σ0 n h2 s.1) := by
  obtain ⟨g1, g2, g3, _⟩ := A.cd E
  have hb := cdN_b (f := f) (t := t) (y := s.1)
  have tl := tin (show lo < 2 ^ 31 by omega)
  have th := tin (show hi < 2 ^ 31 by omega)
  have hv := vlN_b (f := f) (t := t) (fun i hi => (E.2.1 i hi).2) (y := s.1)
  have tv := tin (show vlN f t s.1 < 2 ^ 31 by omega)
  obtain ⟨hf, ef, Sf, Bf⟩ := faults_v E A
  have F38 : Ref_mustNumber_38 b h = some hf := by
    unfold Ref_mustNumber_38
    rw [ef]
    simp only [Option.bind_some]
    unfold Ref_mustNumber_42
    rw [Bf.fine E]
    simp only [Option.bind_some]
    rw [if_pos (by first | rfl | trivial)]
  unfold Ref_mustNumber
  rw [if_pos A.1.o, A.fine]
  simp only [Option.bind_some]
  rw [if_neg (by decide), A.1.r14, A.1.r15, g1]
  simp only [Option.bind_some]
  rw [g2, g3]
  simp only [Option.bind_some]
  by_cases q : tkd f t s.1 = 2
  · have nm := nmv_r q
    rw [if_pos (show nI (cdN f t s.1) = (50 : Int32) by rw [cdN_2.mp q]; rfl)]
    unfold Ref_lies
    by_cases q1 : vlN f t s.1 < lo
    · rw [if_pos (tilt.mpr (by omega))]
      simp only [Option.bind_some]
      rw [if_pos (by first | rfl | trivial), F38]
      exact ⟨hf, rfl, Sf, fun z => by omega, fun _ => Bf⟩
    · rw [if_neg (fun z => q1 (by have := tilt.mp z; omega))]
      by_cases q2 : hi < vlN f t s.1
      · rw [if_pos (tilt.mpr (by omega))]
        simp only [Option.bind_some]
        rw [if_pos (by first | rfl | trivial), F38]
        exact ⟨hf, rfl, Sf, fun z => by omega, fun _ => Bf⟩
      · rw [if_neg (fun z => q2 (by have := tilt.mp z; omega))]
        simp only [Option.bind_some]
        rw [if_neg (by decide)]
        obtain ⟨h2, e2, S2, A2⟩ := A.nx E (tkd_y (f := f) (by omega))
        refine ⟨h2, ?_, S2, fun _ => A2, fun z => absurd ⟨q, by omega, by omega⟩ z⟩
        unfold Ref_mustNumber_42
        rw [A.fine]
        simp only [Option.bind_some]
        rw [if_neg (by decide), g1]
        simp only [Option.bind_some]
        rw [nI_p1, e2]
        rfl
  · rw [if_neg (show ¬ nI (cdN f t s.1) = (50 : Int32) from nIne (b := 50) (by omega) (by decide) (fun z => q (cdN_2.mpr z))), F38]
    exact ⟨hf, rfl, Sf, fun z => absurd z.1 q, fun _ => Bf⟩
end ReadM
