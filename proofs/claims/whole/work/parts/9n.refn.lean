/-! PURE: the reference reads parts, terms, sums -/
section ReadN
variable {f : Nat → Int32} {t b n : Nat} {o : Int32} {σ0 : am_S} {h : am_H} {k : Nat} {s : PSt}
theorem plc_up (E : RE f t o σ0 n) {k : Nat} : ∀ (m : Nat), k + m ≤ n → plc f t k + m ≤ plc f t (k + m)
  | 0, _ => Nat.le_refl _
  | m + 1, h => by
    have ih := plc_up E (k := k) m (by omega)
    have hp := (E.pl (k := k + m) (by omega))
    have hy := gow_y (f := f) (t := t) (s := (plc f t (k + m), 0, f, 0, 0)) hp.1
    have h2 := hy.2.2 (hp.2.mp (by omega))
    have h2 : plc f t (k + m) < plc f t (k + m + 1) := h2
    show plc f t k + (m + 1) ≤ plc f t (k + m + 1)
    omega
theorem AtR.up (E : RE f t o σ0 n) {h h2 : am_H} {k k2 : Nat} {s s2 : PSt} (A : AtR f t b σ0 n h k s) (A2 : AtR f t b σ0 n h2 k2 s2) (hk : k ≤ k2) : s.1 + (k2 - k) ≤ s2.1 := by
  have := plc_up E (k := k) (k2 - k) (by have := A2.2.1; omega)
  rw [show k + (k2 - k) = k2 by omega, A.2.2.1, A2.2.2.1] at this
  exact this
theorem amg_ex (hs : s.1 ≤ t) {w : Nat} (hw : w < 11) (q : ¬ amg f t w s = -1) : ∃ k, k < (wdc w).length ∧ amg f t w s = nI k ∧ cdN f t s.1 = pmw w k := by
  by_cases hk : tkd f t s.1 = 1
  · have e := amg_f hw hs hk
    cases hf : fdw (wdc w) (tsl f t s.1) 0 with
    | none => rw [hf] at e; exact absurd e q
    | some j =>
      have hj := (fdw_b _ _ _ _ hf).2.1
      rw [hf] at e
      exact ⟨j, by omega, e, (amg_iff hs hw (by omega)).mp e⟩
  · exact absurd (if_neg hk) q
theorem pmw2 : ∀ c, c < 400 → ((∃ k, k < 8 ∧ c = pmw 2 k) ↔ 8 ≤ c ∧ c ≤ 15) := by
  intro c _
  constructor
  · rintro ⟨k, hk, rfl⟩
    have : ∀ k, k < 8 → 8 ≤ pmw 2 k ∧ pmw 2 k ≤ 15 := by decide
    exact this k hk
  · rintro ⟨h1, h2⟩
    have : ∀ d, d < 8 → ∃ k, k < 8 ∧ d + 8 = pmw 2 k := by decide
    obtain ⟨k, hk, e⟩ := this (c - 8) (by omega)
    exact ⟨k, hk, by omega⟩
theorem pmw1 : ∀ c, c < 400 → ((∃ k, k < 6 ∧ c = pmw 1 k) ↔ 14 ≤ c ∧ c ≤ 19) := by
  intro c _
  constructor
  · rintro ⟨k, hk, rfl⟩
    have : ∀ k, k < 6 → 14 ≤ pmw 1 k ∧ pmw 1 k ≤ 19 := by decide
    exact this k hk
  · rintro ⟨h1, h2⟩
    have : ∀ d, d < 6 → ∃ k, k < 6 ∧ d + 14 = pmw 1 k := by decide
    obtain ⟨k, hk, e⟩ := this (c - 14) (by omega)
    exact ⟨k, hk, by omega⟩
theorem pmw1h : ∀ k, k < 6 → ((pmw 1 k = 14 ∨ pmw 1 k = 15 ∨ pmw 1 k = 19) ↔ 3 ≤ k) := by decide
/-- what becomes of it: good, or bad at a place -/
def Out (f : Nat → Int32) (t b : Nat) (σ0 : am_S) (n : Nat) (h2 : am_H) (k : Nat) (r : Bool × PSt) : Prop := (r.1 = true → ∃ k2, k ≤ k2 ∧ AtR f t b σ0 n h2 k2 r.2) ∧ (¬ r.1 = true → BdR t b σ0 n h2 r.2.1)
theorem Out.bad {h2 : am_H} {z : PSt} (B : BdR t b σ0 n h2 z.1) : Out f t b σ0 n h2 k (false, z) := ⟨fun x => absurd x Bool.false_ne_true, fun _ => B⟩
theorem Out.good {h2 : am_H} {k2 : Nat} {z : PSt} (hk : k ≤ k2) (A : AtR f t b σ0 n h2 k2 z) : Out f t b σ0 n h2 k (true, z) := ⟨fun _ => ⟨k2, hk, A⟩, fun x => absurd rfl x⟩
theorem isOfHeap_v {c : Nat} (hc : c < 2 ^ 31) (h : am_H) : Ref_isOfHeap (nI c) h = some (bI (decide (c = 14 ∨ c = 15 ∨ c = 19))) := by
  unfold Ref_isOfHeap
  by_cases q1 : c = 14
  · subst q1; rfl
  · rw [if_neg (show ¬ nI c = (14 : Int32) from nIne (b := 14) hc (by decide) q1)]
    by_cases q2 : c = 15
    · subst q2; rfl
    · rw [if_neg (show ¬ nI c = (15 : Int32) from nIne (b := 15) hc (by decide) q2)]
      by_cases q3 : c = 19
      · subst q3; rfl
      · rw [if_neg (show ¬ nI c = (19 : Int32) from nIne (b := 19) hc (by decide) q3), show bI (decide (c = 14 ∨ c = 15 ∨ c = 19)) = 0 from if_neg (fun z => by have := of_decide_eq_true z; omega)]
theorem readLeaf_v (E : RE f t o σ0 n) (A : AtR f t b σ0 n h k s) (q91 : ¬ sgp f t 91 s) {dd : Nat} {v : Int32} : ∃ h2, Ref_readPart dd b v h = some h2 ∧ Same b h h2 ∧ Out f t b σ0 n h2 k (lef f t o s) := by
  obtain ⟨g1, g2, g3, _⟩ := A.cd E
  have hsl := (A.le E).1
  have hb := cdN_b (f := f) (t := t) (y := s.1)
  have tc := tin (show cdN f t s.1 < 2 ^ 31 by omega)
  have hv := vlN_b (f := f) (t := t) (fun i hi => (E.2.1 i hi).2) (y := s.1)
  have tv := tin (show vlN f t s.1 < 2 ^ 31 by omega)
  have t1000 : (1000 : Int32).toInt = 1000 := by decide
  have q191 : ¬ cdN f t s.1 = 100 + 91 := fun z => q91 ((sgp_c E.2.1 (c := 91) (k := 91) (by decide) (by decide)).mpr z)
  obtain ⟨hf, ef, Sf, Bf⟩ := faults_v E A
  have F138 : Ref_readPart_138 dd b h = some hf := by
    rw [Ref_readPart_138_e, ef]
    rfl
  have bad : ∃ h2, some hf = some h2 ∧ Same b h h2 ∧ Out f t b σ0 n h2 k (false, s) := ⟨hf, rfl, Sf, Out.bad Bf⟩
  have e0 : Ref_readPart dd b v h = if nI (cdN f t s.1) = (50 : Int32) then (if nI (vlN f t s.1) ≤ (1000 : Int32) then Ref_readPart_111 dd b (nI (cdN f t s.1)) h else Ref_readPart_95 dd b (nI (cdN f t s.1)) h) else Ref_readPart_95 dd b (nI (cdN f t s.1)) h := by
    rw [Ref_readPart_e, if_pos A.1.o, A.fine]
    simp only [Option.bind_some]
    rw [if_neg (by decide), A.1.r14, A.1.r15, g1]
    simp only [Option.bind_some]
    rw [g2, g3]
    unfold Ref_sign
    simp only [Option.bind_some]
    rw [if_neg (show ¬ nI (cdN f t s.1) = (100 : Int32) + 91 from nIne (b := 191) (by omega) (by decide) q191)]
  have e7 : gI h 12 b 7 = some (nI (if o = 0 then 8 else 14)) := by rw [A.1.i7]; exact congrArg some E.2.2.2.1
  have e8 : gI h 12 b 8 = some (nI (if o = 0 then 15 else 19)) := by rw [A.1.i8]; exact congrArg some E.2.2.2.2.1
  have e95 : ¬ ((if o = 0 then 8 else 14) ≤ cdN f t s.1 ∧ cdN f t s.1 ≤ (if o = 0 then 15 else 19)) → Ref_readPart_95 dd b (nI (cdN f t s.1)) h = some hf := fun z => by
    rw [Ref_readPart_95_e, e7, e8]
    simp only [Option.bind_some]
    have ta := tin (show (if o = 0 then 8 else 14) < 2 ^ 31 by split <;> omega)
    have tb := tin (show (if o = 0 then 15 else 19) < 2 ^ 31 by split <;> omega)
    by_cases q : cdN f t s.1 < (if o = 0 then 8 else 14)
    · rw [if_pos (tilt.mpr (by omega)), F138]
    · rw [if_neg (fun x => q (by have := tilt.mp x; omega)), if_pos (tilt.mpr (by omega)), F138]
  have e95y : ((if o = 0 then 8 else 14) ≤ cdN f t s.1 ∧ cdN f t s.1 ≤ (if o = 0 then 15 else 19)) → Ref_readPart_95 dd b (nI (cdN f t s.1)) h = Ref_readPart_111 dd b (nI (cdN f t s.1)) h := fun z => by
    rw [Ref_readPart_95_e, e7, e8]
    simp only [Option.bind_some]
    have ta := tin (show (if o = 0 then 8 else 14) < 2 ^ 31 by split <;> omega)
    have tb := tin (show (if o = 0 then 15 else 19) < 2 ^ 31 by split <;> omega)
    rw [if_neg (fun x => by have := tilt.mp x; omega), if_neg (fun x => by have := tilt.mp x; omega)]
  have i9 : ∀ (h2 : am_H) (k2 l2 : Nat) (x : Int32), Mo b h2 (rst σ0 k2 l2 x) → gI h2 12 b 9 = some o := fun h2 k2 l2 x M => by rw [M.i9]; exact congrArg some E.2.2.2.2.2.1
  have S111 : s.1 < t → (o = 0 ∨ ¬ (cdN f t s.1 = 14 ∨ cdN f t s.1 = 15 ∨ cdN f t s.1 = 19)) → ∃ h2, Ref_readPart_111 dd b (nI (cdN f t s.1)) h = some h2 ∧ Same b h h2 ∧ (s.2.2.2.2 < 50 → AtR f t b σ0 n h2 (k + 1) (gow f t (pap s))) ∧ (¬ s.2.2.2.2 < 50 → BdR t b σ0 n h2 s.1) := fun hst hz => by
    obtain ⟨h2, e2, S2, y2, n2⟩ := leaf_v E A hst
    refine ⟨h2, ?_, S2, y2, n2⟩
    rw [Ref_readPart_111_e, e2]
    simp only [Option.bind_some]
    have g9 : gI h2 12 b 9 = some o := by
      by_cases q : s.2.2.2.2 < 50
      · exact i9 _ _ _ _ (y2 q).1
      · obtain ⟨_, k2, l2, _, M⟩ := n2 q
        exact i9 _ _ _ _ M
    rw [g9]
    simp only [Option.bind_some]
    by_cases q : o = 0
    · rw [if_pos q]
    · rw [if_neg q, isOfHeap_v (by omega)]
      simp only [Option.bind_some]
      rw [if_pos (bI_0.mpr (fun z => by have := of_decide_eq_true z; exact (hz.resolve_left q) this))]
  have ev : amg f t 1 (pap s) = amg f t 1 s := rfl
  have ev2 : amg f t 2 (pap s) = amg f t 2 s := rfl
  have ev3 : nmv f t (pap s) = nmv f t s := rfl
  rw [e0]
  by_cases q2 : tkd f t s.1 = 2
  · have hst : s.1 < t := tkd_y (f := f) (by omega)
    have nm := nmv_r q2
    have c50 := cdN_2.mp q2
    rw [if_pos (show nI (cdN f t s.1) = (50 : Int32) by rw [c50]; rfl)]
    by_cases q3 : vlN f t s.1 ≤ 1000
    · rw [if_pos (tile.mpr (by omega))]
      obtain ⟨h2, e2, S2, y2, n2⟩ := S111 hst (Or.inr (by omega))
      rw [e2]
      refine ⟨h2, rfl, S2, ?_⟩
      unfold lef
      by_cases q : s.2.2.2.2 < 50
      · rw [if_pos q]
        unfold lep
        rw [if_pos (show tkd f t (pap s).1 = 2 from q2)]
        unfold nuq
        rw [if_pos (by rw [ev3]; omega)]
        exact Out.good (Nat.le_succ k) (y2 q)
      · rw [if_neg q]
        exact Out.bad (n2 q)
    · rw [if_neg (fun z => q3 (by have := tile.mp z; omega)), e95 (by split <;> omega)]
      refine ⟨hf, rfl, Sf, ?_⟩
      unfold lef
      by_cases q : s.2.2.2.2 < 50
      · rw [if_pos q]
        unfold lep
        rw [if_pos (show tkd f t (pap s).1 = 2 from q2)]
        unfold nuq
        rw [if_neg (by rw [ev3]; omega)]
        exact Out.bad (z := pap s) Bf
      · rw [if_neg q]
        exact Out.bad Bf
  · rw [if_neg (show ¬ nI (cdN f t s.1) = (50 : Int32) from nIne (b := 50) (by omega) (by decide) (fun z => q2 (cdN_2.mpr z)))]
    by_cases q4 : o = 0
    · rw [if_pos q4, if_pos q4] at e95 e95y
      have a2 : ¬ amg f t 2 s = -1 ↔ 8 ≤ cdN f t s.1 ∧ cdN f t s.1 ≤ 15 := by
        rw [← pmw2 _ hb]
        constructor
        · intro z
          obtain ⟨j, hj, _, e⟩ := amg_ex hsl (by decide) z
          exact ⟨j, hj, e⟩
        · rintro ⟨j, hj, e⟩ z
          exact (amg_no hsl (w := 2) (by decide)).mp z j hj e
      by_cases q3 : amg f t 2 s = -1
      · rw [e95 (fun z => a2.mpr z q3)]
        refine ⟨hf, rfl, Sf, ?_⟩
        unfold lef
        by_cases q : s.2.2.2.2 < 50
        · rw [if_pos q]
          unfold lep
          rw [if_neg (show ¬ tkd f t (pap s).1 = 2 from q2), if_pos q4]
          unfold lwq
          rw [if_pos (by rw [ev2]; exact q3)]
          exact Out.bad (z := pap s) Bf
        · rw [if_neg q]
          exact Out.bad Bf
      · have c8 := a2.mp q3
        have hst : s.1 < t := by
          refine Nat.lt_of_not_le (fun z => ?_)
          have := cdN_t (f := f) z
          omega
        rw [e95y c8]
        obtain ⟨h2, e2, S2, y2, n2⟩ := S111 hst (Or.inl q4)
        rw [e2]
        refine ⟨h2, rfl, S2, ?_⟩
        unfold lef
        by_cases q : s.2.2.2.2 < 50
        · rw [if_pos q]
          unfold lep
          rw [if_neg (show ¬ tkd f t (pap s).1 = 2 from q2), if_pos q4]
          unfold lwq
          rw [if_neg (by rw [ev2]; exact q3)]
          exact Out.good (Nat.le_succ k) (y2 q)
        · rw [if_neg q]
          exact Out.bad (n2 q)
    · rw [if_neg q4, if_neg q4] at e95 e95y
      have a1 : ¬ amg f t 1 s = -1 ↔ 14 ≤ cdN f t s.1 ∧ cdN f t s.1 ≤ 19 := by
        rw [← pmw1 _ hb]
        constructor
        · intro z
          obtain ⟨j, hj, _, e⟩ := amg_ex hsl (by decide) z
          exact ⟨j, hj, e⟩
        · rintro ⟨j, hj, e⟩ z
          exact (amg_no hsl (w := 1) (by decide)).mp z j hj e
      by_cases q3 : amg f t 1 s = -1
      · rw [e95 (fun z => a1.mpr z q3)]
        refine ⟨hf, rfl, Sf, ?_⟩
        unfold lef
        by_cases q : s.2.2.2.2 < 50
        · rw [if_pos q]
          unfold lep
          rw [if_neg (show ¬ tkd f t (pap s).1 = 2 from q2), if_neg q4]
          unfold owq
          rw [if_pos (by rw [ev]; exact q3)]
          exact Out.bad (z := pap s) Bf
        · rw [if_neg q]
          exact Out.bad Bf
      · have c14 := a1.mp q3
        have hst : s.1 < t := by
          refine Nat.lt_of_not_le (fun z => ?_)
          have := cdN_t (f := f) z
          omega
        obtain ⟨j, hj, ej, ec⟩ := amg_ex hsl (w := 1) (by decide) q3
        have hj : j < 6 := hj
        have hh := pmw1h j hj
        have ejn : (amg f t 1 (pap s)).toInt.toNat = j := by rw [ev, ej, tin (show j < 2 ^ 31 by omega)]; omega
        rw [e95y c14]
        by_cases q5 : j < 3
        · obtain ⟨h2, e2, S2, y2, n2⟩ := S111 hst (Or.inr (fun z => by rw [ec] at z; have := hh.mp z; omega))
          rw [e2]
          refine ⟨h2, rfl, S2, ?_⟩
          unfold lef
          by_cases q : s.2.2.2.2 < 50
          · rw [if_pos q]
            unfold lep
            rw [if_neg (show ¬ tkd f t (pap s).1 = 2 from q2), if_neg q4]
            unfold owq
            rw [if_neg (by rw [ev]; exact q3), ejn, if_pos q5]
            exact Out.good (Nat.le_succ k) (y2 q)
          · rw [if_neg q]
            exact Out.bad (n2 q)
        · have ch : cdN f t s.1 = 14 ∨ cdN f t s.1 = 15 ∨ cdN f t s.1 = 19 := by rw [ec]; exact hh.mpr (by omega)
          obtain ⟨h2, e2, S2, y2, n2⟩ := leaf_v E A hst
          have eM : ∀ h3, gI h2 12 b 9 = some o → Ref_mustNumber b 0 5 h2 = some h3 → Ref_readPart_111 dd b (nI (cdN f t s.1)) h = some h3 := fun h3 g9 em => by
            rw [Ref_readPart_111_e, e2]
            simp only [Option.bind_some]
            rw [g9]
            simp only [Option.bind_some]
            rw [if_neg q4, isOfHeap_v (by omega)]
            simp only [Option.bind_some]
            rw [if_neg (fun x => bI_0.mp x (decide_eq_true ch)), em]
            rfl
          unfold lef
          by_cases q : s.2.2.2.2 < 50
          · have A2 := y2 q
            obtain ⟨h3, e3, S3, y3, n3⟩ := mustNumber_v E A2 (lo := 0) (hi := 5) (by decide) (by decide)
            rw [eM h3 (i9 _ _ _ _ A2.1) e3]
            refine ⟨h3, rfl, S2.tr S3, ?_⟩
            rw [if_pos q]
            unfold lep
            rw [if_neg (show ¬ tkd f t (pap s).1 = 2 from q2), if_neg q4]
            unfold owq
            rw [if_neg (by rw [ev]; exact q3), ejn, if_neg q5]
            by_cases q6 : tkd f t (gow f t (pap s)).1 = 2 ∧ nmv f t (gow f t (pap s)) < 6
            · rw [if_pos q6]
              exact Out.good (Nat.le_trans (Nat.le_succ k) (Nat.le_succ _)) (y3 ⟨q6.1, Nat.zero_le _, by have := q6.2; omega⟩)
            · rw [if_neg q6]
              exact Out.bad (n3 (fun z => q6 ⟨z.1, by have := z.2.2; omega⟩))
          · have B2 := n2 q
            obtain ⟨hp, k2, l2, hk2, M2⟩ := B2
            rw [eM h2 (i9 _ _ _ _ M2) (mustNumber_b E ⟨hp, k2, l2, hk2, M2⟩ 0 5)]
            refine ⟨h2, rfl, S2, ?_⟩
            rw [if_neg q]
            exact Out.bad ⟨hp, k2, l2, hk2, M2⟩
theorem BdR.ob {p : Nat} (B : BdR t b σ0 n h p) : isO h 12 b = true := B.2.choose_spec.choose_spec.2.o
theorem readPart_b (E : RE f t o σ0 n) {p dd : Nat} {v : Int32} (B : BdR t b σ0 n h p) : Ref_readPart dd b v h = some h := by
  rw [Ref_readPart_e, if_pos B.ob, B.fine E]
  simp only [Option.bind_some]
  rw [if_pos (by first | rfl | trivial)]

theorem readTerm_5_b (E : RE f t o σ0 n) {p dd : Nat} {v : Int32} (B : BdR t b σ0 n h p) : Ref_readTerm_5 dd b v h = some h := by
  rw [Ref_readTerm_5_e]
  unfold Ref_sign
  simp only [Option.bind_some]
  rw [takes_b E B]
  simp only [Option.bind_some]
  rw [if_pos (by first | rfl | trivial)]
  rw [takes_b E B]
  simp only [Option.bind_some]
  rw [if_pos (by first | rfl | trivial)]
  rw [takes_b E B]
  simp only [Option.bind_some]
  rw [if_pos (by first | rfl | trivial)]

theorem readTerm_5_l (E : RE f t o σ0 n) {dd : Nat} {v : Int32} {Pt : PSt → Bool × PSt} (HP : RfN f t b σ0 n (Ref_readPart dd b v) Pt) : ∀ (m : Nat) (h : am_H) (k : Nat) (s : PSt), t ≤ s.1 + m → AtR f t b σ0 n h k s → ∃ h2, Ref_readTerm_5 (dd + 1) b v h = some h2 ∧ Same b h h2 ∧ Out f t b σ0 n h2 k (tmL Pt f t m true s) := by
  intro m
  induction m with
  | zero =>
    intro h k s hm A
    have hs := (A.le E).1
    have c0 := cdN_t (f := f) (show t ≤ s.1 by omega)
    refine ⟨h, ?_, Same.rf, Out.good (Nat.le_refl k) A⟩
    rw [Ref_readTerm_5_e]
    unfold Ref_sign
    simp only [Option.bind_some]
    obtain ⟨x0, e0, _, _, n0⟩ := takes_v E A (c := 142) (by decide) (by decide)
    have n0 := n0 (by omega)
    rw [n0] at e0
    rw [show Ref_takes0 b ((100 : Int32) + 42) h = _ from e0]
    simp only [Option.bind_some]
    rw [if_pos (bI_0.mpr (fun z => by have := of_decide_eq_true z; omega))]
    obtain ⟨x1, e1, _, _, n1⟩ := takes_v E A (c := 147) (by decide) (by decide)
    have n1 := n1 (by omega)
    rw [n1] at e1
    rw [show Ref_takes0 b ((100 : Int32) + 47) h = _ from e1]
    simp only [Option.bind_some]
    rw [if_pos (bI_0.mpr (fun z => by have := of_decide_eq_true z; omega))]
    obtain ⟨x2, e2, _, _, n2⟩ := takes_v E A (c := 137) (by decide) (by decide)
    have n2 := n2 (by omega)
    rw [n2] at e2
    rw [show Ref_takes0 b ((100 : Int32) + 37) h = _ from e2]
    simp only [Option.bind_some]
    rw [if_pos (bI_0.mpr (fun z => by have := of_decide_eq_true z; omega))]
  | succ m ih =>
    intro h k s hm A
    have hs := (A.le E).1
    have go : ∀ h1, AtR f t b σ0 n h1 (k + 1) (gow f t s) → Same b h h1 → ¬ mlq f t s = 0 → ∃ h2, Ref_readTerm_41 (dd + 1) b v h1 = some h2 ∧ Same b h h2 ∧ Out f t b σ0 n h2 k (tmL Pt f t (m + 1) true s) := fun h1 A1 S1 hq => by
      obtain ⟨h2, e2, S2, y2, n2⟩ := HP.1 h1 (k + 1) _ A1
      have el : tmL Pt f t (m + 1) true s = tmL Pt f t m (Pt (gow f t s)).1 (emt (Pt (gow f t s)).2 (mlq f t s)) := if_pos ⟨rfl, hq⟩
      rw [el]
      by_cases g : (Pt (gow f t s)).1 = true
      · obtain ⟨k2, hk2, A2⟩ := y2 g
        have up := A1.up E A2 hk2
        have up0 := A.up E A1 (Nat.le_succ k)
        obtain ⟨h3, e3, S3, O3⟩ := ih h2 k2 (emt (Pt (gow f t s)).2 (mlq f t s)) (by show t ≤ (Pt (gow f t s)).2.1 + m; omega) A2
        refine ⟨h3, ?_, S1.tr (S2.tr S3), ?_⟩
        · rw [Ref_readTerm_41_e, if_pos (Nat.succ_pos dd), show dd + 1 - 1 = dd from rfl, e2]
          exact e3
        · rw [g]
          exact ⟨fun z => by obtain ⟨k3, h3, A3⟩ := O3.1 z; exact ⟨k3, by omega, A3⟩, O3.2⟩
      · have B2 := n2 g
        refine ⟨h2, ?_, S1.tr S2, ?_⟩
        · rw [Ref_readTerm_41_e, if_pos (Nat.succ_pos dd), show dd + 1 - 1 = dd from rfl, e2]
          exact readTerm_5_b E B2
        · have ef : tmL Pt f t m (Pt (gow f t s)).1 (emt (Pt (gow f t s)).2 (mlq f t s)) = (false, emt (Pt (gow f t s)).2 (mlq f t s)) := by
            rw [show (Pt (gow f t s)).1 = false by cases hx : (Pt (gow f t s)).1 <;> simp_all]
            cases m with
            | zero => rfl
            | succ m => exact if_neg (fun z => Bool.false_ne_true z.1)
          rw [ef]
          exact Out.bad B2
    rw [Ref_readTerm_5_e]
    unfold Ref_sign
    simp only [Option.bind_some]
    obtain ⟨x0, e0, S0, y0, n0⟩ := takes_v E A (c := 142) (by decide) (by decide)
    have d0 := sgp_c (s := s) E.2.1 (c := 42) (k := 42) (by decide) (by decide)
    rw [show Ref_takes0 b ((100 : Int32) + 42) h = _ from e0]
    simp only [Option.bind_some]
    by_cases q0 : cdN f t s.1 = 142
    · rw [if_neg (fun x => bI_0.mp x (decide_eq_true q0))]
      refine go x0 (y0 q0) S0 ?_
      unfold mlq
      rw [if_pos (d0.mpr q0)]
      decide
    · rw [if_pos (bI_0.mpr (fun z => q0 (of_decide_eq_true z)))]
      rw [n0 q0]
      obtain ⟨x1, e1, S1, y1, n1⟩ := takes_v E A (c := 147) (by decide) (by decide)
      have d1 := sgp_c (s := s) E.2.1 (c := 47) (k := 47) (by decide) (by decide)
      rw [show Ref_takes0 b ((100 : Int32) + 47) h = _ from e1]
      simp only [Option.bind_some]
      by_cases q1 : cdN f t s.1 = 147
      · rw [if_neg (fun x => bI_0.mp x (decide_eq_true q1))]
        refine go x1 (y1 q1) S1 ?_
        unfold mlq
        rw [if_neg (fun z => q0 (d0.mp z))]
        rw [if_pos (d1.mpr q1)]
        decide
      · rw [if_pos (bI_0.mpr (fun z => q1 (of_decide_eq_true z)))]
        rw [n1 q1]
        obtain ⟨x2, e2, S2, y2, n2⟩ := takes_v E A (c := 137) (by decide) (by decide)
        have d2 := sgp_c (s := s) E.2.1 (c := 37) (k := 37) (by decide) (by decide)
        rw [show Ref_takes0 b ((100 : Int32) + 37) h = _ from e2]
        simp only [Option.bind_some]
        by_cases q2 : cdN f t s.1 = 137
        · rw [if_neg (fun x => bI_0.mp x (decide_eq_true q2))]
          refine go x2 (y2 q2) S2 ?_
          unfold mlq
          rw [if_neg (fun z => q0 (d0.mp z))]
          rw [if_neg (fun z => q1 (d1.mp z))]
          rw [if_pos (d2.mpr q2)]
          decide
        · rw [if_pos (bI_0.mpr (fun z => q2 (of_decide_eq_true z)))]
          rw [n2 q2]
          refine ⟨h, rfl, Same.rf, ?_⟩
          have hq : mlq f t s = 0 := by
            unfold mlq
            rw [if_neg (fun z => q0 (d0.mp z)), if_neg (fun z => q1 (d1.mp z)), if_neg (fun z => q2 (d2.mp z))]
          rw [show tmL Pt f t (m + 1) true s = (true, s) from if_neg (fun z => z.2 hq)]
          exact Out.good (Nat.le_refl k) A

theorem readSum_5_b (E : RE f t o σ0 n) {p dd : Nat} {v : Int32} (B : BdR t b σ0 n h p) : Ref_readSum_5 dd b v h = some h := by
  rw [Ref_readSum_5_e]
  unfold Ref_sign
  simp only [Option.bind_some]
  rw [takes_b E B]
  simp only [Option.bind_some]
  rw [if_pos (by first | rfl | trivial)]
  rw [takes_b E B]
  simp only [Option.bind_some]
  rw [if_pos (by first | rfl | trivial)]

theorem readSum_5_l (E : RE f t o σ0 n) {dd : Nat} {v : Int32} {Pt : PSt → Bool × PSt} (HP : RfN f t b σ0 n (Ref_readTerm dd b v) Pt) : ∀ (m : Nat) (h : am_H) (k : Nat) (s : PSt), t ≤ s.1 + m → AtR f t b σ0 n h k s → ∃ h2, Ref_readSum_5 (dd + 1) b v h = some h2 ∧ Same b h h2 ∧ Out f t b σ0 n h2 k (smL Pt f t m true s) := by
  intro m
  induction m with
  | zero =>
    intro h k s hm A
    have hs := (A.le E).1
    have c0 := cdN_t (f := f) (show t ≤ s.1 by omega)
    refine ⟨h, ?_, Same.rf, Out.good (Nat.le_refl k) A⟩
    rw [Ref_readSum_5_e]
    unfold Ref_sign
    simp only [Option.bind_some]
    obtain ⟨x0, e0, _, _, n0⟩ := takes_v E A (c := 143) (by decide) (by decide)
    have n0 := n0 (by omega)
    rw [n0] at e0
    rw [show Ref_takes0 b ((100 : Int32) + 43) h = _ from e0]
    simp only [Option.bind_some]
    rw [if_pos (bI_0.mpr (fun z => by have := of_decide_eq_true z; omega))]
    obtain ⟨x1, e1, _, _, n1⟩ := takes_v E A (c := 145) (by decide) (by decide)
    have n1 := n1 (by omega)
    rw [n1] at e1
    rw [show Ref_takes0 b ((100 : Int32) + 45) h = _ from e1]
    simp only [Option.bind_some]
    rw [if_pos (bI_0.mpr (fun z => by have := of_decide_eq_true z; omega))]
  | succ m ih =>
    intro h k s hm A
    have hs := (A.le E).1
    have go : ∀ h1, AtR f t b σ0 n h1 (k + 1) (gow f t s) → Same b h h1 → ¬ plq f t s = 0 → ∃ h2, Ref_readSum_29 (dd + 1) b v h1 = some h2 ∧ Same b h h2 ∧ Out f t b σ0 n h2 k (smL Pt f t (m + 1) true s) := fun h1 A1 S1 hq => by
      obtain ⟨h2, e2, S2, y2, n2⟩ := HP.1 h1 (k + 1) _ A1
      have el : smL Pt f t (m + 1) true s = smL Pt f t m (Pt (gow f t s)).1 (emt (Pt (gow f t s)).2 (plq f t s)) := if_pos ⟨rfl, hq⟩
      rw [el]
      by_cases g : (Pt (gow f t s)).1 = true
      · obtain ⟨k2, hk2, A2⟩ := y2 g
        have up := A1.up E A2 hk2
        have up0 := A.up E A1 (Nat.le_succ k)
        obtain ⟨h3, e3, S3, O3⟩ := ih h2 k2 (emt (Pt (gow f t s)).2 (plq f t s)) (by show t ≤ (Pt (gow f t s)).2.1 + m; omega) A2
        refine ⟨h3, ?_, S1.tr (S2.tr S3), ?_⟩
        · rw [Ref_readSum_29_e, if_pos (Nat.succ_pos dd), show dd + 1 - 1 = dd from rfl, e2]
          exact e3
        · rw [g]
          exact ⟨fun z => by obtain ⟨k3, h3, A3⟩ := O3.1 z; exact ⟨k3, by omega, A3⟩, O3.2⟩
      · have B2 := n2 g
        refine ⟨h2, ?_, S1.tr S2, ?_⟩
        · rw [Ref_readSum_29_e, if_pos (Nat.succ_pos dd), show dd + 1 - 1 = dd from rfl, e2]
          exact readSum_5_b E B2
        · have ef : smL Pt f t m (Pt (gow f t s)).1 (emt (Pt (gow f t s)).2 (plq f t s)) = (false, emt (Pt (gow f t s)).2 (plq f t s)) := by
            rw [show (Pt (gow f t s)).1 = false by cases hx : (Pt (gow f t s)).1 <;> simp_all]
            cases m with
            | zero => rfl
            | succ m => exact if_neg (fun z => Bool.false_ne_true z.1)
          rw [ef]
          exact Out.bad B2
    rw [Ref_readSum_5_e]
    unfold Ref_sign
    simp only [Option.bind_some]
    obtain ⟨x0, e0, S0, y0, n0⟩ := takes_v E A (c := 143) (by decide) (by decide)
    have d0 := sgp_c (s := s) E.2.1 (c := 43) (k := 43) (by decide) (by decide)
    rw [show Ref_takes0 b ((100 : Int32) + 43) h = _ from e0]
    simp only [Option.bind_some]
    by_cases q0 : cdN f t s.1 = 143
    · rw [if_neg (fun x => bI_0.mp x (decide_eq_true q0))]
      refine go x0 (y0 q0) S0 ?_
      unfold plq
      rw [if_pos (d0.mpr q0)]
      decide
    · rw [if_pos (bI_0.mpr (fun z => q0 (of_decide_eq_true z)))]
      rw [n0 q0]
      obtain ⟨x1, e1, S1, y1, n1⟩ := takes_v E A (c := 145) (by decide) (by decide)
      have d1 := sgp_c (s := s) E.2.1 (c := 45) (k := 45) (by decide) (by decide)
      rw [show Ref_takes0 b ((100 : Int32) + 45) h = _ from e1]
      simp only [Option.bind_some]
      by_cases q1 : cdN f t s.1 = 145
      · rw [if_neg (fun x => bI_0.mp x (decide_eq_true q1))]
        refine go x1 (y1 q1) S1 ?_
        unfold plq
        rw [if_neg (fun z => q0 (d0.mp z))]
        rw [if_pos (d1.mpr q1)]
        decide
      · rw [if_pos (bI_0.mpr (fun z => q1 (of_decide_eq_true z)))]
        rw [n1 q1]
        refine ⟨h, rfl, Same.rf, ?_⟩
        have hq : plq f t s = 0 := by
          unfold plq
          rw [if_neg (fun z => q0 (d0.mp z)), if_neg (fun z => q1 (d1.mp z))]
        rw [show smL Pt f t (m + 1) true s = (true, s) from if_neg (fun z => z.2 hq)]
        exact Out.good (Nat.le_refl k) A

theorem readTerm_of (E : RE f t o σ0 n) {dd : Nat} {v : Int32} {Pt : PSt → Bool × PSt} (HP : RfN f t b σ0 n (Ref_readPart dd b v) Pt) : RfN f t b σ0 n (Ref_readTerm (dd + 1) b v) (trm Pt f t) := by
  constructor
  · intro h k s A
    obtain ⟨h1, e1, S1, y1, n1⟩ := HP.1 h k s A
    unfold trm
    have ee : ∀ r, Ref_readTerm_5 (dd + 1) b v h1 = r → Ref_readTerm (dd + 1) b v h = r := fun r hr => by
      rw [Ref_readTerm_e, if_pos A.1.o, if_pos (Nat.succ_pos dd), show dd + 1 - 1 = dd from rfl, e1]
      exact hr
    by_cases g : (Pt s).1 = true
    · obtain ⟨k2, hk2, A2⟩ := y1 g
      obtain ⟨h3, e3, S3, O3⟩ := readTerm_5_l E HP 400 h1 k2 (Pt s).2 (by have := E.1; omega) A2
      refine ⟨h3, ee _ e3, S1.tr S3, ?_, ?_⟩
      · rw [g]; exact fun z => by obtain ⟨k3, h3, A3⟩ := O3.1 z; exact ⟨k3, by omega, A3⟩
      · rw [g]; exact O3.2
    · have B := n1 g
      have ef : tmL Pt f t 400 (Pt s).1 (Pt s).2 = (false, (Pt s).2) := by
        rw [show (Pt s).1 = false by cases hx : (Pt s).1 <;> simp_all]
        exact if_neg (fun z => Bool.false_ne_true z.1)
      rw [ef]
      exact ⟨h1, ee _ (readTerm_5_b E B), S1, fun z => absurd z Bool.false_ne_true, fun _ => B⟩
  · intro h p B
    rw [Ref_readTerm_e, if_pos B.ob, if_pos (Nat.succ_pos dd), show dd + 1 - 1 = dd from rfl, HP.2 h p B]
    exact readTerm_5_b E B
theorem readSum_of (E : RE f t o σ0 n) {dd : Nat} {v : Int32} {Pt : PSt → Bool × PSt} (HP : RfN f t b σ0 n (Ref_readTerm dd b v) Pt) : RfN f t b σ0 n (Ref_readSum (dd + 1) b v) (smm Pt f t) := by
  constructor
  · intro h k s A
    obtain ⟨h1, e1, S1, y1, n1⟩ := HP.1 h k s A
    unfold smm
    have ee : ∀ r, Ref_readSum_5 (dd + 1) b v h1 = r → Ref_readSum (dd + 1) b v h = r := fun r hr => by
      rw [Ref_readSum_e, if_pos A.1.o, if_pos (Nat.succ_pos dd), show dd + 1 - 1 = dd from rfl, e1]
      exact hr
    by_cases g : (Pt s).1 = true
    · obtain ⟨k2, hk2, A2⟩ := y1 g
      obtain ⟨h3, e3, S3, O3⟩ := readSum_5_l E HP 400 h1 k2 (Pt s).2 (by have := E.1; omega) A2
      refine ⟨h3, ee _ e3, S1.tr S3, ?_, ?_⟩
      · rw [g]; exact fun z => by obtain ⟨k3, h3, A3⟩ := O3.1 z; exact ⟨k3, by omega, A3⟩
      · rw [g]; exact O3.2
    · have B := n1 g
      have ef : smL Pt f t 400 (Pt s).1 (Pt s).2 = (false, (Pt s).2) := by
        rw [show (Pt s).1 = false by cases hx : (Pt s).1 <;> simp_all]
        exact if_neg (fun z => Bool.false_ne_true z.1)
      rw [ef]
      exact ⟨h1, ee _ (readSum_5_b E B), S1, fun z => absurd z Bool.false_ne_true, fun _ => B⟩
  · intro h p B
    rw [Ref_readSum_e, if_pos B.ob, if_pos (Nat.succ_pos dd), show dd + 1 - 1 = dd from rfl, HP.2 h p B]
    exact readSum_5_b E B
theorem readPart_0 (E : RE f t o σ0 n) {dd : Nat} : RfN f t b σ0 n (Ref_readPart dd b (nI (8 - 0))) (prs f t o 0) := by
  refine ⟨fun h k s A => ?_, fun h p B => readPart_b E B⟩
  unfold prs
  by_cases q : sgp f t 91 s
  · rw [if_pos q]
    have qc := (sgp_c E.2.1 (c := 91) (k := 91) (by decide) (by decide)).mp q
    obtain ⟨hf, ef, Sf, Bf⟩ := faults_v E A
    obtain ⟨g1, g2, g3, _⟩ := A.cd E
    refine ⟨hf, ?_, Sf, fun z => absurd z Bool.false_ne_true, fun _ => Bf⟩
    rw [Ref_readPart_e, if_pos A.1.o, A.fine]
    simp only [Option.bind_some]
    rw [if_neg (by decide), A.1.r14, g1]
    simp only [Option.bind_some]
    rw [g2]
    unfold Ref_sign
    simp only [Option.bind_some]
    rw [if_pos (by rw [qc]; rfl), if_pos (by decide), ef]
    simp only [Option.bind_some]
    rw [Ref_readPart_37_e, Bf.fine E]
    simp only [Option.bind_some]
    rw [if_pos (by first | rfl | trivial)]
  · rw [if_neg q]
    exact readLeaf_v E A q
theorem readPart_more (E : RE f t o σ0 n) {dd d : Nat} (hd : d + 1 ≤ 8) (HS : RfN f t b σ0 n (Ref_readSum dd b (nI (8 - d))) (smd f t o d)) : RfN f t b σ0 n (Ref_readPart (dd + 1) b (nI (8 - (d + 1)))) (prs f t o (d + 1)) := by
  refine ⟨fun h k s A => ?_, fun h p B => readPart_b E B⟩
  unfold prs
  by_cases q : sgp f t 91 s
  · rw [if_pos q]
    have qc := (sgp_c E.2.1 (c := 91) (k := 91) (by decide) (by decide)).mp q
    have hst : s.1 < t := tkd_y (f := f) (by have := q.1; omega)
    obtain ⟨g1, g2, g3, _⟩ := A.cd E
    obtain ⟨h1, e1, S1, A1⟩ := A.nx E hst
    obtain ⟨h2, e2, S2, y2, n2⟩ := HS.1 h1 (k + 1) _ A1
    have tv := tin (show 8 - (d + 1) < 2 ^ 31 by omega)
    have ee : ∀ r, Ref_must b (nI 193) h2 = some r → Ref_readPart (dd + 1) b (nI (8 - (d + 1))) h = some r := fun r hr => by
      rw [Ref_readPart_e, if_pos A.1.o, A.fine]
      simp only [Option.bind_some]
      rw [if_neg (by decide), A.1.r14, g1]
      simp only [Option.bind_some]
      rw [g2]
      unfold Ref_sign
      simp only [Option.bind_some]
      rw [if_pos (by rw [qc]; rfl), if_neg (show ¬ nI (8 - (d + 1)) = (8 : Int32) from nIne (b := 8) (by omega) (by decide) (by omega)), Ref_readPart_37_e, A.fine]
      simp only [Option.bind_some]
      rw [if_neg (by decide), g1]
      simp only [Option.bind_some]
      rw [nI_p1, e1]
      simp only [Option.bind_some]
      rw [if_pos (Nat.succ_pos dd), show dd + 1 - 1 = dd from rfl, nI_p1, show 8 - (d + 1) + 1 = 8 - d by omega, e2]
      unfold Ref_sign
      simp only [Option.bind_some]
      rw [show Ref_must b ((100 : Int32) + 93) h2 = some r from hr]
      rfl
    have er : smm (trm (prs f t o d) f t) f t (gow f t s) = smd f t o d (gow f t s) := rfl
    rw [er]
    generalize smd f t o d (gow f t s) = r at *
    by_cases g : r.1 = true
    · rw [if_pos g]
      obtain ⟨k2, hk2, A2⟩ := y2 g
      obtain ⟨h3, e3, S3, y3, n3⟩ := must_v E A2 (c := 193) (by decide) (by decide)
      have qc2 := sgp_c (s := r.2) E.2.1 (c := 93) (k := 93) (by decide) (by decide)
      refine ⟨h3, ee _ e3, (S1.tr S2).tr S3, ?_⟩
      by_cases q3 : sgp f t 93 r.2
      · rw [if_pos q3]
        exact Out.good (by omega) (y3 (qc2.mp q3))
      · rw [if_neg q3]
        exact Out.bad (n3 (fun z => q3 (qc2.mpr z)))
    · rw [if_neg g]
      have B := n2 g
      exact ⟨h2, ee _ (must_b E B _), S1.tr S2, Out.bad B⟩
  · rw [if_neg q]
    exact readLeaf_v E A q
theorem readSum_v (E : RE f t o σ0 n) : ∀ (d : Nat), d ≤ 8 → ∀ dd, 3 * d + 2 ≤ dd → RfN f t b σ0 n (Ref_readSum dd b (nI (8 - d))) (smd f t o d)
  | 0, _, dd, hdd => by
    obtain ⟨e, rfl⟩ : ∃ e, dd = e + 1 + 1 := ⟨dd - 2, by omega⟩
    exact readSum_of E (readTerm_of E (readPart_0 E))
  | d + 1, hd, dd, hdd => by
    obtain ⟨e, rfl⟩ : ∃ e, dd = e + 1 + 1 + 1 := ⟨dd - 3, by omega⟩
    exact readSum_of E (readTerm_of E (readPart_more E hd (readSum_v E d (by omega) e (by omega))))
end ReadN
