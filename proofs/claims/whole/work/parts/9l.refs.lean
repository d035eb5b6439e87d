/-! PURE: the reference splits a text into tokens -/
theorem and255 (x : Int32) : x &&& (255 : Int32) = nI (x.toInt % 256).toNat := by
  apply Int32.toBitVec_inj.mp
  rw [Int32.toBitVec_and]
  apply BitVec.eq_of_toNat_eq
  rw [BitVec.toNat_and]
  show x.toBitVec.toNat &&& 255 = (BitVec.ofNat 32 (x.toInt % 256).toNat).toNat
  rw [show (255 : Nat) = 2 ^ 8 - 1 from rfl, Nat.and_two_pow_sub_one_eq_mod, BitVec.toNat_ofNat]
  have h1 : x.toInt = x.toBitVec.toInt := rfl
  have h2 := x.toBitVec.isLt
  rw [h1, BitVec.toInt_eq_toNat_cond]
  split <;> omega
section Split
variable {f : Nat → Int32} {t b : Nat} {h : am_H} {σ : am_S}
theorem isSmall_v (x : Int32) (h : am_H) : Ref_isSmall x h = some (bI (decide (97 ≤ x ∧ x ≤ 122))) := by
  have t1 : (97 : Int32).toInt = 97 := by decide
  have t2 : (122 : Int32).toInt = 122 := by decide
  unfold Ref_isSmall
  by_cases q1 : x < 97
  · rw [if_pos q1, show bI (decide (97 ≤ x ∧ x ≤ 122)) = 0 from if_neg (fun z => by have := tile.mp (of_decide_eq_true z).1; have := tilt.mp q1; omega)]
  · rw [if_neg q1]
    by_cases q2 : (122 : Int32) < x
    · rw [if_pos q2, show bI (decide (97 ≤ x ∧ x ≤ 122)) = 0 from if_neg (fun z => by have := tile.mp (of_decide_eq_true z).2; have := tilt.mp q2; omega)]
    · rw [if_neg q2, show bI (decide (97 ≤ x ∧ x ≤ 122)) = 1 from if_pos (decide_eq_true ⟨tile.mpr (by have := mt tilt.mpr q1; omega), tile.mpr (by have := mt tilt.mpr q2; omega)⟩)]
theorem isDigit_v (x : Int32) (h : am_H) : Ref_isDigit x h = some (bI (decide (48 ≤ x ∧ x ≤ 57))) := by
  have t1 : (48 : Int32).toInt = 48 := by decide
  have t2 : (57 : Int32).toInt = 57 := by decide
  unfold Ref_isDigit
  by_cases q1 : x < 48
  · rw [if_pos q1, show bI (decide (48 ≤ x ∧ x ≤ 57)) = 0 from if_neg (fun z => by have := tile.mp (of_decide_eq_true z).1; have := tilt.mp q1; omega)]
  · rw [if_neg q1]
    by_cases q2 : (57 : Int32) < x
    · rw [if_pos q2, show bI (decide (48 ≤ x ∧ x ≤ 57)) = 0 from if_neg (fun z => by have := tile.mp (of_decide_eq_true z).2; have := tilt.mp q2; omega)]
    · rw [if_neg q2, show bI (decide (48 ≤ x ∧ x ≤ 57)) = 1 from if_pos (decide_eq_true ⟨tile.mpr (by have := mt tilt.mpr q1; omega), tile.mpr (by have := mt tilt.mpr q2; omega)⟩)]

theorem Ref_splits_43_l (H : Mo b h σ) (hT : ∀ i, i < t → σ.2.1 6 i = f i) (ht : t ≤ 400) {v2 v3 : Int32} : ∀ (m i : Nat), i + m = t → Ref_splits_43 b (nI t) v2 v3 (nI i) h = Ref_splits_68 b (nI t) v2 v3 (nI (rnw f t 97 122 m i)) h
  | 0, i, hi => by
    have ti := tin (show i < 2 ^ 31 by omega)
    have tt := tin (show t < 2 ^ 31 by omega)
    rw [Ref_splits_43_e, if_pos (tile.mpr (by omega))]
    rfl
  | m + 1, i, hi => by
    have ti := tin (show i < 2 ^ 31 by omega)
    have tt := tin (show t < 2 ^ 31 by omega)
    rw [Ref_splits_43_e, if_neg (fun z => by have := tile.mp z; omega), H.r10]
    simp only [Option.bind_some]
    rw [show aI h 1 (b + 1 + 6) (nI i) = _ from H.rd (r := 6) (by decide) (by decide) (show i < 400 by omega), hT i (by omega)]
    simp only [Option.bind_some]
    rw [isSmall_v]
    simp only [Option.bind_some]
    unfold rnw
    by_cases q : 97 ≤ f i ∧ f i ≤ 122
    · rw [if_neg (fun x => bI_0.mp x (decide_eq_true q)), nI_p1, if_pos (show i < t ∧ 97 ≤ f i ∧ f i ≤ 122 from ⟨by omega, q⟩)]
      exact Ref_splits_43_l H hT ht m (i + 1) (by omega)
    · rw [if_pos (bI_0.mpr (fun z => q (of_decide_eq_true z))), if_neg (show ¬ (i < t ∧ 97 ≤ f i ∧ f i ≤ 122) from fun z => q z.2)]
theorem Ref_splits_75_l (H : Mo b h σ) (hT : ∀ i, i < t → σ.2.1 6 i = f i) (ht : t ≤ 400) {v2 v3 : Int32} : ∀ (m i : Nat), i + m = t → Ref_splits_75 b (nI t) v2 v3 (nI i) h = Ref_splits_100 b (nI t) v2 v3 (nI (rnw f t 48 57 m i)) h
  | 0, i, hi => by
    have ti := tin (show i < 2 ^ 31 by omega)
    have tt := tin (show t < 2 ^ 31 by omega)
    rw [Ref_splits_75_e, if_pos (tile.mpr (by omega))]
    rfl
  | m + 1, i, hi => by
    have ti := tin (show i < 2 ^ 31 by omega)
    have tt := tin (show t < 2 ^ 31 by omega)
    rw [Ref_splits_75_e, if_neg (fun z => by have := tile.mp z; omega), H.r10]
    simp only [Option.bind_some]
    rw [show aI h 1 (b + 1 + 6) (nI i) = _ from H.rd (r := 6) (by decide) (by decide) (show i < 400 by omega), hT i (by omega)]
    simp only [Option.bind_some]
    rw [isDigit_v]
    simp only [Option.bind_some]
    unfold rnw
    by_cases q : 48 ≤ f i ∧ f i ≤ 57
    · rw [if_neg (fun x => bI_0.mp x (decide_eq_true q)), nI_p1, if_pos (show i < t ∧ 48 ≤ f i ∧ f i ≤ 57 from ⟨by omega, q⟩)]
      exact Ref_splits_75_l H hT ht m (i + 1) (by omega)
    · rw [if_pos (bI_0.mpr (fun z => q (of_decide_eq_true z))), if_neg (show ¬ (i < t ∧ 48 ≤ f i ∧ f i ≤ 57) from fun z => q z.2)]
theorem Ref_splits_tok (H : Mo b h σ) (hT : ∀ i, i < t → σ.2.1 6 i = f i) (ht : t ≤ 400) {k : Nat} (hk : k < t) (h32 : ¬ f k = 32) : Ref_splits_7 b (nI t) (nI k) h = Ref_splits_100 b (nI t) (nI k) (f k) (nI (tnx f t k)) h := by
  have tk := tin (show k < 2 ^ 31 by omega)
  have tt := tin (show t < 2 ^ 31 by omega)
  have k1 : (48 : Int32).toInt = 48 := by decide
  have k2 : (57 : Int32).toInt = 57 := by decide
  have k3 : (97 : Int32).toInt = 97 := by decide
  have k4 : (122 : Int32).toInt = 122 := by decide
  rw [Ref_splits_7_e, if_neg (fun z => by have := tile.mp z; omega), H.r10]
  simp only [Option.bind_some]
  rw [show aI h 1 (b + 1 + 6) (nI k) = _ from H.rd (r := 6) (by decide) (by decide) (show k < 400 by omega), hT k hk]
  simp only [Option.bind_some]
  rw [if_neg h32, isSmall_v]
  simp only [Option.bind_some]
  unfold tnx
  rw [if_neg (show ¬ t ≤ k by omega), nI_p1]
  by_cases q : 97 ≤ f k ∧ f k ≤ 122
  · rw [if_neg (fun x => bI_0.mp x (decide_eq_true q)), if_pos q, Ref_splits_43_l H hT ht (t - (k + 1)) (k + 1) (by omega), Ref_splits_68_e, isDigit_v]
    simp only [Option.bind_some]
    rw [if_pos (bI_0.mpr (fun z => by have z := of_decide_eq_true z; have := tile.mp z.2; have := tile.mp q.1; omega))]
  · rw [if_pos (bI_0.mpr (fun z => q (of_decide_eq_true z))), if_neg q, Ref_splits_68_e, isDigit_v]
    simp only [Option.bind_some]
    by_cases q2 : 48 ≤ f k ∧ f k ≤ 57
    · rw [if_neg (fun x => bI_0.mp x (decide_eq_true q2)), if_pos q2, Ref_splits_75_l H hT ht (t - (k + 1)) (k + 1) (by omega)]
    · rw [if_pos (bI_0.mpr (fun z => q2 (of_decide_eq_true z))), if_neg q2]
theorem Ref_splits_169_l {j to : Nat} (hj : j < 401) (hto : to ≤ t) (ht : t ≤ 400) {x : Int32} (hx : 48 ≤ x ∧ x ≤ 57) : ∀ (m i a : Nat) (h : am_H) (σ : am_S), i + m = to → Mo b h σ → (∀ i, i < t → σ.2.1 6 i = f i) → σ.1 17 = nI j → (∀ q, i ≤ q → q < to → 48 ≤ (f q).toInt ∧ (f q).toInt ≤ 57) → σ.2.1 9 j = nI a → a ≤ 10000100 → ∃ h2 y, Ref_splits_169 b (nI t) x (nI to) (nI i) h = Ref_splits_247 b (nI t) (nI to) h2 ∧ Mo b h2 (σ.1, u2 σ.2.1 9 j y, σ.2.2) ∧ Same b h h2 ∧ y = nI (rbv f m i a)
  | 0, i, a, h, σ, hi, H, hT, h17, hd, hv, ha => by
    have ti := tin (show i < 2 ^ 31 by omega)
    have tt := tin (show to < 2 ^ 31 by omega)
    refine ⟨h, nI a, ?_, ?_, Same.rf, rfl⟩
    · rw [Ref_splits_169_e, if_pos (tile.mpr (by omega))]
    · have e : u2 σ.2.1 9 j (nI a) = σ.2.1 := by
        funext r
        unfold u2
        by_cases q : r = 9
        · rw [if_pos q, q]
          funext z
          unfold upd
          by_cases q2 : z = j
          · rw [if_pos q2, q2, hv]
          · rw [if_neg q2]
        · rw [if_neg q]
      rw [e]
      exact H
  | m + 1, i, a, h, σ, hi, H, hT, h17, hd, hv, ha => by
    have ti := tin (show i < 2 ^ 31 by omega)
    have tt := tin (show to < 2 ^ 31 by omega)
    have ta := tin (show a < 2 ^ 31 by omega)
    have tM : (1000000 : Int32).toInt = 1000000 := by decide
    obtain ⟨d1, d2⟩ := hd i (Nat.le_refl _) (by omega)
    have step : ∀ z : Int32, ∃ h2, sI h (b + 1 + 9) (nI j) z = some h2 ∧ Mo b h2 (σ.1, u2 σ.2.1 9 j z, σ.2.2) ∧ Same b h h2 := fun z => H.wr (r := 9) (by decide) (by decide) rfl (show j < 401 from hj) z
    have fin : ∀ (a2 : Nat), a2 ≤ 10000100 → ∃ h2 y, Ref_splits_240 b (nI t) x (nI to) (nI i) (nI a2) (nI j) (b + 1 + 9) h = Ref_splits_247 b (nI t) (nI to) h2 ∧ Mo b h2 (σ.1, u2 σ.2.1 9 j y, σ.2.2) ∧ Same b h h2 ∧ y = nI (rbv f m (i + 1) a2) := fun a2 ha2 => by
      obtain ⟨h1, e1, M1, S1⟩ := step (nI a2)
      obtain ⟨h2, y, e2, M2, S2, y2⟩ := Ref_splits_169_l hj hto ht hx m (i + 1) a2 h1 _ (by omega) M1 (fun q hq => hT q hq) h17 (fun q h1 h2 => hd q (by omega) h2) (by show upd (σ.2.1 9) j (nI a2) j = nI a2; exact if_pos rfl) ha2
      refine ⟨h2, y, ?_, ?_, S1.tr S2, y2⟩
      · rw [Ref_splits_240_e, e1]
        simp only [Option.bind_some]
        rw [nI_p1]
        exact e2
      · have e : u2 (u2 σ.2.1 9 j (nI a2)) 9 j y = u2 σ.2.1 9 j y := by
          funext r
          unfold u2
          by_cases q : r = 9
          · rw [if_pos q, if_pos q, if_pos rfl]
            funext z
            unfold upd
            by_cases q2 : z = j
            · rw [if_pos q2, if_pos q2]
            · rw [if_neg q2, if_neg q2, if_neg q2]
          · rw [if_neg q, if_neg q, if_neg q]
        rw [← e]
        exact M2
    have rv : aI h 0 (b + 1 + 9) (nI j) = some (nI a) := by
      rw [show aI h 0 (b + 1 + 9) (nI j) = _ from H.rd (r := 9) (by decide) (by decide) (show j < 401 from hj), hv]
    rw [Ref_splits_169_e, if_neg (fun z => by have := tile.mp z; omega), isDigit_v]
    simp only [Option.bind_some]
    rw [if_neg (fun y => bI_0.mp y (decide_eq_true hx)), H.r15, H.i17, h17]
    simp only [Option.bind_some]
    rw [rv]
    simp only [Option.bind_some]
    unfold rbv
    by_cases q : 1000000 < a
    · rw [if_neg (fun z => by have := tile.mp z; omega), if_pos q]
      exact fin a ha
    · rw [if_pos (tile.mpr (by omega)), if_neg q, H.r10]
      simp only [Option.bind_some]
      rw [show aI h 1 (b + 1 + 6) (nI i) = _ from H.rd (r := 6) (by decide) (by decide) (show i < 400 by omega), hT i (by omega)]
      simp only [Option.bind_some]
      have fx : f i = nI (f i).toInt.toNat := by
        apply Int32.toInt_inj.mp
        rw [tin (show (f i).toInt.toNat < 2 ^ 31 by omega)]; omega
      have e : (10 : Int32) * nI a + f i - (48 : Int32) = nI (10 * a + (f i).toInt.toNat - 48) := by
        conv => lhs; rw [fx]
        rw [show (10 : Int32) * nI a = nI (10 * a) from pk_mul 10 a, nI_add]
        exact pk_sub (a := 10 * a + (f i).toInt.toNat) (b := 48) (by omega)
      rw [e]
      exact fin _ (by omega)
theorem Ref_splits_100_v {k j : Nat} (H : Mo b h σ) (hW : WdR σ) (hT : ∀ i, i < t → σ.2.1 6 i = f i) (ht : t ≤ 400) (hk : k < t) (hj : j < 401) (h17 : σ.1 17 = nI j) : ∃ h2 σ2, Ref_splits_100 b (nI t) (nI k) (f k) (nI (tnx f t k)) h = Ref_splits_7 b (nI t) (nI (tnx f t k)) h2 ∧ Mo b h2 σ2 ∧ Same b h h2 ∧ Lk [17] [8, 9, 10] σ σ2 ∧ σ2.1 17 = nI (j + 1) ∧ (∀ r i, ¬ i = j → σ2.2.1 r i = σ.2.1 r i) ∧ σ2.2.1 10 j = nI k ∧ σ2.2.1 8 j = nI (cdN f t k) ∧ σ2.2.1 9 j = nI (vlN f t k) := by
  have hto := tnx_le (f := f) (Nat.le_of_lt hk)
  have hto2 := hto.2 hk
  have k1 : (48 : Int32).toInt = 48 := by decide
  have k2 : (57 : Int32).toInt = 57 := by decide
  have k3 : (97 : Int32).toInt = 97 := by decide
  have k4 : (122 : Int32).toInt = 122 := by decide
  obtain ⟨h1, e1, M1, S1⟩ := H.wr (r := 10) (i := j) (by decide) (by decide) rfl hj (nI k)
  obtain ⟨h2, e2, M2, S2⟩ := M1.wr (r := 9) (i := j) (by decide) (by decide) rfl hj (0 : Int32)
  have T2 : ∀ i, i < t → (u2 (u2 σ.2.1 10 j (nI k)) 9 j (0 : Int32)) 6 i = f i := fun i hi => hT i hi
  obtain ⟨h3, e3, M3, S3⟩ := M2.wr (r := 8) (i := j) (by decide) (by decide) rfl hj (nI (cdN f t k))
  have T3 : ∀ i, i < t → (u2 (u2 (u2 σ.2.1 10 j (nI k)) 9 j (0 : Int32)) 8 j (nI (cdN f t k))) 6 i = f i := fun i hi => hT i hi
  have E : Ref_splits_100 b (nI t) (nI k) (f k) (nI (tnx f t k)) h = Ref_splits_169 b (nI t) (f k) (nI (tnx f t k)) (nI k) h3 := by
    rw [Ref_splits_100_e, H.r16, H.i17, h17]
    simp only [Option.bind_some]
    rw [e1]
    simp only [Option.bind_some]
    rw [M1.r15, M1.i17, show (σ.1, u2 σ.2.1 10 j (nI k), σ.2.2).1 17 = nI j from h17]
    simp only [Option.bind_some]
    rw [show sI h1 (b + 1 + 9) (nI j) (0 : Int32) = _ from e2]
    simp only [Option.bind_some]
    rw [M2.r14, M2.i17, show (σ.1, u2 (u2 σ.2.1 10 j (nI k)) 9 j (0 : Int32), σ.2.2).1 17 = nI j from h17]
    simp only [Option.bind_some]
    rw [isSmall_v, isDigit_v]
    simp only [Option.bind_some]
    have fin : Ref_splits_165 b (nI t) (nI k) (f k) (nI (tnx f t k)) (nI (cdN f t k)) (nI j) (b + 1 + 8) h2 = Ref_splits_169 b (nI t) (f k) (nI (tnx f t k)) (nI k) h3 := by
      rw [Ref_splits_165_e, show sI h2 (b + 1 + 8) (nI j) (nI (cdN f t k)) = _ from e3]
      rfl
    by_cases q : 97 ≤ f k ∧ f k ≤ 122
    · rw [if_neg (fun x => bI_0.mp x (decide_eq_true q))]
      have ew : Ref_wordOf b (nI k) (nI (tnx f t k)) h2 = some (nI (cdN f t k)) := by
        have w := Ref_wordOf_v (y := k) (n := tnx f t k - k) M2 (fun i hi => hW i hi) T2 (by omega) ht
        rw [show k + (tnx f t k - k) = tnx f t k by omega] at w
        rw [w]
        unfold cdN
        rw [if_pos (show tkd f t k = 1 from (if_neg (by omega)).trans (if_pos q))]
      rw [ew]
      simp only [Option.bind_some]
      exact fin
    · rw [if_pos (bI_0.mpr (fun z => q (of_decide_eq_true z)))]
      by_cases q2 : 48 ≤ f k ∧ f k ≤ 57
      · rw [if_neg (fun x => bI_0.mp x (decide_eq_true q2))]
        have ec : cdN f t k = 50 := (cdN_2 (f := f)).mp ((if_neg (by omega)).trans ((if_neg q).trans (if_pos q2)))
        rw [show (50 : Int32) = nI (cdN f t k) by rw [ec]; rfl]
        exact fin
      · rw [if_pos (bI_0.mpr (fun z => q2 (of_decide_eq_true z)))]
        have ec : (100 : Int32) + (f k &&& (255 : Int32)) = nI (cdN f t k) := by
          unfold cdN
          have tk3 : tkd f t k = 3 := (if_neg (by omega)).trans ((if_neg q).trans (if_neg q2))
          rw [if_neg (by omega), if_neg (by omega), if_pos tk3, and255]
          exact nI_add 100 _
        rw [ec]
        exact fin
  rw [E]
  have t17 : ((σ.1, u2 (u2 (u2 σ.2.1 10 j (nI k)) 9 j (0 : Int32)) 8 j (nI (cdN f t k)), σ.2.2) : am_S).1 17 = nI j := h17
  have fin2 : ∀ (h4 : am_H) (y : Int32), Mo b h4 (σ.1, u2 (u2 (u2 (u2 σ.2.1 10 j (nI k)) 9 j (0 : Int32)) 8 j (nI (cdN f t k))) 9 j y, σ.2.2) → Same b h3 h4 → y = nI (vlN f t k) → ∃ h2 σ2, Ref_splits_247 b (nI t) (nI (tnx f t k)) h4 = Ref_splits_7 b (nI t) (nI (tnx f t k)) h2 ∧ Mo b h2 σ2 ∧ Same b h h2 ∧ Lk [17] [8, 9, 10] σ σ2 ∧ σ2.1 17 = nI (j + 1) ∧ (∀ r i, ¬ i = j → σ2.2.1 r i = σ.2.1 r i) ∧ σ2.2.1 10 j = nI k ∧ σ2.2.1 8 j = nI (cdN f t k) ∧ σ2.2.1 9 j = nI (vlN f t k) := fun h4 y M4 S4 hy => by
    obtain ⟨h5, e5, M5, S5⟩ := M4.w17 (nI (j + 1))
    refine ⟨h5, _, ?_, M5, ((S1.tr S2).tr S3).tr (S4.tr S5), ⟨fun q hq => ?_, fun q hq => ?_, rfl⟩, (show upd σ.1 17 (nI (j + 1)) 17 = nI (j + 1) from if_pos rfl), fun r i hi => ?_, ?_, ?_, ?_⟩
    · rw [Ref_splits_247_e, M4.i17, show σ.1 17 = nI j from h17]
      simp only [Option.bind_some]
      rw [nI_p1, e5]
      rfl
    · exact if_neg (fun z => hq (by rw [z]; decide))
    · show u2 (u2 (u2 (u2 σ.2.1 10 j (nI k)) 9 j (0 : Int32)) 8 j (nI (cdN f t k))) 9 j y q = σ.2.1 q
      unfold u2
      rw [if_neg (fun z => hq (by rw [z]; decide)), if_neg (fun z => hq (by rw [z]; decide)), if_neg (fun z => hq (by rw [z]; decide)), if_neg (fun z => hq (by rw [z]; decide))]
    · have U : ∀ (A : Nat → Nat → Int32) (r2 : Nat) (x : Int32), u2 A r2 j x r i = A r i := fun A r2 x => by
        unfold u2
        by_cases q : r = r2
        · rw [if_pos q, q]; exact if_neg hi
        · rw [if_neg q]
      show u2 (u2 (u2 (u2 σ.2.1 10 j (nI k)) 9 j (0 : Int32)) 8 j (nI (cdN f t k))) 9 j y r i = σ.2.1 r i
      rw [U, U, U, U]
    · show upd (σ.2.1 10) j (nI k) j = nI k
      exact if_pos rfl
    · show upd (σ.2.1 8) j (nI (cdN f t k)) j = _
      exact if_pos rfl
    · show upd _ j y j = _
      rw [hy]
      exact if_pos rfl
  by_cases q2 : 48 ≤ f k ∧ f k ≤ 57
  · have tk2 : tkd f t k = 2 := (if_neg (by omega)).trans ((if_neg (fun z => by have := tile.mp z.1; have := tile.mp q2.2; omega)).trans (if_pos q2))
    obtain ⟨_, hd⟩ := tkd_2 (f := f) (t := t) (y := k) tk2
    obtain ⟨h4, y, e4, M4, S4, hy⟩ := Ref_splits_169_l (f := f) (t := t) hj hto.1 ht q2 (tnx f t k - k) k 0 h3 _ (by omega) M3 T3 t17 hd (by show upd (u2 σ.2.1 10 j (nI k) 9) j (0 : Int32) j = nI 0; exact if_pos rfl) (by omega)
    rw [e4]
    exact fin2 h4 y M4 S4 (by rw [hy]; unfold vlN; rw [if_pos tk2])
  · have tk2 : ¬ tkd f t k = 2 := by
      unfold tkd
      rw [if_neg (show ¬ t ≤ k by omega)]
      by_cases q : 97 ≤ f k ∧ f k ≤ 122
      · rw [if_pos q]; decide
      · rw [if_neg q, if_neg q2]; decide
    have e169 : Ref_splits_169 b (nI t) (f k) (nI (tnx f t k)) (nI k) h3 = Ref_splits_247 b (nI t) (nI (tnx f t k)) h3 := by
      have ti := tin (show k < 2 ^ 31 by omega)
      have tt := tin (show tnx f t k < 2 ^ 31 by omega)
      rw [Ref_splits_169_e, if_neg (fun z => by have := tile.mp z; omega), isDigit_v]
      simp only [Option.bind_some]
      rw [if_pos (bI_0.mpr (fun z => q2 (of_decide_eq_true z)))]
    rw [e169]
    refine fin2 h3 (0 : Int32) ?_ Same.rf ?_
    · have e : u2 (u2 (u2 (u2 σ.2.1 10 j (nI k)) 9 j (0 : Int32)) 8 j (nI (cdN f t k))) 9 j (0 : Int32) = u2 (u2 (u2 σ.2.1 10 j (nI k)) 9 j (0 : Int32)) 8 j (nI (cdN f t k)) := by
        funext r
        by_cases q : r = 9
        · subst q
          funext z
          show upd (upd (σ.2.1 9) j (0 : Int32)) j (0 : Int32) z = upd (σ.2.1 9) j (0 : Int32) z
          unfold upd
          by_cases q3 : z = j
          · rw [if_pos q3, if_pos q3]
          · rw [if_neg q3, if_neg q3]
        · exact if_neg q
      rw [e]; exact M3
    · unfold vlN; rw [if_neg tk2]; rfl
/-- the tokens lie in the rows, n of them -/
def Tks (f : Nat → Int32) (t : Nat) (σ : am_S) (n : Nat) : Prop := ∀ i, i < n → plc f t i < t ∧ σ.2.1 10 i = nI (plc f t i) ∧ σ.2.1 8 i = nI (cdN f t (plc f t i)) ∧ σ.2.1 9 i = nI (vlN f t (plc f t i))
def TkE (f : Nat → Int32) (t : Nat) (σ : am_S) (n : Nat) : Prop := n ≤ 400 ∧ Tks f t σ n ∧ plc f t n = t ∧ σ.2.1 10 n = nI t ∧ σ.2.1 8 n = nI 0 ∧ σ.2.1 9 n = nI 0 ∧ σ.1 17 = nI n
theorem skw_t {x : Nat} (h : t ≤ x) : skw f t x = x := by
  unfold skw
  rw [show t - x = 0 by omega]
  rfl
theorem skw_s {x : Nat} (h : x < t) : skw f t x = if f x = 32 then skw f t (x + 1) else x := by
  unfold skw
  rw [show t - x = t - (x + 1) + 1 by omega]
  show (if x < t ∧ f x = 32 then skp f t (t - (x + 1)) (x + 1) else x) = _
  by_cases q : f x = 32
  · rw [if_pos ⟨h, q⟩, if_pos q]
  · rw [if_neg (fun z => q z.2), if_neg q]
theorem Ref_splits_7_l (ht : t ≤ 400) {σ0 : am_S} (hW : WdR σ0) (hT : ∀ i, i < t → σ0.2.1 6 i = f i) : ∀ (m k j : Nat) (h : am_H) (σ : am_S), t - k ≤ m → k ≤ t → Mo b h σ → σ.1 17 = nI j → Tks f t σ j → Lk [17] [8, 9, 10] σ0 σ → j ≤ k → plc f t j = skw f t k → ∃ h2 σ2 n, Ref_splits_7 b (nI t) (nI k) h = some h2 ∧ Mo b h2 σ2 ∧ Same b h h2 ∧ Lk [17] [8, 9, 10] σ0 σ2 ∧ TkE f t σ2 n := by
  intro m
  have tt := tin (show t < 2 ^ 31 by omega)
  induction m with
  | zero =>
    intro k j h σ hm hk H h17 HT L hj hp
    have hk : k = t := by omega
    subst hk
    rw [skw_t (Nat.le_refl _)] at hp
    obtain ⟨h1, e1, M1, S1⟩ := H.wr (r := 10) (i := j) (by decide) (by decide) rfl (show j < 401 by omega) (nI k)
    obtain ⟨h2, e2, M2, S2⟩ := M1.wr (r := 8) (i := j) (by decide) (by decide) rfl (show j < 401 by omega) (0 : Int32)
    obtain ⟨h3, e3, M3, S3⟩ := M2.wr (r := 9) (i := j) (by decide) (by decide) rfl (show j < 401 by omega) (0 : Int32)
    refine ⟨h3, _, j, ?_, M3, (S1.tr S2).tr S3, ⟨L.1, fun q hq => ?_, L.2.2⟩, by omega, fun i hi => ?_, hp, if_pos rfl, if_pos rfl, if_pos rfl, h17⟩
    · rw [Ref_splits_7_e, if_pos (tile.mpr (Int.le_refl _)), H.r16, H.i17, h17]
      simp only [Option.bind_some]
      rw [e1]
      simp only [Option.bind_some]
      rw [M1.r14, M1.i17, show σ.1 17 = nI j from h17]
      simp only [Option.bind_some]
      rw [e2]
      simp only [Option.bind_some]
      rw [M2.r15, M2.i17, show σ.1 17 = nI j from h17]
      simp only [Option.bind_some]
      rw [e3]
      rfl
    · rw [← L.2.1 q hq]
      show u2 (u2 (u2 σ.2.1 10 j (nI k)) 8 j (0 : Int32)) 9 j (0 : Int32) q = σ.2.1 q
      unfold u2
      rw [if_neg (fun z => hq (by rw [z]; decide)), if_neg (fun z => hq (by rw [z]; decide)), if_neg (fun z => hq (by rw [z]; decide))]
    · have U : ∀ (A : Nat → Nat → Int32) (r r2 : Nat) (x : Int32), u2 A r2 j x r i = A r i := fun A r r2 x => by
        unfold u2
        by_cases q : r = r2
        · rw [if_pos q, q]; exact if_neg (show ¬ i = j by omega)
        · rw [if_neg q]
      have := HT i hi
      show _ ∧ u2 (u2 (u2 σ.2.1 10 j (nI k)) 8 j (0 : Int32)) 9 j (0 : Int32) 10 i = _ ∧ u2 (u2 (u2 σ.2.1 10 j (nI k)) 8 j (0 : Int32)) 9 j (0 : Int32) 8 i = _ ∧ u2 (u2 (u2 σ.2.1 10 j (nI k)) 8 j (0 : Int32)) 9 j (0 : Int32) 9 i = _
      simp only [U]
      exact this
  | succ m ih =>
    intro k j h σ hm hk H h17 HT L hj hp
    by_cases q : t ≤ k
    · exact ih k j h σ (by omega) hk H h17 HT L hj hp
    · have T1 : ∀ i, i < t → σ.2.1 6 i = f i := fun i hi => by rw [L.2.1 6 (by decide)]; exact hT i hi
      have W1 : WdR σ := fun i hi => by rw [L.2.1 5 (by decide)]; exact hW i hi
      have tk := tin (show k < 2 ^ 31 by omega)
      rw [skw_s (by omega)] at hp
      by_cases q2 : f k = 32
      · rw [if_pos q2] at hp
        rw [Ref_splits_7_e, if_neg (fun z => by have := tile.mp z; omega), H.r10]
        simp only [Option.bind_some]
        rw [show aI h 1 (b + 1 + 6) (nI k) = _ from H.rd (r := 6) (by decide) (by decide) (show k < 400 by omega), T1 k (by omega)]
        simp only [Option.bind_some]
        rw [if_pos q2, nI_p1]
        exact ih (k + 1) j h σ (by omega) (by omega) H h17 HT L (by omega) hp
      · rw [if_neg q2] at hp
        have hto := tnx_le (f := f) (show k ≤ t by omega)
        have hto2 := hto.2 (by omega)
        rw [Ref_splits_tok H T1 ht (by omega) q2]
        obtain ⟨h1, σ1, e1, M1, S1, L1, g17, gr, g10, g8, g9⟩ := Ref_splits_100_v H W1 T1 ht (show k < t by omega) (show j < 401 by omega) h17
        obtain ⟨h2, σ2, n, e2, M2, S2, L2, E⟩ := ih (tnx f t k) (j + 1) h1 σ1 (by omega) hto.1 M1 g17 (fun i hi => by
          by_cases e : i = j
          · rw [e, hp]; exact ⟨by omega, g10, g8, g9⟩
          · have := HT i (by omega)
            rw [gr _ _ e, gr _ _ e, gr _ _ e]
            exact this) (L.tr L1) (by omega) (by show skw f t (tnx f t (plc f t j)) = _; rw [hp])
        exact ⟨h2, σ2, n, e1.trans e2, M2, S1.tr S2, L2, E⟩
theorem Ref_splits_v (ht : t ≤ 400) (H : Mo b h σ) (hW : WdR σ) (hT : ∀ i, i < t → σ.2.1 6 i = f i) : ∃ h2 σ2 n, Ref_splits b (nI t) h = some h2 ∧ Mo b h2 σ2 ∧ Same b h h2 ∧ Lk [17] [8, 9, 10] σ σ2 ∧ TkE f t σ2 n := by
  obtain ⟨h1, e1, M1, S1⟩ := H.w17 (0 : Int32)
  obtain ⟨h2, σ2, n, e2, M2, S2, L2, E⟩ := Ref_splits_7_l (f := f) (t := t) (b := b) ht hW hT t 0 0 h1 _ (by omega) (Nat.zero_le _) M1 (show upd σ.1 17 (0 : Int32) 17 = nI 0 from if_pos rfl) (fun i hi => by omega) ⟨fun q hq => if_neg (fun z => hq (by rw [z]; decide)), fun _ _ => rfl, rfl⟩ (Nat.le_refl _) rfl
  refine ⟨h2, σ2, n, ?_, M2, S1.tr S2, L2, E⟩
  unfold Ref_splits
  rw [if_pos H.o, e1]
  exact e2
end Split
