/-! PURE: the clauses of a law, what each means; the class's code of each -/
/-- where the clauses begin -/
def cls (f : Nat → Int32) (t : Nat) (o : Int32) : Nat → CSt → List CSt
  | 0, _ => []
  | m + 1, S => S :: (if (rcl f t o S).2.1.1 = t then [] else cls f t o m (gow f t (rcl f t o S).2.1, (rcl f t o S).2.2))
/-- what lies below b is kept -/
def ckb (b : Nat) (S Z : CSt) : Prop := kpp S.1 Z.1 ∧ (∀ i, i < b → Z.2.2.1 i = S.2.2.1 i ∧ Z.2.2.2.2.1 i = S.2.2.2.2.1 i ∧ Z.2.2.2.2.2 i = S.2.2.2.2.2 i) ∧ ∀ i, i < b * 3 → Z.2.2.2.1 i = S.2.2.2.1 i
theorem ckb.rf {b : Nat} {S : CSt} : ckb b S S := ⟨kpp.rf, fun _ _ => ⟨rfl, rfl, rfl⟩, fun _ _ => rfl⟩
theorem ckb.tr {b : Nat} {S Y Z : CSt} (h1 : ckb b S Y) (h2 : ckb b Y Z) : ckb b S Z := ⟨h1.1.tr h2.1, fun i hi => by
  obtain ⟨a1, a2, a3⟩ := h1.2.1 i hi
  obtain ⟨c1, c2, c3⟩ := h2.2.1 i hi
  exact ⟨c1.trans a1, c2.trans a2, c3.trans a3⟩, fun i hi => (h2.2.2 i hi).trans (h1.2.2 i hi)⟩
theorem ckb.mono {b c : Nat} {S Z : CSt} (h : ckb c S Z) (hb : b ≤ c) : ckb b S Z := ⟨h.1, fun i hi => h.2.1 i (by omega), fun i hi => h.2.2 i (by omega)⟩
section Claus
variable {f : Nat → Int32} {t : Nat} {o : Int32}
def Pk (P : CSt → Bool × CSt) : Prop := ∀ S : CSt, 1 ≤ S.2.1 → ckb (S.2.1 - 1) S (P S).2 ∧ (P S).2.2.1 = S.2.1
theorem Pk_thn {P Q : CSt → Bool × CSt} (H : Pk P) (K : Pk Q) : Pk (thn P Q) := by
  intro S hc
  obtain ⟨h1, h2⟩ := H S hc
  unfold thn
  by_cases q : (P S).1 = true
  · rw [if_pos q]
    obtain ⟨k1, k2⟩ := K (P S).2 (by omega)
    rw [h2] at k1 k2
    exact ⟨h1.tr k1, k2⟩
  · rw [if_neg q]; exact ⟨h1, h2⟩
theorem Pk_rsm (i : Nat) (hi : i < 3) : Pk (rsm f t o i) := by
  intro S hc
  refine ⟨⟨(Kp_smd 8 S.1).tr kpp.em, fun _ _ => ⟨rfl, rfl, rfl⟩, fun j hj => ?_⟩, rfl⟩
  exact if_neg (show ¬ j = (S.2.1 - 1) * 3 + i by omega)
theorem Pk_rif : Pk (rif f t o) := by
  intro S hc
  unfold rif
  by_cases q : wdp f t 6 S.1
  · rw [if_pos q]
    refine ⟨⟨(kpp.go (f := f) (t := t)).tr ((Kp_tss 8 (gow f t S.1)).tr kpp.em), fun j hj => ⟨rfl, ?_, rfl⟩, fun _ _ => rfl⟩, rfl⟩
    exact if_neg (show ¬ j = S.2.1 - 1 by omega)
  · rw [if_neg q]; exact ⟨ckb.rf, rfl⟩
theorem Pk_rtm : Pk (rtm f t) := by
  intro S hc
  unfold rtm
  by_cases q : wdp f t 5 S.1
  · rw [if_pos q]
    by_cases q2 : tkd f t (gow f t S.1).1 = 2 ∧ 1 ≤ nmv f t (gow f t S.1) ∧ nmv f t (gow f t S.1) ≤ 20
    · rw [if_pos q2]
      refine ⟨⟨(kpp.go (f := f) (t := t)).tr kpp.go, fun j hj => ⟨rfl, rfl, ?_⟩, fun _ _ => rfl⟩, rfl⟩
      exact if_neg (show ¬ j = S.2.1 - 1 by omega)
    · rw [if_neg q2]
      exact ⟨⟨kpp.go, fun _ _ => ⟨rfl, rfl, rfl⟩, fun _ _ => rfl⟩, rfl⟩
  · rw [if_neg q]; exact ⟨ckb.rf, rfl⟩
theorem Pk_tkw (w : Nat) : Pk (tkw f t w) := by
  intro S hc
  unfold tkw
  by_cases q : wdp f t w S.1
  · rw [if_pos q]; exact ⟨⟨kpp.go, fun _ _ => ⟨rfl, rfl, rfl⟩, fun _ _ => rfl⟩, rfl⟩
  · rw [if_neg q]; exact ⟨ckb.rf, rfl⟩
theorem bgn_k (kd : Int32) (S : CSt) : ckb S.2.1 S (bgn f t kd S) := by
  refine ⟨kpp.go, fun j hj => ⟨?_, ?_, ?_⟩, fun _ _ => rfl⟩
  · exact if_neg (show ¬ j = S.2.1 by omega)
  · exact if_neg (show ¬ j = S.2.1 by omega)
  · exact if_neg (show ¬ j = S.2.1 by omega)
theorem Pk.b {P : CSt → Bool × CSt} (H : Pk P) (kd : Int32) (S : CSt) : ckb S.2.1 S (P (bgn f t kd S)).2 ∧ (P (bgn f t kd S)).2.2.1 = S.2.1 + 1 := by
  obtain ⟨h1, h2⟩ := H (bgn f t kd S) (Nat.succ_pos _)
  exact ⟨(bgn_k kd S).tr h1, h2⟩
theorem rru_k (S : CSt) : ckb S.2.1 S (rru f t o S).2 ∧ ((rru f t o S).1 = true → (rru f t o S).2.2.1 = S.2.1 + 1) := by
  unfold rru
  by_cases q : amg f t 10 S.1 = -1
  · rw [if_pos q]; exact ⟨ckb.rf, fun z => absurd z Bool.false_ne_true⟩
  · rw [if_neg q]
    by_cases q2 : amg f t 10 S.1 = 2
    · rw [if_pos q2]
      obtain ⟨h1, h2⟩ := (Pk_rif (f := f) (t := t) (o := o)).b (amg f t 10 S.1) S
      exact ⟨h1, fun _ => h2⟩
    · rw [if_neg q2]
      obtain ⟨h1, h2⟩ := (Pk_thn (Pk_rsm (f := f) (t := t) (o := o) 0 (by decide)) Pk_rif).b (amg f t 10 S.1) S
      exact ⟨h1, fun _ => h2⟩
theorem ror_k (S : CSt) : ckb S.2.1 S (ror f t o S).2 ∧ ((ror f t o S).1 = true → (ror f t o S).2.2.1 = S.2.1 + 1) := by
  unfold ror
  by_cases q : amg f t 0 S.1 = -1
  · rw [if_pos q]; exact ⟨ckb.rf, fun z => absurd z Bool.false_ne_true⟩
  · rw [if_neg q]
    have R0 := Pk_rsm (f := f) (t := t) (o := o) 0 (by decide)
    have R1 := Pk_rsm (f := f) (t := t) (o := o) 1 (by decide)
    have R2 := Pk_rsm (f := f) (t := t) (o := o) 2 (by decide)
    have E := Pk_thn (Pk_rtm (f := f) (t := t)) (Pk_rif (f := f) (t := t) (o := o))
    by_cases q2 : amg f t 0 S.1 = 1
    · rw [if_pos q2]
      obtain ⟨h1, h2⟩ := (Pk_thn R0 (Pk_thn (Pk_tkw 3) (Pk_thn R1 (Pk_thn (Pk_tkw 4) (Pk_thn R2 E))))).b (amg f t 0 S.1) S
      exact ⟨h1, fun _ => h2⟩
    · rw [if_neg q2]
      by_cases q3 : amg f t 0 S.1 = 2
      · rw [if_pos q3]
        obtain ⟨h1, h2⟩ := (Pk_thn R0 (Pk_thn (Pk_tkw 4) (Pk_thn R1 E))).b (amg f t 0 S.1) S
        exact ⟨h1, fun _ => h2⟩
      · rw [if_neg q3]
        obtain ⟨h1, h2⟩ := (Pk_thn R0 E).b (amg f t 0 S.1) S
        exact ⟨h1, fun _ => h2⟩
theorem rcl_k (S : CSt) : ckb S.2.1 S (rcl f t o S).2 ∧ ((rcl f t o S).1 = true → (rcl f t o S).2.2.1 = S.2.1 + 1) := by
  unfold rcl
  by_cases q : o = 0
  · rw [if_pos q]; exact rru_k S
  · rw [if_neg q]; exact ror_k S
/-- a text read well: how its first clause goes, and the rest -/
theorem rdL_good {m : Nat} {S : CSt} (h : (rdL f t o (m + 1) S).1 = true) : (rcl f t o S).1 = true ∧ (((rcl f t o S).2.1.1 = t ∧ rdL f t o (m + 1) S = (true, (rcl f t o S).2) ∧ cls f t o (m + 1) S = [S]) ∨ (¬ (rcl f t o S).2.1.1 = t ∧ sgp f t 59 (rcl f t o S).2.1 ∧ rdL f t o (m + 1) S = rdL f t o m (gow f t (rcl f t o S).2.1, (rcl f t o S).2.2) ∧ cls f t o (m + 1) S = S :: cls f t o m (gow f t (rcl f t o S).2.1, (rcl f t o S).2.2))) := by
  have er : rdL f t o (m + 1) S = if (rcl f t o S).1 = true then (if (rcl f t o S).2.1.1 = t then (true, (rcl f t o S).2) else if sgp f t 59 (rcl f t o S).2.1 then rdL f t o m (gow f t (rcl f t o S).2.1, (rcl f t o S).2.2) else (false, (rcl f t o S).2)) else (false, (rcl f t o S).2) := rfl
  have ec : cls f t o (m + 1) S = S :: (if (rcl f t o S).2.1.1 = t then [] else cls f t o m (gow f t (rcl f t o S).2.1, (rcl f t o S).2.2)) := rfl
  rw [er] at h ⊢
  rw [ec]
  by_cases q : (rcl f t o S).1 = true
  · rw [if_pos q] at h ⊢
    refine ⟨q, ?_⟩
    by_cases q2 : (rcl f t o S).2.1.1 = t
    · rw [if_pos q2, if_pos q2]; exact Or.inl ⟨q2, rfl, rfl⟩
    · rw [if_neg q2] at h ⊢
      rw [if_neg q2]
      by_cases q3 : sgp f t 59 (rcl f t o S).2.1
      · rw [if_pos q3]; exact Or.inr ⟨q2, q3, rfl, rfl⟩
      · rw [if_neg q3] at h; exact absurd h Bool.false_ne_true
  · rw [if_neg q] at h; exact absurd h Bool.false_ne_true
theorem rdL_k : ∀ (m : Nat) (S : CSt), (rdL f t o m S).1 = true → ckb S.2.1 S (rdL f t o m S).2 ∧ (rdL f t o m S).2.2.1 = S.2.1 + (cls f t o m S).length ∧ 1 ≤ (cls f t o m S).length
  | 0, S, h => absurd h Bool.false_ne_true
  | m + 1, S, h => by
    obtain ⟨g, r⟩ := rdL_good h
    obtain ⟨k1, k2⟩ := rcl_k (f := f) (t := t) (o := o) S
    have k2 := k2 g
    rcases r with ⟨q, e1, e2⟩ | ⟨q, q3, e1, e2⟩
    · rw [e1, e2]; exact ⟨k1, k2, Nat.le_refl _⟩
    · rw [e1] at h ⊢
      obtain ⟨i1, i2, i3⟩ := rdL_k m _ h
      have hc : (gow f t (rcl f t o S).2.1, (rcl f t o S).2.2).2.1 = S.2.1 + 1 := k2
      have kg : ckb S.2.1 S (gow f t (rcl f t o S).2.1, (rcl f t o S).2.2) := k1.tr ⟨kpp.go, fun _ _ => ⟨rfl, rfl, rfl⟩, fun _ _ => rfl⟩
      rw [hc] at i1 i2
      refine ⟨kg.tr (i1.mono (Nat.le_succ _)), ?_, ?_⟩
      · rw [i2, e2, List.length_cons]; omega
      · rw [e2, List.length_cons]; omega
/-- what holds of each clause and what is behind it -/
theorem cls_all {Q : CSt → CSt → Prop} (hq : ∀ S Z Y, Q S Z → ckb (S.2.1 + 1) Z Y → Q S Y) (h0 : ∀ S, (rcl f t o S).1 = true → Q S (rcl f t o S).2) : ∀ (m : Nat) (S : CSt), (rdL f t o m S).1 = true → ∀ (j : Nat) (Sj : CSt), (cls f t o m S)[j]? = some Sj → Sj.2.1 = S.2.1 + j ∧ Q Sj (rdL f t o m S).2
  | 0, S, h, _, _, _ => absurd h Bool.false_ne_true
  | m + 1, S, h, j, Sj, hj => by
    obtain ⟨g, r⟩ := rdL_good h
    obtain ⟨k1, k2⟩ := rcl_k (f := f) (t := t) (o := o) S
    have k2 := k2 g
    rcases r with ⟨q, e1, e2⟩ | ⟨q, q3, e1, e2⟩
    · rw [e2] at hj
      cases j with
      | zero =>
        have hj : S = Sj := Option.some.inj hj
        subst hj
        rw [e1]
        exact ⟨rfl, h0 S g⟩
      | succ j => exact absurd hj (by simp)
    · rw [e2] at hj
      rw [e1] at h ⊢
      have hc : (gow f t (rcl f t o S).2.1, (rcl f t o S).2.2).2.1 = S.2.1 + 1 := k2
      cases j with
      | zero =>
        have hj : S = Sj := Option.some.inj hj
        subst hj
        refine ⟨rfl, hq S _ _ (h0 S g) ?_⟩
        obtain ⟨i1, _, _⟩ := rdL_k (f := f) (t := t) (o := o) m _ h
        rw [hc] at i1
        have kg : ckb (S.2.1 + 1) (rcl f t o S).2 (gow f t (rcl f t o S).2.1, (rcl f t o S).2.2) := ⟨kpp.go, fun _ _ => ⟨rfl, rfl, rfl⟩, fun _ _ => rfl⟩
        exact kg.tr i1
      | succ j =>
        obtain ⟨a1, a2⟩ := cls_all hq h0 m _ h j Sj hj
        exact ⟨by rw [a1, hc]; omega, a2⟩
def lS1 (f : Nat → Int32) (t : Nat) (S : CSt) : CSt := if amg f t 10 S.1 = 2 then bgn f t (amg f t 10 S.1) S else (rsm f t 0 0 (bgn f t (amg f t 10 S.1) S)).2
def lsV (ws f : Nat → Int32) (t : Nat) (S : CSt) : OI := smV ws f t 0 8 (gow f t S.1)
def ltV (ws f : Nat → Int32) (t : Nat) (S : CSt) : OB := if wdp f t 6 (lS1 f t S).1 then tsV ws f t 0 8 (gow f t (lS1 f t S).1) else some true
theorem rru_good {S : CSt} (h : (rru f t 0 S).1 = true) : ¬ amg f t 10 S.1 = -1 ∧ (¬ amg f t 10 S.1 = 2 → (smd f t 0 8 (gow f t S.1)).1 = true) ∧ (rif f t 0 (lS1 f t S)).1 = true ∧ (rru f t 0 S).2 = (rif f t 0 (lS1 f t S)).2 ∧ (lS1 f t S).2.1 = S.2.1 + 1 := by
  unfold rru at h ⊢
  unfold lS1
  by_cases q : amg f t 10 S.1 = -1
  · rw [if_pos q] at h; exact absurd h Bool.false_ne_true
  · rw [if_neg q] at h ⊢
    by_cases q2 : amg f t 10 S.1 = 2
    · rw [if_pos q2] at h ⊢
      rw [if_pos q2]
      exact ⟨q, fun z => absurd q2 z, h, rfl, rfl⟩
    · rw [if_neg q2] at h ⊢
      rw [if_neg q2]
      unfold thn at h ⊢
      by_cases q3 : (rsm f t 0 0 (bgn f t (amg f t 10 S.1) S)).1 = true
      · rw [if_pos q3] at h ⊢
        exact ⟨q, fun _ => q3, h, rfl, rfl⟩
      · rw [if_neg q3] at h; exact absurd h Bool.false_ne_true
/-- what the class keeps of a law's clause -/
def LcQ (nW : Nat) (f : Nat → Int32) (t : Nat) (S Z : CSt) : Prop := S.2.1 + 1 ≤ S.2.1 + 1 ∧ Z.2.2.1 S.2.1 = amg f t 10 S.1 ∧ ¬ amg f t 10 S.1 = -1 ∧ (¬ amg f t 10 S.1 = 2 → Z.2.2.2.1 (S.2.1 * 3) = nI S.1.2.1 ∧ S.1.2.1 < Z.1.2.1 ∧ ∀ (cf ws : Nat → Int32) (n : Nat), (∀ i, i < Z.1.2.1 → cf i = Z.1.2.2.1 i) → Z.1.2.1 ≤ n → n ≤ 512 → pm n nW cf ws S.1.2.1 [] = some ((lsV ws f t S).getD BRK)) ∧ ((¬ wdp f t 6 (lS1 f t S).1 ∧ Z.2.2.2.2.1 S.2.1 = -1) ∨ (wdp f t 6 (lS1 f t S).1 ∧ ∃ k, Z.2.2.2.2.1 S.2.1 = nI k ∧ k < Z.1.2.1 ∧ ∀ (cf ws : Nat → Int32) (n : Nat), (∀ i, i < Z.1.2.1 → cf i = Z.1.2.2.1 i) → Z.1.2.1 ≤ n → n ≤ 512 → pm n nW cf ws k [] = some (((ltV ws f t S).map bI).getD BRK)))
theorem cnV_some (v : OI) : cnV v (fun x => some x) = some (v.getD BRK) := by cases v <;> rfl
/-- a sum and its stop -/
theorem sum_run {nW : Nat} (hW : nWo o ≤ nW) {s : PSt} {z : PSt} (hg : (smd f t o 8 s).1 = true) (hk : kpp (emt (smd f t o 8 s).2 0) z) {cf ws : Nat → Int32} {n : Nat} (hcf : ∀ i, i < z.2.1 → cf i = z.2.2.1 i) (hn : z.2.1 ≤ n) : s.2.1 < z.2.1 ∧ pm n nW cf ws s.2.1 [] = some ((smV ws f t o 8 s).getD BRK) := by
  have K := Kp_smd (f := f) (t := t) (o := o) 8 s
  have n1 : s.2.1 ≤ (smd f t o 8 s).2.2.1 := K.1
  have n2 : (smd f t o 8 s).2.2.1 + 1 ≤ z.2.1 := hk.1
  refine ⟨by omega, ?_⟩
  have ag : agr cf s (smd f t o 8 s).2 := fun i _ hi => (hcf i (by omega)).trans ((hk.2 i (by show i < (smd f t o 8 s).2.2.1 + 1; omega)).trans (if_neg (show ¬ i = (smd f t o 8 s).2.2.1 by omega)))
  have hc : cf (smd f t o 8 s).2.2.1 = nI 0 := (hcf _ (by omega)).trans ((hk.2 _ (Nat.lt_succ_self _)).trans (if_pos rfl))
  rw [smd_s hW (hAm_v (fun s => by omega)) 8 s hg ag (by omega) [] (by decide), ← cnV_some]
  congr 1
  funext x
  exact pm_stop (by omega) hc (by decide)
theorem test_run {nW : Nat} (hW : nWo o ≤ nW) {s : PSt} {z : PSt} (hg : (tss f t o 8 s).1 = true) (hk : kpp (emt (tss f t o 8 s).2 0) z) {cf ws : Nat → Int32} {n : Nat} (hcf : ∀ i, i < z.2.1 → cf i = z.2.2.1 i) (hn : z.2.1 ≤ n) (hn5 : n ≤ 512) : pm n nW cf ws s.2.1 [] = some (((tsV ws f t o 8 s).map bI).getD BRK) := by
  have K := Kp_tss (f := f) (t := t) (o := o) 8 s
  have n1 : s.2.1 ≤ (tss f t o 8 s).2.2.1 := K.1
  have n2 : (tss f t o 8 s).2.2.1 + 1 ≤ z.2.1 := hk.1
  have ag : agr cf s (tss f t o 8 s).2 := fun i _ hi => (hcf i (by omega)).trans ((hk.2 i (by show i < (tss f t o 8 s).2.2.1 + 1; omega)).trans (if_neg (show ¬ i = (tss f t o 8 s).2.2.1 by omega)))
  have hc : cf (tss f t o 8 s).2.2.1 = nI 0 := (hcf _ (by omega)).trans ((hk.2 _ (Nat.lt_succ_self _)).trans (if_pos rfl))
  rw [tss_s hW (hAm_v (fun s => by omega)) hn5 8 s hg ag (by omega) [] (by decide), ← cnV_some]
  congr 1
  funext x
  exact pm_stop (by omega) hc (by decide)
theorem LcQ_up {nW : Nat} (S Z Y : CSt) (H : LcQ nW f t S Z) (K : ckb (S.2.1 + 1) Z Y) : LcQ nW f t S Y := by
  obtain ⟨a0, a1, a2, a3, a4⟩ := H
  obtain ⟨k1, k2, k3⟩ := K
  obtain ⟨b1, b2, _⟩ := k2 S.2.1 (Nat.lt_succ_self _)
  have up : ∀ (cf : Nat → Int32), (∀ i, i < Y.1.2.1 → cf i = Y.1.2.2.1 i) → ∀ i, i < Z.1.2.1 → cf i = Z.1.2.2.1 i := fun cf h i hi => (h i (by have := k1.1; omega)).trans (k1.2 i hi)
  refine ⟨a0, b1.trans a1, a2, fun q => ?_, ?_⟩
  · obtain ⟨c1, c2, c3⟩ := a3 q
    exact ⟨(k3 _ (by omega)).trans c1, by have := k1.1; omega, fun cf ws n h1 h2 h3 => c3 cf ws n (up cf h1) (by have := k1.1; omega) h3⟩
  · rcases a4 with ⟨c1, c2⟩ | ⟨c1, k, c2, c3, c4⟩
    · exact Or.inl ⟨c1, b2.trans c2⟩
    · exact Or.inr ⟨c1, k, b2.trans c2, by have := k1.1; omega, fun cf ws n h1 h2 h3 => c4 cf ws n (up cf h1) (by have := k1.1; omega) h3⟩
theorem LcQ_0 {nW : Nat} (hW : 8 ≤ nW) (S : CSt) (h : (rcl f t 0 S).1 = true) : LcQ nW f t S (rcl f t 0 S).2 := by
  have e : rcl f t 0 S = rru f t 0 S := if_pos rfl
  rw [e] at h ⊢
  have hW : nWo 0 ≤ nW := hW
  obtain ⟨g1, g2, g3, g4, g5⟩ := rru_good h
  rw [g4]
  have hck := (Pk_rif (f := f) (t := t) (o := 0)) (lS1 f t S) (by omega)
  rw [g5, Nat.add_sub_cancel] at hck
  have rk : (rif f t 0 (lS1 f t S)).2.2.2.1 S.2.1 = amg f t 10 S.1 := by
    have r0 : (rif f t 0 (lS1 f t S)).2.2.2.1 = (lS1 f t S).2.2.1 := by unfold rif; split <;> rfl
    rw [r0]
    unfold lS1
    by_cases q2 : amg f t 10 S.1 = 2
    · rw [if_pos q2]; exact if_pos rfl
    · rw [if_neg q2]; exact if_pos rfl
  have rs : (rif f t 0 (lS1 f t S)).2.2.2.2.1 = (lS1 f t S).2.2.2.1 := by unfold rif; split <;> rfl
  have rt : (lS1 f t S).2.2.2.2.1 S.2.1 = -1 := by
    unfold lS1
    by_cases q2 : amg f t 10 S.1 = 2
    · rw [if_pos q2]; exact if_pos rfl
    · rw [if_neg q2]; exact if_pos rfl
  refine ⟨Nat.le_refl _, rk, g1, fun q => ?_, ?_⟩
  · have eS : lS1 f t S = (rsm f t 0 0 (bgn f t (amg f t 10 S.1) S)).2 := if_neg q
    have kz : kpp (emt (smd f t 0 8 (gow f t S.1)).2 0) (rif f t 0 (lS1 f t S)).2.1 := by
      have := hck.1.1
      rw [eS] at this ⊢
      exact this
    refine ⟨?_, ?_, fun cf ws n h1 h2 h3 => (sum_run hW (g2 q) kz h1 h2).2⟩
    · rw [rs, eS]
      exact if_pos rfl
    · exact (sum_run (ws := fun _ => 0) hW (g2 q) kz (fun _ _ => rfl) (Nat.le_refl _)).1
  · by_cases q : wdp f t 6 (lS1 f t S).1
    · refine Or.inr ⟨q, (lS1 f t S).1.2.1, ?_, ?_, fun cf ws n h1 h2 h3 => ?_⟩
      · unfold rif
        rw [if_pos q]
        exact if_pos (show S.2.1 = (lS1 f t S).2.1 - 1 by omega)
      · unfold rif
        rw [if_pos q]
        have K := (Kp_tss (f := f) (t := t) (o := 0) 8 (gow f t (lS1 f t S).1)).1
        have K : (lS1 f t S).1.2.1 ≤ (tss f t 0 8 (gow f t (lS1 f t S).1)).2.2.1 := K
        show _ < (tss f t 0 8 (gow f t (lS1 f t S).1)).2.2.1 + 1
        omega
      · unfold rif at h1 h2 g3
        rw [if_pos q] at h1 h2 g3
        unfold ltV
        rw [if_pos q]
        exact test_run (s := gow f t (lS1 f t S).1) hW g3 kpp.rf h1 h2 h3
    · refine Or.inl ⟨q, ?_⟩
      unfold rif
      rw [if_neg q]
      exact rt
end Claus
