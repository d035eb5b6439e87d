/-! PURE: the clauses of orders, what each means; the class's code of each -/
def oz0 (f : Nat → Int32) (t : Nat) (S : CSt) : PSt := emt (smd f t 1 8 (gow f t S.1)).2 0
def oz1 (f : Nat → Int32) (t : Nat) (S : CSt) : PSt := emt (smd f t 1 8 (gow f t (oz0 f t S))).2 0
def oz2 (f : Nat → Int32) (t : Nat) (S : CSt) : PSt := emt (smd f t 1 8 (gow f t (oz1 f t S))).2 0
def ozE (f : Nat → Int32) (t : Nat) (S : CSt) : PSt := if amg f t 0 S.1 = 1 then oz2 f t S else if amg f t 0 S.1 = 2 then oz1 f t S else oz0 f t S
def otm (f : Nat → Int32) (t : Nat) (S : CSt) : Nat := if wdp f t 5 (ozE f t S) then nmv f t (gow f t (ozE f t S)) else 1
def ozT (f : Nat → Int32) (t : Nat) (S : CSt) : PSt := if wdp f t 5 (ozE f t S) then gow f t (gow f t (ozE f t S)) else ozE f t S
def osS (f : Nat → Int32) (t : Nat) (S : CSt) (i : Nat) : PSt := if i = 0 then gow f t S.1 else if i = 1 then gow f t (oz0 f t S) else gow f t (oz1 f t S)
def osV (ws f : Nat → Int32) (t : Nat) (S : CSt) (i : Nat) : OI := smV ws f t 1 8 (osS f t S i)
def otV (ws f : Nat → Int32) (t : Nat) (S : CSt) : OB := if wdp f t 6 (ozT f t S) then tsV ws f t 1 8 (gow f t (ozT f t S)) else some true
/-- the sum i is there -/
abbrev oIs (f : Nat → Int32) (t : Nat) (S : CSt) (i : Nat) : Prop := i = 0 ∨ (i = 1 ∧ ¬ amg f t 0 S.1 = 0) ∨ (i = 2 ∧ amg f t 0 S.1 = 1)
theorem thn_good {P Q : CSt → Bool × CSt} {S : CSt} (h : (thn P Q S).1 = true) : (P S).1 = true ∧ (Q (P S).2).1 = true ∧ thn P Q S = Q (P S).2 := by
  unfold thn at h ⊢
  by_cases q : (P S).1 = true
  · rw [if_pos q] at h ⊢; exact ⟨q, h, rfl⟩
  · rw [if_neg q] at h; exact absurd h Bool.false_ne_true
section ClausO
variable {f : Nat → Int32} {t : Nat}
theorem tkw_good {w : Nat} {S : CSt} (h : (tkw f t w S).1 = true) : wdp f t w S.1 ∧ tkw f t w S = (true, gow f t S.1, S.2) := by
  unfold tkw at h ⊢
  by_cases q : wdp f t w S.1
  · rw [if_pos q]; exact ⟨q, rfl⟩
  · rw [if_neg q] at h; exact absurd h Bool.false_ne_true
/-- times and if, at the end of a clause -/
theorem tail_good {Y : CSt} (hc : 1 ≤ Y.2.1) {yT : PSt} {m : Nat} (eT : yT = if wdp f t 5 Y.1 then gow f t (gow f t Y.1) else Y.1) (em : m = if wdp f t 5 Y.1 then nmv f t (gow f t Y.1) else 1) (hm : Y.2.2.2.2.2 (Y.2.1 - 1) = 1) (ht : Y.2.2.2.2.1 (Y.2.1 - 1) = -1) (h : (thn (rtm f t) (rif f t 1) Y).1 = true) : (wdp f t 5 Y.1 → tkd f t (gow f t Y.1).1 = 2 ∧ 1 ≤ nmv f t (gow f t Y.1) ∧ nmv f t (gow f t Y.1) ≤ 20) ∧ (wdp f t 6 yT → (tss f t 1 8 (gow f t yT)).1 = true) ∧ (thn (rtm f t) (rif f t 1) Y).2.1 = (if wdp f t 6 yT then emt (tss f t 1 8 (gow f t yT)).2 0 else yT) ∧ (thn (rtm f t) (rif f t 1) Y).2.2.2.1 = Y.2.2.1 ∧ (thn (rtm f t) (rif f t 1) Y).2.2.2.2.1 = Y.2.2.2.1 ∧ (thn (rtm f t) (rif f t 1) Y).2.2.2.2.2.2 (Y.2.1 - 1) = nI m ∧ (thn (rtm f t) (rif f t 1) Y).2.2.2.2.2.1 (Y.2.1 - 1) = (if wdp f t 6 yT then nI yT.2.1 else -1) := by
  obtain ⟨g1, g2, e⟩ := thn_good h
  rw [e]
  have K : (wdp f t 5 Y.1 → tkd f t (gow f t Y.1).1 = 2 ∧ 1 ≤ nmv f t (gow f t Y.1) ∧ nmv f t (gow f t Y.1) ≤ 20) ∧ (rtm f t Y).2.1 = yT ∧ (rtm f t Y).2.2.1 = Y.2.1 ∧ (rtm f t Y).2.2.2.1 = Y.2.2.1 ∧ (rtm f t Y).2.2.2.2.1 = Y.2.2.2.1 ∧ (rtm f t Y).2.2.2.2.2.1 = Y.2.2.2.2.1 ∧ (rtm f t Y).2.2.2.2.2.2 (Y.2.1 - 1) = nI m := by
    subst eT
    subst em
    unfold rtm at g1 ⊢
    by_cases q : wdp f t 5 Y.1
    · rw [if_pos q] at g1 ⊢
      rw [if_pos q, if_pos q]
      by_cases q2 : tkd f t (gow f t Y.1).1 = 2 ∧ 1 ≤ nmv f t (gow f t Y.1) ∧ nmv f t (gow f t Y.1) ≤ 20
      · rw [if_pos q2]
        exact ⟨fun _ => q2, rfl, rfl, rfl, rfl, rfl, if_pos rfl⟩
      · rw [if_neg q2] at g1; exact absurd g1 Bool.false_ne_true
    · rw [if_neg q]
      rw [if_neg q, if_neg q]
      exact ⟨fun z => absurd z q, rfl, rfl, rfl, rfl, rfl, hm⟩
  obtain ⟨k1, k2, k3, k4, k5, k6, k7⟩ := K
  generalize (rtm f t Y).2 = Z at *
  unfold rif at g2 ⊢
  rw [k2] at g2 ⊢
  by_cases q : wdp f t 6 yT
  · rw [if_pos q] at g2 ⊢
    refine ⟨k1, fun _ => g2, by rw [if_pos q], k4, k5, k7, ?_⟩
    rw [if_pos q, k3]
    exact if_pos rfl
  · rw [if_neg q] at g2 ⊢
    refine ⟨k1, fun z => absurd z q, by rw [if_neg q]; exact k2, k4, k5, k7, ?_⟩
    rw [if_neg q, k6]
    exact ht
/-- what the class keeps of an order's clause -/
def OcF (f : Nat → Int32) (t : Nat) (S Z : CSt) : Prop := Z.2.2.1 S.2.1 = amg f t 0 S.1 ∧ ¬ amg f t 0 S.1 = -1 ∧ (∀ i, oIs f t S i → (smd f t 1 8 (osS f t S i)).1 = true ∧ kpp (emt (smd f t 1 8 (osS f t S i)).2 0) Z.1 ∧ Z.2.2.2.1 (S.2.1 * 3 + i) = nI (osS f t S i).2.1) ∧ (wdp f t 5 (ozE f t S) → tkd f t (gow f t (ozE f t S)).1 = 2 ∧ 1 ≤ nmv f t (gow f t (ozE f t S)) ∧ nmv f t (gow f t (ozE f t S)) ≤ 20) ∧ Z.2.2.2.2.2 S.2.1 = nI (otm f t S) ∧ (wdp f t 6 (ozT f t S) → (tss f t 1 8 (gow f t (ozT f t S))).1 = true ∧ kpp (emt (tss f t 1 8 (gow f t (ozT f t S))).2 0) Z.1) ∧ Z.2.2.2.2.1 S.2.1 = (if wdp f t 6 (ozT f t S) then nI (ozT f t S).2.1 else -1) ∧ (amg f t 0 S.1 = 1 → wdp f t 3 (oz0 f t S) ∧ wdp f t 4 (oz1 f t S)) ∧ (amg f t 0 S.1 = 2 → wdp f t 4 (oz0 f t S))
def ozF (f : Nat → Int32) (t : Nat) (S : CSt) : PSt := if wdp f t 6 (ozT f t S) then emt (tss f t 1 8 (gow f t (ozT f t S))).2 0 else ozT f t S
theorem ozF_k (S : CSt) : kpp (ozE f t S) (ozF f t S) ∧ kpp (ozT f t S) (ozF f t S) := by
  have h1 : kpp (ozT f t S) (ozF f t S) := by
    unfold ozF
    by_cases q : wdp f t 6 (ozT f t S)
    · rw [if_pos q]; exact (kpp.go (f := f) (t := t)).tr ((Kp_tss 8 (gow f t (ozT f t S))).tr kpp.em)
    · rw [if_neg q]; exact kpp.rf
  refine ⟨?_, h1⟩
  have h2 : kpp (ozE f t S) (ozT f t S) := by
    unfold ozT
    by_cases q : wdp f t 5 (ozE f t S)
    · rw [if_pos q]; exact (kpp.go (f := f) (t := t)).tr kpp.go
    · rw [if_neg q]; exact kpp.rf
  exact h2.tr h1
theorem oz_k (S : CSt) : kpp (oz0 f t S) (oz1 f t S) ∧ kpp (oz1 f t S) (oz2 f t S) := ⟨(kpp.go (f := f) (t := t)).tr ((Kp_smd 8 (gow f t (oz0 f t S))).tr kpp.em), (kpp.go (f := f) (t := t)).tr ((Kp_smd 8 (gow f t (oz1 f t S))).tr kpp.em)⟩
theorem ror_good {S : CSt} (h : (ror f t 1 S).1 = true) : OcF f t S (ror f t 1 S).2 ∧ (ror f t 1 S).2.1 = ozF f t S := by
  obtain ⟨z01, z12⟩ := oz_k (f := f) (t := t) S
  obtain ⟨zE, zT⟩ := ozF_k (f := f) (t := t) S
  unfold ror at h ⊢
  by_cases q : amg f t 0 S.1 = -1
  · rw [if_pos q] at h; exact absurd h Bool.false_ne_true
  · rw [if_neg q] at h ⊢
    have tst : ∀ Z : PSt, Z = ozF f t S → wdp f t 6 (ozT f t S) → kpp (emt (tss f t 1 8 (gow f t (ozT f t S))).2 0) Z := fun Z hZ qt => by
      rw [hZ]; unfold ozF; rw [if_pos qt]; exact kpp.rf
    by_cases q1 : amg f t 0 S.1 = 1
    · have n0 : ¬ amg f t 0 S.1 = 0 := by rw [q1]; decide
      have n2 : ¬ amg f t 0 S.1 = 2 := by rw [q1]; decide
      have eE : ozE f t S = oz2 f t S := if_pos q1
      rw [eE] at zE
      rw [if_pos q1] at h ⊢
      obtain ⟨a1, h, e⟩ := thn_good h
      rw [e]
      obtain ⟨a2, h, e⟩ := thn_good h
      rw [e]
      obtain ⟨w2, e2⟩ := tkw_good a2
      rw [e2] at h ⊢
      obtain ⟨a3, h, e⟩ := thn_good h
      rw [e]
      obtain ⟨a4, h, e⟩ := thn_good h
      rw [e]
      obtain ⟨w4, e4⟩ := tkw_good a4
      rw [e4] at h ⊢
      obtain ⟨a5, h, e⟩ := thn_good h
      rw [e]
      have T := tail_good (f := f) (t := t) (Y := (rsm f t 1 2 (true, gow f t (rsm f t 1 1 (true, gow f t (rsm f t 1 0 (bgn f t (amg f t 0 S.1) S)).2.1, (rsm f t 1 0 (bgn f t (amg f t 0 S.1) S)).2.2).2).2.1, (rsm f t 1 1 (true, gow f t (rsm f t 1 0 (bgn f t (amg f t 0 S.1) S)).2.1, (rsm f t 1 0 (bgn f t (amg f t 0 S.1) S)).2.2).2).2.2).2).2) (Nat.succ_pos _) (yT := ozT f t S) (m := otm f t S) (by unfold ozT; rw [eE]; rfl) (by unfold otm; rw [eE]; rfl) (if_pos rfl) (if_pos rfl) h
      obtain ⟨t1, t2, t3, t4, t5, t6, t7⟩ := T
      have t3 : _ = ozF f t S := t3
      refine ⟨⟨by rw [t4]; exact if_pos rfl, q, fun i hi => ?_, by rw [eE]; exact t1, t6, fun z => ⟨t2 z, tst _ t3 z⟩, t7, fun _ => ⟨w2, w4⟩, fun z => absurd z n2⟩, t3⟩
      rw [t3, t5]
      rcases hi with rfl | ⟨rfl, _⟩ | ⟨rfl, _⟩
      · exact ⟨a1, (z01.tr z12).tr zE, (if_neg (show ¬ S.2.1 * 3 + 0 = S.2.1 * 3 + 2 by omega)).trans ((if_neg (show ¬ S.2.1 * 3 + 0 = S.2.1 * 3 + 1 by omega)).trans (if_pos rfl))⟩
      · exact ⟨a3, z12.tr zE, (if_neg (show ¬ S.2.1 * 3 + 1 = S.2.1 * 3 + 2 by omega)).trans (if_pos rfl)⟩
      · exact ⟨a5, zE, if_pos rfl⟩
    · rw [if_neg q1] at h ⊢
      by_cases q2 : amg f t 0 S.1 = 2
      · have n0 : ¬ amg f t 0 S.1 = 0 := by rw [q2]; decide
        have eE : ozE f t S = oz1 f t S := (if_neg q1).trans (if_pos q2)
        rw [eE] at zE
        rw [if_pos q2] at h ⊢
        obtain ⟨a1, h, e⟩ := thn_good h
        rw [e]
        obtain ⟨a2, h, e⟩ := thn_good h
        rw [e]
        obtain ⟨w2, e2⟩ := tkw_good a2
        rw [e2] at h ⊢
        obtain ⟨a3, h, e⟩ := thn_good h
        rw [e]
        have T := tail_good (f := f) (t := t) (Y := (rsm f t 1 1 (true, gow f t (rsm f t 1 0 (bgn f t (amg f t 0 S.1) S)).2.1, (rsm f t 1 0 (bgn f t (amg f t 0 S.1) S)).2.2).2).2) (Nat.succ_pos _) (yT := ozT f t S) (m := otm f t S) (by unfold ozT; rw [eE]; rfl) (by unfold otm; rw [eE]; rfl) (if_pos rfl) (if_pos rfl) h
        obtain ⟨t1, t2, t3, t4, t5, t6, t7⟩ := T
        have t3 : _ = ozF f t S := t3
        refine ⟨⟨by rw [t4]; exact if_pos rfl, q, fun i hi => ?_, by rw [eE]; exact t1, t6, fun z => ⟨t2 z, tst _ t3 z⟩, t7, fun z => absurd z q1, fun _ => w2⟩, t3⟩
        rw [t3, t5]
        rcases hi with rfl | ⟨rfl, _⟩ | ⟨rfl, z⟩
        · exact ⟨a1, z01.tr zE, (if_neg (show ¬ S.2.1 * 3 + 0 = S.2.1 * 3 + 1 by omega)).trans (if_pos rfl)⟩
        · exact ⟨a3, zE, if_pos rfl⟩
        · exact absurd z q1
      · have eE : ozE f t S = oz0 f t S := (if_neg q1).trans (if_neg q2)
        rw [eE] at zE
        rw [if_neg q2] at h ⊢
        obtain ⟨a1, h, e⟩ := thn_good h
        rw [e]
        have T := tail_good (f := f) (t := t) (Y := (rsm f t 1 0 (bgn f t (amg f t 0 S.1) S)).2) (Nat.succ_pos _) (yT := ozT f t S) (m := otm f t S) (by unfold ozT; rw [eE]; rfl) (by unfold otm; rw [eE]; rfl) (if_pos rfl) (if_pos rfl) h
        obtain ⟨t1, t2, t3, t4, t5, t6, t7⟩ := T
        have t3 : _ = ozF f t S := t3
        refine ⟨⟨by rw [t4]; exact if_pos rfl, q, fun i hi => ?_, by rw [eE]; exact t1, t6, fun z => ⟨t2 z, tst _ t3 z⟩, t7, fun z => absurd z q1, fun z => absurd z q2⟩, t3⟩
        rw [t3, t5]
        rcases hi with rfl | ⟨rfl, z⟩ | ⟨rfl, z⟩
        · exact ⟨a1, zE, if_pos rfl⟩
        · exfalso
          have : ∀ x : Int32, ¬ x = -1 → ¬ x = 1 → ¬ x = 2 → (∃ k, k < 3 ∧ x = nI k) → x = 0 := fun x h1 h2 h3 ⟨k, hk, e⟩ => by
            rcases (show k = 0 ∨ k = 1 ∨ k = 2 by omega) with rfl | rfl | rfl
            · exact e
            · exact absurd e h2
            · exact absurd e h3
          refine z (this _ q q1 q2 ?_)
          have hk : tkd f t S.1.1 = 1 := by
            by_cases hk : tkd f t S.1.1 = 1
            · exact hk
            · exact absurd (if_neg hk) q
          obtain ⟨k, hk2, ek, _⟩ := amg_ex (f := f) (t := t) (s := S.1) (Nat.le_of_lt (tkd_y (f := f) (by omega))) (w := 0) (by decide) q
          exact ⟨k, hk2, ek⟩
        · exact absurd z q1
theorem OcF_up (S Z Y : CSt) (H : OcF f t S Z) (K : ckb (S.2.1 + 1) Z Y) : OcF f t S Y := by
  obtain ⟨a1, a2, a3, a4, a5, a6, a7, a8, a9⟩ := H
  obtain ⟨k1, k2, k3⟩ := K
  obtain ⟨b1, b2, b3⟩ := k2 S.2.1 (Nat.lt_succ_self _)
  refine ⟨b1.trans a1, a2, fun i hi => ?_, a4, b3.trans a5, fun z => ⟨(a6 z).1, (a6 z).2.tr k1⟩, b2.trans a7, a8, a9⟩
  obtain ⟨c1, c2, c3⟩ := a3 i hi
  have hi3 : i < 3 := by rcases hi with rfl | ⟨rfl, _⟩ | ⟨rfl, _⟩ <;> decide
  exact ⟨c1, c2.tr k1, (k3 _ (by omega)).trans c3⟩
theorem OcF_0 (S : CSt) (h : (rcl f t 1 S).1 = true) : OcF f t S (rcl f t 1 S).2 := by
  have e : rcl f t 1 S = ror f t 1 S := if_neg (by decide)
  rw [e] at h ⊢
  exact (ror_good h).1
/-- what the class's rows hold of orders that were read -/
def OrdR (n c : Nat) (cf kf sf tf mf : Nat → Int32) (f : Nat → Int32) (t : Nat) (L : List CSt) : Prop := c = L.length ∧ n ≤ 512 ∧ ∀ j S, L[j]? = some S → kf j = amg f t 0 S.1 ∧ ¬ amg f t 0 S.1 = -1 ∧ mf j = nI (otm f t S) ∧ (∀ i, oIs f t S i → ∃ k, k < 512 ∧ sf (j * 3 + i) = nI k ∧ ∀ ws, pm n 21 cf ws k [] = some ((osV ws f t S i).getD BRK)) ∧ ((¬ wdp f t 6 (ozT f t S) ∧ tf j = -1) ∨ (wdp f t 6 (ozT f t S) ∧ ∃ k, k < 512 ∧ tf j = nI k ∧ ∀ ws, pm n 21 cf ws k [] = some (((otV ws f t S).map bI).getD BRK)))
theorem OrdR_of {S F : CSt} (h : (rdL f t 1 12 S).1 = true) (hF : F = (rdL f t 1 12 S).2) (hS : S.2.1 = 0) (hn : F.1.2.1 ≤ 512) : OrdR F.1.2.1 F.2.1 F.1.2.2.1 F.2.2.1 F.2.2.2.1 F.2.2.2.2.1 F.2.2.2.2.2 f t (cls f t 1 12 S) := by
  subst hF
  obtain ⟨k1, k2, k3⟩ := rdL_k 12 S h
  rw [hS, Nat.zero_add] at k2
  refine ⟨k2, hn, fun j Sj hj => ?_⟩
  obtain ⟨b1, b2⟩ := cls_all (Q := OcF f t) OcF_up OcF_0 12 S h j Sj hj
  rw [hS, Nat.zero_add] at b1
  obtain ⟨a1, a2, a3, a4, a5, a6, a7, _⟩ := b2
  rw [b1] at a1 a3 a5 a7
  have hW : nWo 1 ≤ 21 := by decide
  refine ⟨a1, a2, a5, fun i hi => ?_, ?_⟩
  · obtain ⟨c1, c2, c3⟩ := a3 i hi
    have r := fun ws => sum_run (ws := ws) hW c1 c2 (fun _ _ => rfl) (Nat.le_refl _)
    exact ⟨_, by have := (r (fun _ => 0)).1; omega, c3, fun ws => (r ws).2⟩
  · by_cases q : wdp f t 6 (ozT f t Sj)
    · rw [if_pos q] at a7
      obtain ⟨c1, c2⟩ := a6 q
      refine Or.inr ⟨q, _, ?_, a7, fun ws => ?_⟩
      · have := c2.1
        have K := (Kp_tss (f := f) (t := t) (o := 1) 8 (gow f t (ozT f t Sj))).1
        have K : (ozT f t Sj).2.1 ≤ (tss f t 1 8 (gow f t (ozT f t Sj))).2.2.1 := K
        have this : (tss f t 1 8 (gow f t (ozT f t Sj))).2.2.1 + 1 ≤ (rdL f t 1 12 S).2.1.2.1 := this
        omega
      · unfold otV
        rw [if_pos q]
        exact test_run (s := gow f t (ozT f t Sj)) hW c1 c2 (fun _ _ => rfl) (Nat.le_refl _) hn
    · rw [if_neg q] at a7
      exact Or.inl ⟨q, a7⟩
theorem OrdR.kd {n c : Nat} {cf kf sf tf mf : Nat → Int32} {L : List CSt} (H : OrdR n c cf kf sf tf mf f t L) {j : Nat} (hj : j < c) : kf j = 0 ∨ kf j = 1 ∨ kf j = 2 := by
  obtain ⟨S, hS⟩ : ∃ S, L[j]? = some S := ⟨L[j]'(by have := H.1; omega), List.getElem?_eq_getElem (by have := H.1; omega)⟩
  obtain ⟨a1, a2, _⟩ := H.2.2 j S hS
  have hk : tkd f t S.1.1 = 1 := by
    by_cases hk : tkd f t S.1.1 = 1
    · exact hk
    · exact absurd (if_neg hk) a2
  obtain ⟨k, hk2, ek, _⟩ := amg_ex (f := f) (t := t) (s := S.1) (Nat.le_of_lt (tkd_y (f := f) (by omega))) (w := 0) (by decide) a2
  have hk2 : k < 3 := hk2
  rw [a1, ek]
  rcases (show k = 0 ∨ k = 1 ∨ k = 2 by omega) with rfl | rfl | rfl
  · exact Or.inl rfl
  · exact Or.inr (Or.inl rfl)
  · exact Or.inr (Or.inr rfl)
theorem OrdR.sem {n c nC nK : Nat} {al : Int32} {cf kf sf tf mf : Nat → Int32} {L : List CSt} (H : OrdR n c cf kf sf tf mf f t L) : TxSemH n c nC nK al cf kf sf tf mf (RpM n 21 cf) := by
  intro h a wf ws HX hl h155 hw j hj
  obtain ⟨h1, h2, h3⟩ := H
  obtain ⟨S, hS⟩ : ∃ S, L[j]? = some S := ⟨L[j]'(by omega), List.getElem?_eq_getElem (by omega)⟩
  obtain ⟨a1, a2, _, a3, a4⟩ := h3 j S hS
  constructor
  · intro q
    rcases a4 with ⟨_, z⟩ | ⟨_, k, hk, e, hp⟩
    · exact absurd z q
    · rw [RpM_v hk e (hp ws), e]
      exact AskV_pm HX hl h155 (by decide) (by decide) hw (by omega) (hp ws)
  · intro i hi
    rw [a1] at hi
    obtain ⟨k, hk, e, hp⟩ := a3 i hi
    rw [RpM_v hk e (hp ws), e]
    exact AskV_pm HX hl h155 (by decide) (by decide) hw (by omega) (hp ws)
/-- a clause run once, told by its meaning -/
def onS (n : Nat) (TU SI : Po → Int32) (EN : Po → Bool) (ws f : Nat → Int32) (tt : Nat) (S : CSt) (dn la : Int32) (t : HSt) : Bool × Int32 × Int32 × HSt := if otV ws f tt S = some true then enq n TU SI EN (amg f tt 0 S.1) ((osV ws f tt S 0).getD BRK) (if amg f tt 0 S.1 = 0 then 0 else (osV ws f tt S 1).getD BRK) (if amg f tt 0 S.1 = 1 then (osV ws f tt S 2).getD BRK else 0) dn la t else (true, dn, la, t)
theorem OrdR.on {N c : Nat} {cf kf sf tf mf : Nat → Int32} {L : List CSt} (H : OrdR N c cf kf sf tf mf f t L) {j : Nat} {S : CSt} (hS : L[j]? = some S) (n : Nat) (TU SI : Po → Int32) (EN : Po → Bool) (ws : Nat → Int32) (dn la : Int32) (z : HSt) : onq n TU SI EN (RpM N 21 cf ws) kf sf tf j dn la z = onS n TU SI EN ws f t S dn la z := by
  obtain ⟨h1, h2, h3⟩ := H
  obtain ⟨a1, a2, _, a3, a4⟩ := h3 j S hS
  have so : (tf j = -1 ∨ RpM N 21 cf ws (tf j) = 1) ↔ otV ws f t S = some true := by
    rcases a4 with ⟨q, z⟩ | ⟨q, k, hk, e, hp⟩
    · unfold otV
      rw [if_neg q]
      exact ⟨fun _ => rfl, fun _ => Or.inl z⟩
    · rw [RpM_v hk e (hp ws)]
      have n1 : ¬ tf j = -1 := fun z => by
        have := congrArg Int32.toInt (e.symm.trans z)
        rw [tim1, tin (show k < 2 ^ 31 by omega)] at this
        omega
      cases otV ws f t S with
      | none => exact ⟨fun z => z.elim (fun y => absurd y n1) (fun y => absurd y (by decide)), fun z => absurd z (by simp)⟩
      | some x => cases x with
        | true => exact ⟨fun _ => rfl, fun _ => Or.inr rfl⟩
        | false => exact ⟨fun z => z.elim (fun y => absurd y n1) (fun y => absurd y (by decide)), fun z => absurd z (by simp)⟩
  have sv : ∀ i, oIs f t S i → RpM N 21 cf ws (sf (j * 3 + i)) = (osV ws f t S i).getD BRK := fun i hi => by
    obtain ⟨k, hk, e, hp⟩ := a3 i hi
    exact RpM_v hk e (hp ws)
  unfold onq onS
  by_cases q : otV ws f t S = some true
  · rw [if_pos q, if_pos (so.mpr q), a1, sv 0 (Or.inl rfl)]
    have e1 : (if amg f t 0 S.1 = 0 then (0 : Int32) else RpM N 21 cf ws (sf (j * 3 + 1))) = (if amg f t 0 S.1 = 0 then 0 else (osV ws f t S 1).getD BRK) := by
      by_cases q0 : amg f t 0 S.1 = 0
      · rw [if_pos q0, if_pos q0]
      · rw [if_neg q0, if_neg q0, sv 1 (Or.inr (Or.inl ⟨rfl, q0⟩))]
    have e2 : (if amg f t 0 S.1 = 1 then RpM N 21 cf ws (sf (j * 3 + 2)) else (0 : Int32)) = (if amg f t 0 S.1 = 1 then (osV ws f t S 2).getD BRK else 0) := by
      by_cases q0 : amg f t 0 S.1 = 1
      · rw [if_pos q0, if_pos q0, sv 2 (Or.inr (Or.inr ⟨rfl, q0⟩))]
      · rw [if_neg q0, if_neg q0]
    rw [e1, e2]
  · rw [if_neg q, if_neg (fun y => q (so.mp y))]
end ClausO
