/-! PURE: orders: all clauses, as often as each says; a clause that fails puts all back -/
abbrev OSt : Type := Int32 × Int32 × HSt
/-- clause j run k times -/
def tmq (n : Nat) (TU SI : Po → Int32) (EN : Po → Bool) (R : (Nat → Int32) → Int32 → Int32) (kf sf tf : Nat → Int32) (j : Nat) : Nat → OSt → Bool × OSt
  | 0, z => (true, z)
  | k + 1, z => if (onq n TU SI EN (R (wrh n z.1 z.2.1 z.2.2.C z.2.2.D)) kf sf tf j z.1 z.2.1 z.2.2).1 = true then tmq n TU SI EN R kf sf tf j k (onq n TU SI EN (R (wrh n z.1 z.2.1 z.2.2.C z.2.2.D)) kf sf tf j z.1 z.2.1 z.2.2).2 else (false, (onq n TU SI EN (R (wrh n z.1 z.2.1 z.2.2.C z.2.2.D)) kf sf tf j z.1 z.2.1 z.2.2).2)
/-- the clauses from j on; some: the one that failed -/
def clq (n : Nat) (TU SI : Po → Int32) (EN : Po → Bool) (R : (Nat → Int32) → Int32 → Int32) (kf sf tf mf : Nat → Int32) : Nat → Nat → OSt → Option Nat × OSt
  | 0, _, z => (none, z)
  | k + 1, j, z => if (tmq n TU SI EN R kf sf tf j (mf j).toInt.toNat z).1 = true then clq n TU SI EN R kf sf tf mf k (j + 1) (tmq n TU SI EN R kf sf tf j (mf j).toInt.toNat z).2 else (some j, (tmq n TU SI EN R kf sf tf j (mf j).toInt.toNat z).2)
/-- what lies by, to be put back -/
def Bf (h : am_H) (t : HSt) : Prop := (∃ n2 s2 w2 fo2 mo2 ah2 ss2 sc2 tx2, TbA h 103 n2 s2 w2 fo2 mo2 ah2 ss2 sc2 tx2) ∧ RwsA h 108 6 t.C t.D ∧ (∃ kd, PaA h 120 t.u t.x kd ∧ ∀ j, j < 16 → kd j = t.kd j) ∧ RwsA h 123 16 t.C2 t.D2
theorem bP_no {a : Nat} (h : a < 8 ∨ (20 ≤ a ∧ a < 56) ∨ (91 ≤ a ∧ a < 98) ∨ a = 101 ∨ (102 < a ∧ a < 155) ∨ 155 < a) : ¬ bP a := by
  rintro (z | z | z)
  · exact aP_no (by omega) z
  · omega
  · omega
theorem Bf.fr {h h2 : am_H} {t : HSt} (H : Bf h t) (F : Fr bP h h2) : Bf h2 t := by
  obtain ⟨⟨n2, s2, w2, fo2, mo2, ah2, ss2, sc2, tx2, a1⟩, a2, ⟨kd, a3, a4⟩, a5⟩ := H
  exact ⟨⟨n2, s2, w2, fo2, mo2, ah2, ss2, sc2, tx2, a1.fr F (fun a _ _ => bP_no (by omega))⟩, a2.fr F (fun a _ _ => bP_no (by omega)), ⟨kd, a3.fr F (fun a _ _ => bP_no (by omega)), a4⟩, a5.fr F (fun a _ _ => bP_no (by omega))⟩
def TBk (t : HSt) (kd : Nat → Int32) : HSt := (t.C, t.D, t.u, t.x, kd, t.C2, t.D2)
section Run
variable {S : Nat → Int32} {st dn la : Int32} {n s w : Nat} {fo mo ah : Int32} {ss sc : Nat → Int32} {tx : Nat → Option Nat} {TU SI : Po → Int32} {EN : Po → Bool} {N c nC nK : Nat} {al : Int32} {cf kf sf tf mf : Nat → Int32} {R : (Nat → Int32) → Int32 → Int32}
/-- all put back -/
theorem Hands_back {h : am_H} {t t0 : HSt} (H : HWo h st dn la S n s w fo mo ah ss sc tx TU SI EN t) (B : Bf h t0) (h0 : t0.ok n) (j : Int32) : ∃ h2 kd, ((gR h 1 102 1).bind fun x16 => (gR h 1 102 4).bind fun x18 => (Table_copyHeaps x16 x18 h).bind fun h20 => (gR h20 1 102 2).bind fun x23 => (gR h20 1 102 5).bind fun x25 => (Past_copy x23 x25 h20).bind fun h27 => (pV h27 1 102 0 (.int j)).bind fun h30 => some ((-3 : Int32), h30)) = some (-3, h2) ∧ (∀ i, i < 16 → kd i = t0.kd i) ∧ HWo h2 j dn la S n s w fo mo ah ss sc tx TU SI EN (TBk t0 kd) ∧ Fr bP h h2 := by
  obtain ⟨⟨n2, s2, w2, fo2, mo2, ah2, ss2, sc2, tx2, b1⟩, b2, ⟨kd, b3, b4⟩, b5⟩ := B
  obtain ⟨a1, a2, a3, a4, a5, ⟨wf, a6⟩, a7⟩ := H
  obtain ⟨h1, e1, q1, F1⟩ := Table_copyHeaps_v (T := 3) (S := 103) (by omega) a2.2.2.1 b1 a3 b2
  have N1 : ∀ a, a < 8 ∨ 20 ≤ a → ¬ trP 3 a := fun a ha z => by have := z.1; have := z.2; omega
  have c4 := a4.fr F1 (fun a _ _ => N1 a (by omega))
  have c5 := a5.fr F1 (fun a _ _ => N1 a (by omega))
  have d3 := b3.fr F1 (fun a _ _ => N1 a (by omega))
  have d5 := b5.fr F1 (fun a _ _ => N1 a (by omega))
  have c1 := (F1 102 (N1 _ (by omega))).trans a1
  obtain ⟨h2, kd3, e2, p2, k2, r2, F2⟩ := Past_copy_v (P := 56) (Q := 120) (by omega) c4 d3 c5 d5
  have N2 : ∀ a, a < 56 ∨ 91 ≤ a → ¬ paP 56 a := fun a ha z => by have := z.1; have := z.2; omega
  have g1 := (F2 102 (N2 _ (by omega))).trans c1
  have F3 : Fr (fun a => a = 102) h2 (h2.set 102 (.inr (1, hanF j dn la))) := Fr.set rfl
  have ep : pV h2 1 102 0 (.int j) = some (h2.set 102 (.inr (1, hanF j dn la))) := by unfold pV; rw [ob_of g1]; rfl
  have FF : Fr bP h (h2.set 102 (.inr (1, hanF j dn la))) := ((F1.mono (fun a z => Or.inl (Or.inr (Or.inr (by have := z.1; have := z.2; omega))))).tr (F2.mono (fun a z => Or.inl (Or.inr (Or.inl z))))).tr (F3.mono (fun a z => Or.inr (Or.inl z)))
  have W1 := ((a2.fr F1 (fun x z => by have := z.1; have := z.2; omega)).fr F2 (fun x z => by have := z.1; have := z.2; omega)).fr F3 (fun x z => by have z : x = 102 := z; omega)
  have u1 : gR h 1 102 1 = some 3 := by unfold gR; rw [ob_of a1]; rfl
  have u4 : gR h 1 102 4 = some 103 := by unfold gR; rw [ob_of a1]; rfl
  have u2 : gR h1 1 102 2 = some 56 := by unfold gR; rw [ob_of c1]; rfl
  have u5 : gR h1 1 102 5 = some 120 := by unfold gR; rw [ob_of c1]; rfl
  refine ⟨_, kd3, ?_, fun i hi => (k2 i hi).trans (b4 i hi), ⟨set_at g1, W1, (q1.fr F2 (fun a _ _ => N2 a (by omega))).fr F3 (fun a _ _ z => by have z : a = 102 := z; omega), p2.fr F3 (fun a _ _ z => by have z : a = 102 := z; omega), r2.fr F3 (fun a _ _ z => by have z : a = 102 := z; omega), ⟨wf, ((F3 155 (by decide)).trans (F2 155 (N2 _ (by omega)))).trans ((F1 155 (N1 _ (by omega))).trans a6)⟩, h0⟩, FF⟩
  rw [u1, u4]
  simp only [Option.bind_some]
  rw [e1]
  simp only [Option.bind_some]
  rw [u2, u5]
  simp only [Option.bind_some]
  rw [e2]
  simp only [Option.bind_some]
  rw [ep]
  rfl
theorem Hands_run_44_l (HSm : TxSemH N c nC nK al cf kf sf tf mf R) {j : Nat} (hj : j < c) (hk : kf j = 0 ∨ kf j = 1 ∨ kf j = 2) {t0 : HSt} (h0 : t0.ok n) : ∀ (k v : Nat) (h : am_H) (S : Nat → Int32) (z : OSt), v + k = (mf j).toInt.toNat → HWo h st z.1 z.2.1 S n s w fo mo ah ss sc tx TU SI EN z.2.2 → TxA h 92 N c nC nK al cf kf sf tf mf → Bf h t0 → ((tmq n TU SI EN R kf sf tf j k z).1 = true → ∃ h2 S2, Hands_run_44 102 92 (nI j) (nI v) h = Hands_run_34 102 92 (nI (j + 1)) h2 ∧ HWo h2 st (tmq n TU SI EN R kf sf tf j k z).2.1 (tmq n TU SI EN R kf sf tf j k z).2.2.1 S2 n s w fo mo ah ss sc tx TU SI EN (tmq n TU SI EN R kf sf tf j k z).2.2.2 ∧ Fr bP h h2) ∧ (¬ (tmq n TU SI EN R kf sf tf j k z).1 = true → ∃ h2 S2 kd, Hands_run_44 102 92 (nI j) (nI v) h = some (-3, h2) ∧ (∀ i, i < 16 → kd i = t0.kd i) ∧ HWo h2 (nI j) (tmq n TU SI EN R kf sf tf j k z).2.1 (tmq n TU SI EN R kf sf tf j k z).2.2.1 S2 n s w fo mo ah ss sc tx TU SI EN (TBk t0 kd) ∧ Fr bP h h2) := by
  have hmf := Int32.toInt_lt (mf j)
  intro k
  induction k with
  | zero =>
    intro v h S z hv H HX B
    have tv := tin (show v < 2 ^ 31 by omega)
    refine ⟨fun _ => ⟨h, S, ?_, H, Fr.rf⟩, fun q => absurd rfl q⟩
    rw [Hands_run_44_e, Text_timesOf_v HX hj]
    simp only [Option.bind_some]
    rw [if_pos (tile.mpr (by omega)), nI_p1]
  | succ k ih =>
    intro v h S z hv H HX B
    have tv := tin (show v < 2 ^ 31 by omega)
    obtain ⟨h1, S1, e1, H1, F1⟩ := Hands_runOnce_v H HX HSm hj hk
    have X1 : TxA h1 92 N c nC nK al cf kf sf tf mf := HX.fr F1 (fun a _ _ => bP_no (by omega))
    have B1 := B.fr F1
    have er : Hands_run_44 102 92 (nI j) (nI v) h = (if nI (bN ((onq n TU SI EN (R (wrh n z.1 z.2.1 z.2.2.C z.2.2.D)) kf sf tf j z.1 z.2.1 z.2.2).1 = true)) = (0 : Int32) then (gR h1 1 102 1).bind fun x16 => (gR h1 1 102 4).bind fun x18 => (Table_copyHeaps x16 x18 h1).bind fun h20 => (gR h20 1 102 2).bind fun x23 => (gR h20 1 102 5).bind fun x25 => (Past_copy x23 x25 h20).bind fun h27 => (pV h27 1 102 0 (.int (nI j))).bind fun h30 => some ((-3 : Int32), h30) else Hands_run_44 102 92 (nI j) (nI (v + 1)) h1) := by
      rw [Hands_run_44_e, Text_timesOf_v HX hj]
      simp only [Option.bind_some]
      rw [if_neg (fun y => by have := tile.mp y; omega), e1]
      simp only [Option.bind_some]
      rw [nI_p1]
    rw [er]
    unfold tmq
    generalize onq n TU SI EN (R (wrh n z.1 z.2.1 z.2.2.C z.2.2.D)) kf sf tf j z.1 z.2.1 z.2.2 = y at *
    by_cases q9 : y.1 = true
    · have eb : ¬ nI (bN (y.1 = true)) = (0 : Int32) := by unfold bN; rw [if_pos q9]; decide
      rw [if_neg eb, if_pos q9]
      obtain ⟨i1, i2⟩ := ih (v + 1) h1 S1 y.2 (by omega) H1 X1 B1
      refine ⟨fun q => ?_, fun q => ?_⟩
      · obtain ⟨h2, S2, x1, x2, x3⟩ := i1 q
        exact ⟨h2, S2, x1, x2, F1.tr x3⟩
      · obtain ⟨h2, S2, kd, x1, x2, x3, x4⟩ := i2 q
        exact ⟨h2, S2, kd, x1, x2, x3, F1.tr x4⟩
    · have eb : nI (bN (y.1 = true)) = (0 : Int32) := by unfold bN; rw [if_neg q9]; rfl
      rw [if_pos eb, if_neg q9]
      refine ⟨fun q => (by cases q), fun _ => ?_⟩
      obtain ⟨h2, kd, x1, x2, x3, x4⟩ := Hands_back H1 B1 h0 (nI j)
      exact ⟨h2, S1, kd, x1, x2, x3, F1.tr x4⟩
theorem Hands_run_34_l (HSm : TxSemH N c nC nK al cf kf sf tf mf R) (hk : ∀ j, j < c → kf j = 0 ∨ kf j = 1 ∨ kf j = 2) {t0 : HSt} (h0 : t0.ok n) : ∀ (k j : Nat) (h : am_H) (S : Nat → Int32) (z : OSt), j + k = c → HWo h st z.1 z.2.1 S n s w fo mo ah ss sc tx TU SI EN z.2.2 → TxA h 92 N c nC nK al cf kf sf tf mf → Bf h t0 → ((clq n TU SI EN R kf sf tf mf k j z).1 = none → ∃ h2 S2, Hands_run_34 102 92 (nI j) h = some ((clq n TU SI EN R kf sf tf mf k j z).2.1, h2) ∧ HWo h2 st (clq n TU SI EN R kf sf tf mf k j z).2.1 (clq n TU SI EN R kf sf tf mf k j z).2.2.1 S2 n s w fo mo ah ss sc tx TU SI EN (clq n TU SI EN R kf sf tf mf k j z).2.2.2 ∧ Fr bP h h2) ∧ (∀ i, (clq n TU SI EN R kf sf tf mf k j z).1 = some i → ∃ h2 S2 kd, Hands_run_34 102 92 (nI j) h = some (-3, h2) ∧ (∀ i, i < 16 → kd i = t0.kd i) ∧ HWo h2 (nI i) (clq n TU SI EN R kf sf tf mf k j z).2.1 (clq n TU SI EN R kf sf tf mf k j z).2.2.1 S2 n s w fo mo ah ss sc tx TU SI EN (TBk t0 kd) ∧ Fr bP h h2) := by
  intro k
  induction k with
  | zero =>
    intro j h S z hj H HX B
    have := HX.2.1; have := HX.2.2.2.1
    have tj := tin (show j < 2 ^ 31 by omega)
    have tc := tin (show c < 2 ^ 31 by omega)
    have e7 : gI h 1 102 7 = some z.1 := by unfold gI; rw [ob_of H.1]; rfl
    refine ⟨fun _ => ⟨h, S, ?_, H, Fr.rf⟩, fun i q => (by cases q)⟩
    rw [Hands_run_34_e, HX.q2]
    simp only [Option.bind_some]
    rw [if_pos (tile.mpr (by omega)), e7]
    rfl
  | succ k ih =>
    intro j h S z hj H HX B
    have := HX.2.1; have := HX.2.2.2.1
    have tj := tin (show j < 2 ^ 31 by omega)
    have tc := tin (show c < 2 ^ 31 by omega)
    have er : Hands_run_34 102 92 (nI j) h = Hands_run_44 102 92 (nI j) (nI 0) h := by
      rw [Hands_run_34_e, HX.q2]
      simp only [Option.bind_some]
      rw [if_neg (fun y => by have := tile.mp y; omega)]
      rfl
    obtain ⟨i1, i2⟩ := Hands_run_44_l HSm (show j < c by omega) (hk j (by omega)) h0 (mf j).toInt.toNat 0 h S z (by omega) H HX B
    rw [er]
    unfold clq
    generalize tmq n TU SI EN R kf sf tf j (mf j).toInt.toNat z = y at *
    by_cases q : y.1 = true
    · rw [if_pos q]
      obtain ⟨h1, S1, x1, x2, x3⟩ := i1 q
      rw [x1]
      obtain ⟨j1, j2⟩ := ih (j + 1) h1 S1 y.2 (by omega) x2 (HX.fr x3 (fun a _ _ => bP_no (by omega))) (B.fr x3)
      refine ⟨fun q => ?_, fun i q => ?_⟩
      · obtain ⟨h2, S2, y1, y2, y3⟩ := j1 q
        exact ⟨h2, S2, y1, y2, x3.tr y3⟩
      · obtain ⟨h2, S2, kd, y1, y2, y3, y4⟩ := j2 i q
        exact ⟨h2, S2, kd, y1, y2, y3, x3.tr y4⟩
    · rw [if_neg q]
      refine ⟨fun q => (by cases q), fun i qi => ?_⟩
      obtain rfl : j = i := Option.some.inj qi
      exact i2 q
abbrev cP : Nat → Prop := fun a => bP a ∨ (103 ≤ a ∧ a < 155)
theorem Hands_run_v {h : am_H} {t t1 : HSt} (H : HWo h st dn la S n s w fo mo ah ss sc tx TU SI EN t) (HX : TxA h 92 N c nC nK al cf kf sf tf mf) (HSm : TxSemH N c nC nK al cf kf sf tf mf R) (hk : ∀ j, j < c → kf j = 0 ∨ kf j = 1 ∨ kf j = 2) (B : Bf h t1) : ((clq n TU SI EN R kf sf tf mf c 0 (0, -1, t)).1 = none → ∃ h2 S2, Hands_run 102 92 h = some ((clq n TU SI EN R kf sf tf mf c 0 (0, -1, t)).2.1, h2) ∧ HWo h2 st (clq n TU SI EN R kf sf tf mf c 0 (0, -1, t)).2.1 (clq n TU SI EN R kf sf tf mf c 0 (0, -1, t)).2.2.1 S2 n s w fo mo ah ss sc tx TU SI EN (clq n TU SI EN R kf sf tf mf c 0 (0, -1, t)).2.2.2 ∧ Bf h2 t ∧ Fr cP h h2) ∧ (∀ i, (clq n TU SI EN R kf sf tf mf c 0 (0, -1, t)).1 = some i → ∃ h2 S2 kd, Hands_run 102 92 h = some (-3, h2) ∧ (∀ i, i < 16 → kd i = t.kd i) ∧ HWo h2 (nI i) (clq n TU SI EN R kf sf tf mf c 0 (0, -1, t)).2.1 (clq n TU SI EN R kf sf tf mf c 0 (0, -1, t)).2.2.1 S2 n s w fo mo ah ss sc tx TU SI EN (TBk t kd) ∧ Bf h2 t ∧ Fr cP h h2) := by
  have H0 := H
  obtain ⟨⟨n2, s2, w2, fo2, mo2, ah2, ss2, sc2, tx2, b1⟩, b2, ⟨kd, b3, b4⟩, b5⟩ := B
  obtain ⟨a1, a2, a3, a4, a5, ⟨wf, a6⟩, a7⟩ := H
  obtain ⟨⟨sk, b98⟩, _⟩ := a2.2.1
  obtain ⟨h1, e1, q1, F1⟩ := Table_copyHeaps_v (T := 103) (S := 3) (by omega) b1 a2.2.2.1 b2 a3
  have N1 : ∀ a, a < 108 ∨ 120 ≤ a → ¬ trP 103 a := fun a ha z => by have := z.1; have := z.2; omega
  have c1 := (F1 102 (N1 _ (by omega))).trans a1
  obtain ⟨h2, kd3, e2, p2, k2, r2, F2⟩ := Past_copy_v (P := 120) (Q := 56) (by omega) (b3.fr F1 (fun a _ _ => N1 a (by omega))) (a4.fr F1 (fun a _ _ => N1 a (by omega))) (b5.fr F1 (fun a _ _ => N1 a (by omega))) (a5.fr F1 (fun a _ _ => N1 a (by omega)))
  have N2 : ∀ a, a < 120 ∨ 155 ≤ a → ¬ paP 120 a := fun a ha z => by have := z.1; have := z.2; omega
  have c2 := (F2 102 (N2 _ (by omega))).trans c1
  have F12 : Fr (fun a => 103 ≤ a ∧ a < 155) h h2 := (F1.mono (fun a z => by have := z.1; have := z.2; omega)).tr (F2.mono (fun a z => by have := z.1; have := z.2; omega))
  have H2 : HWo h2 st dn la S n s w fo mo ah ss sc tx TU SI EN t := H0.fr1 F12 (fun x z => by have := z.1; have := z.2; omega) c2 ⟨sk, (F12 98 (by omega)).trans b98⟩ ⟨wf, (F12 155 (by omega)).trans a6⟩
  have B2 : Bf h2 t := ⟨⟨n2, s2, w2, fo2, mo2, ah2, ss2, sc2, tx2, (b1.fr F1 (fun a _ _ => N1 a (by omega))).fr F2 (fun a _ _ => N2 a (by omega))⟩, q1.fr F2 (fun a _ _ => N2 a (by omega)), ⟨kd3, p2, k2⟩, r2⟩
  have X2 : TxA h2 92 N c nC nK al cf kf sf tf mf := HX.fr F12 (fun a _ _ => by omega)
  have e7 : pV h2 1 102 7 (.int (0 : Int32)) = some (h2.set 102 (.inr (1, hanF st 0 la))) := by unfold pV; rw [ob_of c2]; rfl
  have H3 := H2.put 0 la
  have e8 : pV (h2.set 102 (.inr (1, hanF st 0 la))) 1 102 8 (.int (-1 : Int32)) = some ((h2.set 102 (.inr (1, hanF st 0 la))).set 102 (.inr (1, hanF st 0 (-1)))) := by unfold pV; rw [ob_of H3.1]; rfl
  have H4 := H3.put 0 (-1)
  have F4 : Fr bP h2 ((h2.set 102 (.inr (1, hanF st 0 la))).set 102 (.inr (1, hanF st 0 (-1)))) := (Fr.set (Or.inr (Or.inl rfl))).tr (Fr.set (Or.inr (Or.inl rfl)))
  have u4 : gR h 1 102 4 = some 103 := by unfold gR; rw [ob_of a1]; rfl
  have u1 : gR h 1 102 1 = some 3 := by unfold gR; rw [ob_of a1]; rfl
  have u5 : gR h1 1 102 5 = some 120 := by unfold gR; rw [ob_of c1]; rfl
  have u2 : gR h1 1 102 2 = some 56 := by unfold gR; rw [ob_of c1]; rfl
  generalize (h2.set 102 (.inr (1, hanF st 0 la))).set 102 (.inr (1, hanF st 0 (-1))) = h4 at *
  have er : Hands_run 102 92 h = Hands_run_34 102 92 (nI 0) h4 := by
    unfold Hands_run
    rw [if_pos (isO_of a1), u4, u1]
    simp only [Option.bind_some]
    rw [e1]
    simp only [Option.bind_some]
    rw [u5, u2]
    simp only [Option.bind_some]
    rw [e2]
    simp only [Option.bind_some]
    rw [e7]
    simp only [Option.bind_some]
    rw [e8]
    rfl
  have FC : Fr cP h h4 := (F12.mono (fun a z => Or.inr z)).tr (F4.mono (fun a z => Or.inl z))
  obtain ⟨j1, j2⟩ := Hands_run_34_l HSm hk a7 c 0 h4 S (0, -1, t) (by omega) H4 (X2.fr F4 (fun a _ _ => bP_no (by omega))) (B2.fr F4)
  rw [er]
  refine ⟨fun q => ?_, fun i q => ?_⟩
  · obtain ⟨h5, S5, y1, y2, y3⟩ := j1 q
    exact ⟨h5, S5, y1, y2, (B2.fr F4).fr y3, FC.tr (y3.mono (fun a z => Or.inl z))⟩
  · obtain ⟨h5, S5, kd5, y1, y2, y3, y4⟩ := j2 i q
    exact ⟨h5, S5, kd5, y1, y2, y3, (B2.fr F4).fr y4, FC.tr (y4.mono (fun a z => Or.inl z))⟩
end Run
