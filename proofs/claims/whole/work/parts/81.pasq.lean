/-! PURE: what can be undone copied; cheats; evenings -/
section PastCopy
variable {P Q u x u2 x2 : Nat} {kd kd2 : Nat → Int32} {C2 : Nat → Nat} {D2 : Nat → Po}
theorem Past_copy_l (ha : P + 35 ≤ Q ∨ Q + 35 ≤ P) : ∀ (k i : Nat) (h : am_H) (kd : Nat → Int32) (C : Nat → Nat) (D : Nat → Po), i + k = 16 → PaA h P u x kd → PaA h Q u2 x2 kd2 → RwsA h (P + 3) 16 C D → RwsA h (Q + 3) 16 C2 D2 → (∀ j, j < i → C j = C2 j ∧ D j = D2 j ∧ kd j = kd2 j) → ∃ h2 kd3, Past_copy_18 P Q (nI i) h = some h2 ∧ PaA h2 P u x kd3 ∧ (∀ j, j < 16 → kd3 j = kd2 j) ∧ RwsA h2 (P + 3) 16 C2 D2 ∧ Fr (paP P) h h2 := by
  have t16 : (16 : Int32).toInt = 16 := by decide
  intro k
  induction k with
  | zero =>
    intro i h kd C D hk HP HQ H1 H2 he
    have ti := tin (show i < 2 ^ 31 by omega)
    refine ⟨h, kd, ?_, HP, fun j hj => (he j (by omega)).2.2, fun j hj => ?_, Fr.rf⟩
    · rw [Past_copy_18_e, if_pos (tile.mpr (by omega))]
    · have := H1 j hj
      rw [(he j (by omega)).1, (he j (by omega)).2.1] at this
      exact this
  | succ k ih =>
    intro i h kd C D hk HP HQ H1 H2 he
    have ti := tin (show i < 2 ^ 31 by omega)
    obtain ⟨h3, e3, G3, F3⟩ := (H1 i (by omega)).copy (H2 i (by omega)) (show apt (P + 3 + 2 * i) (Q + 3 + 2 * i) from ⟨by omega, by omega, by omega⟩)
    have F3' : Fr (paP P) h h3 := F3.mono (fun y hy => by rcases hy with hy | hy <;> (show P ≤ y ∧ _; omega))
    have P3 := HP.fr F3 (fun y _ _ z => by rcases z with z | z <;> omega)
    have Q3 := HQ.fr F3 (fun y _ _ z => by rcases z with z | z <;> omega)
    have F4 : Fr (fun a => a = P + 2) h3 (h3.set (P + 2) (.inl (0, 16, .inl (upd kd i (kd2 i))))) := Fr.set rfl
    have P4 := P3.setK (f := upd kd i (kd2 i))
    obtain ⟨h5, kd5, e5, g1, g2, g3, F5⟩ := ih (i + 1) _ _ _ _ (by omega) P4 (Q3.fr F4 (fun y _ _ z => by omega)) ((H1.up F3 G3).fr F4 (fun y _ _ z => by omega)) ((H2.fr F3 (fun y _ _ z => by rcases z with z | z <;> omega)).fr F4 (fun y _ _ z => by omega)) (fun j hj => by
      unfold up1 upd
      by_cases q : j = i
      · subst q; rw [if_pos rfl, if_pos rfl, if_pos rfl]; exact ⟨rfl, rfl, rfl⟩
      · rw [if_neg q, if_neg q, if_neg q]; exact he j (by omega))
    refine ⟨h5, kd5, ?_, g1, g2, g3, (F3'.tr (F4.mono (fun y hy => by show P ≤ y ∧ _; omega))).tr F5⟩
    rw [Past_copy_18_e, if_neg (fun z => by have := tile.mp z; omega), (HP.row (i := i) (by omega)).1]
    simp only [Option.bind_some]
    rw [(HP.row (i := i) (by omega)).2]
    simp only [Option.bind_some]
    rw [(HQ.row (i := i) (by omega)).1]
    simp only [Option.bind_some]
    rw [(HQ.row (i := i) (by omega)).2]
    simp only [Option.bind_some]
    rw [e3]
    simp only [Option.bind_some]
    rw [P3.g3, Q3.g3]
    simp only [Option.bind_some]
    rw [Q3.ak (by omega)]
    simp only [Option.bind_some]
    rw [P3.sk (by omega)]
    simp only [Option.bind_some]
    rw [nI_p1]
    exact e5
theorem Past_copy_v {h : am_H} {C : Nat → Nat} {D : Nat → Po} (ha : P + 35 ≤ Q ∨ Q + 35 ≤ P) (HP : PaA h P u x kd) (HQ : PaA h Q u2 x2 kd2) (H1 : RwsA h (P + 3) 16 C D) (H2 : RwsA h (Q + 3) 16 C2 D2) : ∃ h2 kd3, Past_copy P Q h = some h2 ∧ PaA h2 P u2 x2 kd3 ∧ (∀ j, j < 16 → kd3 j = kd2 j) ∧ RwsA h2 (P + 3) 16 C2 D2 ∧ Fr (paP P) h h2 := by
  have P1 := HP.set (u2 := u2) (x2 := x) HQ.1 HP.2.1
  have F1 : Fr (fun a => a = P) h (h.set P (.inr (2, pasF P (nI u2) (nI x)))) := Fr.set rfl
  have Q1 := HQ.fr F1 (fun y _ _ z => by omega)
  have P2 := P1.set (u2 := u2) (x2 := x2) HQ.1 HQ.2.1
  have F2 : Fr (fun a => a = P) (h.set P (.inr (2, pasF P (nI u2) (nI x)))) ((h.set P (.inr (2, pasF P (nI u2) (nI x)))).set P (.inr (2, pasF P (nI u2) (nI x2)))) := Fr.set rfl
  have F12 := F1.tr F2
  obtain ⟨h5, kd5, e5, g1, g2, g3, F5⟩ := Past_copy_l ha 16 0 _ kd C D (by omega) P2 (Q1.fr F2 (fun y _ _ z => by omega)) (H1.fr F12 (fun y _ _ z => by omega)) (H2.fr F12 (fun y _ _ z => by omega)) (fun j hj => by omega)
  refine ⟨h5, kd5, ?_, g1, g2, g3, (F12.mono (fun y hy => by show P ≤ y ∧ _; omega)).tr F5⟩
  unfold Past_copy
  rw [if_pos (isO_of HP.2.2.1), HQ.g0]
  simp only [Option.bind_some]
  rw [HP.p0]
  simp only [Option.bind_some]
  rw [Q1.g1]
  simp only [Option.bind_some]
  rw [P1.p1]
  exact e5
end PastCopy
/-! cheats -/
def chj (E : Nat → Nat → Int32) (c : Nat → Int32) (i : Nat) : Nat → Nat → Int32 × Int32 × Int32 → Int32 × Int32 × Int32
  | 0, _, t => t
  | k + 1, j, t => chj E c i k (j + 1) (if c i = c j then t else if E i j ≤ t.1 then t else (E i j, nI i, nI j))
def chi (E : Nat → Nat → Int32) (c : Nat → Int32) (m : Nat) : Nat → Nat → Int32 × Int32 × Int32 → Int32 × Int32 × Int32
  | 0, _, t => t
  | k + 1, i, t => chi E c m k (i + 1) (chj E c i (m - (i + 1)) (i + 1) t)
section Cheat
variable {h : am_H} {S : Nat → Int32} {r c : Nat} {p : Po} {n s w : Nat} {fo mo ah : Int32} {ss sc : Nat → Int32} {tx : Nat → Option Nat} {TU SI : Po → Int32} {EN : Po → Bool} {L : Nat}
theorem Steps_cheat_j (hL : L ≤ 300) (hah : ah = nI L) (hp : okP p) (hr : rOk r) (hr2 : apt 174 r) (hc : c ≤ 9999) {i : Nat} (hi : i < p.2.1) : ∀ (k j : Nat) (h : am_H) (S : Nat → Int32) (t : Int32 × Int32 × Int32), j + k = p.2.1 → StW h S n s w fo mo ah ss sc tx TU SI EN → RowAt h r c p → (∃ c2 q2, RowAt h 174 c2 q2) → S 5 = t.1 → S 6 = t.2.1 → S 7 = t.2.2 → i < j → ∃ h2 S2, StW h2 S2 n s w fo mo ah ss sc tx TU SI EN ∧ RowAt h2 r c p ∧ (∃ c2 q2, RowAt h2 174 c2 q2) ∧ S2 5 = (chj (fun a b => oN (ebq TU SI EN L 0 (swp p.1 a b, p.2))) p.1 i k j t).1 ∧ S2 6 = (chj (fun a b => oN (ebq TU SI EN L 0 (swp p.1 a b, p.2))) p.1 i k j t).2.1 ∧ S2 7 = (chj (fun a b => oN (ebq TU SI EN L 0 (swp p.1 a b, p.2))) p.1 i k j t).2.2 ∧ Fr (eP 174) h h2 ∧ Steps_lookForCheat_30 99 r 174 (nI i) (nI j) h = Steps_lookForCheat_17 99 r 174 (nI i + 1) h2 := by
  have hm := hp.2.1
  have tm := tin (show p.2.1 < 2 ^ 31 by omega)
  have tI := tin (show i < 2 ^ 31 by omega)
  intro k
  induction k with
  | zero =>
    intro j h S t hj HW HR HK s5 s6 s7 hij
    have tj := tin (show j < 2 ^ 31 by omega)
    rw [Steps_lookForCheat_30_e, HR.g1]
    simp only [Option.bind_some]
    rw [if_pos (tile.mpr (by omega))]
    exact ⟨h, S, HW, HR, HK, s5, s6, s7, Fr.rf, rfl⟩
  | succ k ih =>
    intro j h S t hj HW HR HK s5 s6 s7 hij
    have tj := tin (show j < 2 ^ 31 by omega)
    rw [Steps_lookForCheat_30_e, HR.g1]
    simp only [Option.bind_some]
    rw [if_neg (fun z => by have := tile.mp z; omega), HR.cardN hi, HR.cardN (show j < p.2.1 by omega)]
    simp only [Option.bind_some]
    by_cases q1 : p.1 i = p.1 j
    · rw [if_pos q1, Steps_lookForCheat_98_e, nI_p1]
      have e : chj (fun a b => oN (ebq TU SI EN L 0 (swp p.1 a b, p.2))) p.1 i (k + 1) j t = chj (fun a b => oN (ebq TU SI EN L 0 (swp p.1 a b, p.2))) p.1 i k (j + 1) t := by
        show chj _ _ _ k (j + 1) (if _ then _ else _) = _
        rw [if_pos q1]
      rw [e]
      exact ih (j + 1) h S t (by omega) HW HR HK s5 s6 s7 (by omega)
    · rw [if_neg q1]
      obtain ⟨c2, q2, HK⟩ := HK
      obtain ⟨h1, e1, R1, F1⟩ := HK.copy HR hr2
      have W1 := HW.fr F1 (fun y z => by rcases z with z | z <;> omega)
      have HR1 := HR.fr F1 (by obtain ⟨y1, y2, y3⟩ := hr2; rintro (z | z) <;> omega) (by obtain ⟨y1, y2, y3⟩ := hr2; rintro (z | z) <;> omega)
      obtain ⟨h2, e2, R2, F2⟩ := R1.exch (i := nI i) (j := nI j) (by omega) (by omega)
      rw [tI, tj, show (i : Int).toNat = i by omega, show (j : Int).toNat = j by omega] at R2
      have W2 := W1.fr F2 (fun y z => by rcases z with z | z <;> omega)
      have HR2 := HR1.fr F2 (by obtain ⟨y1, y2, y3⟩ := hr2; rintro (z | z) <;> omega) (by obtain ⟨y1, y2, y3⟩ := hr2; rintro (z | z) <;> omega)
      have okS : okP (swp p.1 i j, p.2) := by
        refine ⟨hp.1, hp.2.1, fun a ha => ?_, hp.2.2.2⟩
        have ha2 : a < p.2.1 := ha
        have key : ∀ x, swp p.1 i j a = x → 0 ≤ x.toInt ∧ x.toInt ≤ 13 := by
          intro x hx
          unfold swp upd at hx
          split at hx
          · rw [← hx]; exact hp.2.2.1 _ hi
          · split at hx
            · rw [← hx]; exact hp.2.2.1 _ (by omega)
            · rw [← hx]; exact hp.2.2.1 _ ha2
        exact key _ rfl
      obtain ⟨h3, S3, e3, W3, R3, F3, k3⟩ := Steps_endsBehind_v hL hah okS (show rOk 174 by omega) W2 R2 hc
      have HR3 := HR2.fr F3 (by obtain ⟨y1, y2, y3⟩ := hr2; rintro ((z | z | z) | z | z) <;> omega) (by obtain ⟨y1, y2, y3⟩ := hr2; rintro ((z | z | z) | z | z) <;> omega)
      rw [e1]
      simp only [Option.bind_some]
      rw [e2]
      simp only [Option.bind_some]
      rw [e3]
      simp only [Option.bind_some]
      have g5 : gI h3 6 99 5 = some t.1 := stp_g W3.1 (by rw [← s5, ← k3 5 (by decide)]; rfl)
      rw [g5]
      simp only [Option.bind_some]
      have FA : Fr (eP 174) h h3 := (((F1.mono (fun y hy => Or.inr hy)).tr (F2.mono (fun y hy => Or.inr hy)))).tr F3
      by_cases q3 : oN (ebq TU SI EN L 0 (swp p.1 i j, p.2)) ≤ t.1
      · rw [if_pos q3, Steps_lookForCheat_98_e, nI_p1]
        have e : chj (fun a b => oN (ebq TU SI EN L 0 (swp p.1 a b, p.2))) p.1 i (k + 1) j t = chj (fun a b => oN (ebq TU SI EN L 0 (swp p.1 a b, p.2))) p.1 i k (j + 1) t := by
          show chj _ _ _ k (j + 1) (if _ then _ else _) = _
          rw [if_neg q1, if_pos q3]
        rw [e]
        obtain ⟨h4, S4, a1, a2, a3, a4, a5, a6, a7, a8⟩ := ih (j + 1) h3 S3 t (by omega) W3 HR3 R3 ((k3 5 (by decide)).trans s5) ((k3 6 (by decide)).trans s6) ((k3 7 (by decide)).trans s7) (by omega)
        exact ⟨h4, S4, a1, a2, a3, a4, a5, a6, FA.tr a7, a8⟩
      · rw [if_neg q3]
        obtain ⟨p5, W5, F5⟩ := W3.put 5 (by decide) (oN (ebq TU SI EN L 0 (swp p.1 i j, p.2))) rfl
        obtain ⟨p6, W6, F6⟩ := W5.put 6 (by decide) (nI i) rfl
        obtain ⟨p7, W7, F7⟩ := W6.put 7 (by decide) (nI j) rfl
        rw [p5]
        simp only [Option.bind_some]
        rw [p6]
        simp only [Option.bind_some]
        rw [p7]
        simp only [Option.bind_some]
        rw [Steps_lookForCheat_98_e, nI_p1]
        have e : chj (fun a b => oN (ebq TU SI EN L 0 (swp p.1 a b, p.2))) p.1 i (k + 1) j t = chj (fun a b => oN (ebq TU SI EN L 0 (swp p.1 a b, p.2))) p.1 i k (j + 1) (oN (ebq TU SI EN L 0 (swp p.1 i j, p.2)), nI i, nI j) := by
          show chj _ _ _ k (j + 1) (if _ then _ else _) = _
          rw [if_neg q1, if_neg q3]
        rw [e]
        have FB := (F5.tr F6).tr F7
        have nl : ∀ y : Nat, (y < 98 ∨ 100 < y) → ¬ lP y := fun y hy z => by have := lP_lt z; omega
        obtain ⟨c9, q9, R9⟩ := R3
        obtain ⟨h4, S4, a1, a2, a3, a4, a5, a6, a7, a8⟩ := ih (j + 1) _ _ (oN (ebq TU SI EN L 0 (swp p.1 i j, p.2)), nI i, nI j) (by omega) W7 (HR3.fr FB (nl _ (by omega)) (nl _ (by omega))) ⟨c9, q9, R9.fr FB (nl _ (by omega)) (nl _ (by omega))⟩ rfl rfl rfl (by omega)
        exact ⟨h4, S4, a1, a2, a3, a4, a5, a6, (FA.tr (FB.mono (fun y hy => Or.inl hy))).tr a7, a8⟩
theorem Steps_cheat_i (hL : L ≤ 300) (hah : ah = nI L) (hp : okP p) (hr : rOk r) (hr2 : apt 174 r) (hc : c ≤ 9999) : ∀ (k i : Nat) (h : am_H) (S : Nat → Int32) (t : Int32 × Int32 × Int32), i + k = p.2.1 → StW h S n s w fo mo ah ss sc tx TU SI EN → RowAt h r c p → (∃ c2 q2, RowAt h 174 c2 q2) → S 5 = t.1 → S 6 = t.2.1 → S 7 = t.2.2 → ∃ h2 S2, Steps_lookForCheat_17 99 r 174 (nI i) h = some h2 ∧ StW h2 S2 n s w fo mo ah ss sc tx TU SI EN ∧ (∃ c2 q2, RowAt h2 174 c2 q2) ∧ S2 5 = (chi (fun a b => oN (ebq TU SI EN L 0 (swp p.1 a b, p.2))) p.1 p.2.1 k i t).1 ∧ S2 6 = (chi (fun a b => oN (ebq TU SI EN L 0 (swp p.1 a b, p.2))) p.1 p.2.1 k i t).2.1 ∧ S2 7 = (chi (fun a b => oN (ebq TU SI EN L 0 (swp p.1 a b, p.2))) p.1 p.2.1 k i t).2.2 ∧ Fr (eP 174) h h2 := by
  have hm := hp.2.1
  have tm := tin (show p.2.1 < 2 ^ 31 by omega)
  intro k
  induction k with
  | zero =>
    intro i h S t hi HW HR HK s5 s6 s7
    have ti := tin (show i < 2 ^ 31 by omega)
    refine ⟨h, S, ?_, HW, HK, s5, s6, s7, Fr.rf⟩
    rw [Steps_lookForCheat_17_e, HR.g1]
    simp only [Option.bind_some]
    rw [if_pos (tile.mpr (by omega))]
  | succ k ih =>
    intro i h S t hi HW HR HK s5 s6 s7
    have ti := tin (show i < 2 ^ 31 by omega)
    rw [Steps_lookForCheat_17_e, HR.g1]
    simp only [Option.bind_some]
    rw [if_neg (fun z => by have := tile.mp z; omega), nI_p1]
    obtain ⟨h2, S2, a1, a2, a3, a4, a5, a6, a7, a8⟩ := Steps_cheat_j hL hah hp hr hr2 hc (show i < p.2.1 by omega) (p.2.1 - (i + 1)) (i + 1) h S t (by omega) HW HR HK s5 s6 s7 (by omega)
    obtain ⟨h3, S3, e3, b1, b2, b3, b4, b5, F3⟩ := ih (i + 1) h2 S2 _ (by omega) a1 a2 a3 a4 a5 a6
    refine ⟨h3, S3, ?_, b1, b2, b3, b4, b5, a7.tr F3⟩
    rw [a8, nI_p1]; exact e3
theorem Steps_lookForCheat_v (hL : L ≤ 300) (hah : ah = nI L) (hp : okP p) (hr : rOk r) (hr2 : apt 174 r) (hc : c ≤ 9999) (HW : StW h S n s w fo mo ah ss sc tx TU SI EN) (HR : RowAt h r c p) (HK : ∃ c2 q2, RowAt h 174 c2 q2) : ∃ h2 S2, Steps_lookForCheat 99 r 174 h = some h2 ∧ StW h2 S2 n s w fo mo ah ss sc tx TU SI EN ∧ (∃ c2 q2, RowAt h2 174 c2 q2) ∧ S2 5 = (chi (fun a b => oN (ebq TU SI EN L 0 (swp p.1 a b, p.2))) p.1 p.2.1 p.2.1 0 (-1, -1, -1)).1 ∧ S2 6 = (chi (fun a b => oN (ebq TU SI EN L 0 (swp p.1 a b, p.2))) p.1 p.2.1 p.2.1 0 (-1, -1, -1)).2.1 ∧ S2 7 = (chi (fun a b => oN (ebq TU SI EN L 0 (swp p.1 a b, p.2))) p.1 p.2.1 p.2.1 0 (-1, -1, -1)).2.2 ∧ Fr (eP 174) h h2 := by
  obtain ⟨p5, W5, F5⟩ := HW.put 5 (by decide) (-1) rfl
  obtain ⟨p6, W6, F6⟩ := W5.put 6 (by decide) (-1) rfl
  obtain ⟨p7, W7, F7⟩ := W6.put 7 (by decide) (-1) rfl
  have FB := (F5.tr F6).tr F7
  have nl : ∀ y : Nat, (y < 98 ∨ 100 < y) → ¬ lP y := fun y hy z => by have := lP_lt z; omega
  obtain ⟨c9, q9, R9⟩ := HK
  obtain ⟨h3, S3, e3, b1, b2, b3, b4, b5, F3⟩ := Steps_cheat_i hL hah hp hr hr2 hc p.2.1 0 _ _ (-1, -1, -1) (by omega) W7 (HR.fr FB (nl _ (by omega)) (nl _ (by omega))) ⟨c9, q9, R9.fr FB (nl _ (by omega)) (nl _ (by omega))⟩ rfl rfl rfl
  refine ⟨h3, S3, ?_, b1, b2, b3, b4, b5, (FB.mono (fun y hy => Or.inl hy)).tr F3⟩
  unfold Steps_lookForCheat
  rw [if_pos (isO_of HW.1), p5]
  simp only [Option.bind_some]
  rw [p6]
  simp only [Option.bind_some]
  rw [p7]
  exact e3
end Cheat
