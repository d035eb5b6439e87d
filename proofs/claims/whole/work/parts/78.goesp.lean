/-! PURE: how long a row goes on by the law in force -/
/-- the law in force tells TU, SI, EN of every row -/
def LawF (h : am_H) (fo mo : Int32) (tx : Nat → Option Nat) (TU SI : Po → Int32) (EN : Po → Bool) : Prop := (∀ p, okP p → LkR h fo mo tx p (TU p) (SI p) (EN p)) ∧ ∀ p q, okP p → eqm p q → TU p = TU q ∧ SI p = SI q ∧ EN p = EN q
def cst (TU SI : Po → Int32) (EN : Po → Bool) (p : Po) : Nat := lkh p.2.1 (TU p) (SI p) (EN p)
def nxp (TU SI : Po → Int32) (p : Po) : Po := stq (TU p).toInt.toNat (SI p).toInt.toNat p
def sqn (TU SI : Po → Int32) (p : Po) : Nat → Po
  | 0 => p
  | k + 1 => nxp TU SI (sqn TU SI p k)
def StW (h : am_H) (S : Nat → Int32) (n s w : Nat) (fo mo ah : Int32) (ss sc : Nat → Int32) (tx : Nat → Option Nat) (TU SI : Po → Int32) (EN : Po → Bool) : Prop := h[99]? = some (.inr (6, stpF S)) ∧ Scr h ∧ TbA h 3 n s w fo mo ah ss sc tx ∧ (-1 ≤ fo.toInt ∧ fo.toInt < 6) ∧ LawF h fo mo tx TU SI EN
theorem LkR.fr {P : Nat → Prop} {h h2 : am_H} {fo mo : Int32} {tx : Nat → Option Nat} {p : Po} {tu si : Int32} {en : Bool} (H : LkR h fo mo tx p tu si en) (F : Fr P h h2) (hp : ∀ x, P x → x ≤ 200) : LkR h2 fo mo tx p tu si en := by
  rcases H with z | ⟨a, n1, c1, nC, nK, al, cf, kf, sf, tf, mf, Rr, q0, q1, q2, HA, rest⟩
  · exact Or.inl z
  · exact Or.inr ⟨a, n1, c1, nC, nK, al, cf, kf, sf, tf, mf, Rr, q0, q1, q2, HA.fr F (fun x h1 _ z => by have := hp x z; omega), rest⟩
theorem LawF.fr {P : Nat → Prop} {h h2 : am_H} {fo mo : Int32} {tx : Nat → Option Nat} {TU SI : Po → Int32} {EN : Po → Bool} (H : LawF h fo mo tx TU SI EN) (F : Fr P h h2) (hp : ∀ x, P x → x ≤ 200) : LawF h2 fo mo tx TU SI EN := ⟨fun p h1 => (H.1 p h1).fr F hp, H.2⟩
abbrev rOk (r : Nat) : Prop := 8 ≤ r ∧ r ≤ 175 ∧ (r + 1 < 98 ∨ 101 < r)
section Worlds
variable {h : am_H} {S : Nat → Int32} {r c : Nat} {p : Po} {n s w : Nat} {fo mo ah : Int32} {ss sc : Nat → Int32} {tx : Nat → Option Nat} {TU SI : Po → Int32} {EN : Po → Bool}
theorem StW.fr {P : Nat → Prop} {h2 : am_H} (H : StW h S n s w fo mo ah ss sc tx TU SI EN) (F : Fr P h h2) (hp : ∀ x, P x → 8 ≤ x ∧ x ≤ 200 ∧ (x < 98 ∨ 100 < x)) : StW h2 S n s w fo mo ah ss sc tx TU SI EN := by
  obtain ⟨a1, ⟨⟨sk, a2⟩, wf, a3⟩, a4, a5, a6⟩ := H
  refine ⟨(F _ (fun z => ?_)).trans a1, ⟨⟨sk, (F _ (fun z => ?_)).trans a2⟩, wf, (F _ (fun z => ?_)).trans a3⟩, a4.fr F (fun x _ _ z => by have := hp x z; omega), a5, a6.fr F (fun x z => (hp x z).2.1)⟩
  · have := hp _ z; omega
  · have := hp _ z; omega
  · have := hp _ z; omega
theorem StW.look (H : StW h S n s w fo mo ah ss sc tx TU SI EN) (HR : RowAt h r c p) (ho : okP p) (hr : rOk r) : ∃ h2, Steps_look 99 r h = some (nI (cst TU SI EN p), h2) ∧ StW h2 (upd (upd S 0 (TU p)) 1 (SI p)) n s w fo mo ah ss sc tx TU SI EN ∧ Fr lP h h2 := by
  obtain ⟨a1, a2, a4, a5, a6⟩ := H
  obtain ⟨h2, e, g1, g2, F⟩ := Steps_look_v a1 a2 a4 a5 HR ho.1 (by omega) (a6.1 p ho)
  exact ⟨h2, e, ⟨g1, g2, a4.fr F (fun x _ _ z => by rcases z with z | z | z <;> omega), a5, a6.fr F (fun x z => by rcases z with z | z | z <;> omega)⟩, F⟩
theorem cst3 (hc : cst TU SI EN p = 3) : EN p = false ∧ 0 ≤ (TU p).toInt ∧ (TU p).toInt ≤ p.2.1 ∧ 0 ≤ (SI p).toInt ∧ (SI p).toInt ≤ p.2.1 := by
  unfold cst lkh at hc
  cases he : EN p with
  | true => rw [he, if_pos rfl] at hc; cases hc
  | false =>
    rw [he, if_neg (by decide)] at hc
    by_cases q : 0 ≤ (TU p).toInt ∧ (TU p).toInt ≤ p.2.1 ∧ 0 ≤ (SI p).toInt ∧ (SI p).toInt ≤ p.2.1
    · exact ⟨rfl, q⟩
    · rw [if_neg q] at hc; cases hc
theorem okP.nx (ho : okP p) (hc : cst TU SI EN p = 3) : okP (nxp TU SI p) := by
  obtain ⟨_, q1, q2, q3, q4⟩ := cst3 hc
  obtain ⟨h1, h2, h3, h4, h5⟩ := ho
  refine ⟨h1, h2, fun i hi => ?_, ?_, ?_⟩
  · have hi2 : i < p.2.1 := hi
    have hm : (i + (SI p).toInt.toNat) % p.2.1 < p.2.1 := Nat.mod_lt _ (by omega)
    have key : ∀ x, (rv p.1 (TU p).toInt.toNat ((i + (SI p).toInt.toNat) % p.2.1)) = x → 0 ≤ x.toInt ∧ x.toInt ≤ 13 := by
      intro x hx
      unfold rv at hx
      split at hx
      · rw [← hx]; exact h3 _ (by omega)
      · rw [← hx]; exact h3 _ hm
    exact key _ rfl
  · show 0 ≤ (nI (TU p).toInt.toNat).toInt
    rw [tin (by omega)]; omega
  · show (nI (TU p).toInt.toNat).toInt ≤ 13
    rw [tin (by omega)]; omega
theorem StW.make (H : StW h S n s w fo mo ah ss sc tx TU SI EN) (h0 : S 0 = TU p) (h1 : S 1 = SI p) (hc : cst TU SI EN p = 3) (HR : RowAt h r c p) (hcl : c ≤ 9999) (ho : okP p) (hr : rOk r) : ∃ h2, Steps_make 99 r h = some h2 ∧ StW h2 S n s w fo mo ah ss sc tx TU SI EN ∧ RowAt h2 r (min (c + 1) 9999) (nxp TU SI p) ∧ Fr (rP r) h h2 := by
  obtain ⟨_, q1, q2, q3, q4⟩ := cst3 hc
  have e0 : TU p = nI (TU p).toInt.toNat := by apply Int32.toInt_inj.mp; have := ho.2.1; rw [tin (by omega)]; omega
  have e1 : SI p = nI (SI p).toInt.toNat := by apply Int32.toInt_inj.mp; have := ho.2.1; rw [tin (by omega)]; omega
  obtain ⟨h2, e, R2, F⟩ := Steps_make_v H.1 (h0.trans e0) (h1.trans e1) HR hcl (by omega) (by omega) (by omega)
  exact ⟨h2, e, H.fr F (fun x z => by rcases z with z | z <;> omega), R2, F⟩
/-- behind how many steps it ends -/
def ebq (TU SI : Po → Int32) (EN : Po → Bool) : Nat → Nat → Po → Option Nat
  | 0, n, p => if cst TU SI EN p = 0 then some n else none
  | f + 1, n, p => if cst TU SI EN p = 0 then some n else if cst TU SI EN p = 3 then ebq TU SI EN f (n + 1) (nxp TU SI p) else none
theorem cst_q {q : Po} (HL : LawF h fo mo tx TU SI EN) (ho : okP p) (he : eqm p q) : cst TU SI EN p = cst TU SI EN q := by
  obtain ⟨e1, e2, e3⟩ := HL.2 p q ho he
  unfold cst; rw [e1, e2, e3, he.1]
theorem nxp_q {q : Po} (HL : LawF h fo mo tx TU SI EN) (ho : okP p) (he : eqm p q) (hc : cst TU SI EN p = 3) : eqm (nxp TU SI p) (nxp TU SI q) := by
  obtain ⟨e1, e2, e3⟩ := HL.2 p q ho he
  obtain ⟨_, q1, q2, q3, q4⟩ := cst3 hc
  unfold nxp stq
  rw [← e1, ← e2, ← he.1]
  refine ⟨rfl, fun i hi => ?_⟩
  have hi2 : i < p.2.1 := hi
  have hm : (i + (SI p).toInt.toNat) % p.2.1 < p.2.1 := Nat.mod_lt _ (by omega)
  show rv p.1 _ _ = rv q.1 _ _
  unfold rv
  split
  · exact he.2 _ (by omega)
  · exact he.2 _ hm
theorem sqn_add (a b : Nat) : sqn TU SI (sqn TU SI p a) b = sqn TU SI p (a + b) := by
  induction b with
  | zero => rfl
  | succ b ih => exact congrArg (nxp TU SI) ih
/-- once round, always going -/
theorem round_go {i j : Nat} (HL : LawF h fo mo tx TU SI EN) (ho : okP p) (hj : j < i) (hg : ∀ k, k ≤ i → cst TU SI EN (sqn TU SI p k) = 3) (he : eqm (sqn TU SI p i) (sqn TU SI p j)) : ∀ k, cst TU SI EN (sqn TU SI p k) = 3 ∧ okP (sqn TU SI p k) := by
  have key : ∀ u, (∀ k, k < i + u → cst TU SI EN (sqn TU SI p k) = 3 ∧ okP (sqn TU SI p k)) ∧ eqm (sqn TU SI p (i + u)) (sqn TU SI p (j + u)) ∧ okP (sqn TU SI p (i + u)) := by
    have base : ∀ k, k ≤ i → okP (sqn TU SI p k) := by
      intro k
      induction k with
      | zero => exact fun _ => ho
      | succ k ih => exact fun hk => (ih (by omega)).nx (hg k (by omega))
    intro u
    induction u with
    | zero => exact ⟨fun k hk => ⟨hg k (by omega), base k (by omega)⟩, he, base i (Nat.le_refl _)⟩
    | succ u ih =>
      obtain ⟨ih1, ih2, ih3⟩ := ih
      have c1 : cst TU SI EN (sqn TU SI p (j + u)) = 3 := (ih1 (j + u) (by omega)).1
      have c2 : cst TU SI EN (sqn TU SI p (i + u)) = 3 := (cst_q HL ih3 ih2).trans c1
      refine ⟨fun k hk => ?_, nxp_q HL ih3 ih2 c2, ih3.nx c2⟩
      by_cases q : k = i + u
      · subst q; exact ⟨c2, ih3⟩
      · exact ih1 k (by omega)
  intro k
  exact (key (k + 1)).1 k (by omega)
theorem ebq_none : ∀ (f m : Nat) (q : Po), (∀ k, cst TU SI EN (sqn TU SI q k) = 3) → ebq TU SI EN f m q = none := by
  intro f
  induction f with
  | zero =>
    intro m q hk
    have : cst TU SI EN q = 3 := hk 0
    show (if _ then _ else _) = _
    rw [this]; rfl
  | succ f ih =>
    intro m q hk
    have : cst TU SI EN q = 3 := hk 0
    show (if _ then _ else _) = _
    rw [this, if_neg (by decide), if_pos rfl]
    refine ih (m + 1) _ (fun k => ?_)
    have e : sqn TU SI (nxp TU SI q) k = sqn TU SI q (k + 1) := by
      have := sqn_add (TU := TU) (SI := SI) (p := q) 1 k
      rw [Nat.add_comm 1 k] at this
      exact this
    rw [e]; exact hk (k + 1)
abbrev eP (r : Nat) : Nat → Prop := fun a => lP a ∨ rP r a
theorem lP_lt {x : Nat} (h : lP x) : 98 ≤ x ∧ x ≤ 100 := by rcases h with z | z | z <;> omega
theorem cst_cases (p : Po) : cst TU SI EN p = 0 ∨ cst TU SI EN p = 1 ∨ cst TU SI EN p = 3 := by
  unfold cst lkh
  split
  · exact Or.inl rfl
  · split
    · exact Or.inr (Or.inr rfl)
    · exact Or.inr (Or.inl rfl)
theorem up2 {S : Nat → Int32} {a b : Int32} {k : Nat} (hk : 2 ≤ k) : upd (upd S 0 a) 1 b k = S k := by
  unfold upd; rw [if_neg (by omega), if_neg (by omega)]
theorem Steps_endsBehind_l {L : Nat} (hL : L ≤ 300) (hp : okP p) (hr : rOk r) : ∀ (f i : Nat) (h : am_H) (S : Nat → Int32) (c : Nat) (mk : Int64), i + f = L → StW h S n s w fo mo ah ss sc tx TU SI EN → RowAt h r c (sqn TU SI p i) → c ≤ 9999 → (∀ k, k < i → cst TU SI EN (sqn TU SI p k) = 3) → (∀ k, k ≤ i → okP (sqn TU SI p k)) → (mk = -1 ∨ ∃ j, j < i ∧ mk = pck (sqn TU SI p j)) → ∃ h2 S2, Steps_endsBehind_21 99 r (nI L) mk (nI i) h = some (oN (ebq TU SI EN f i (sqn TU SI p i)), h2) ∧ StW h2 S2 n s w fo mo ah ss sc tx TU SI EN ∧ (∃ c2 q2, RowAt h2 r c2 q2) ∧ Fr (eP r) h h2 ∧ ∀ k, 2 ≤ k → S2 k = S k := by
  have hm : ∀ k, (sqn TU SI p k).2.1 = p.2.1 ∧ (sqn TU SI p k).2.2.2 = p.2.2.2 := by
    intro k
    induction k with
    | zero => exact ⟨rfl, rfl⟩
    | succ k ih => exact ih
  intro f
  induction f with
  | zero =>
    intro i h S c mk hi HW HR hc hg ho hmk
    obtain rfl : i = L := by omega
    have ti := tin (show i < 2 ^ 31 by omega)
    obtain ⟨h1, e1, W1, F1⟩ := HW.look HR (ho i (Nat.le_refl _)) hr
    have R1 := HR.fr F1 (by rintro (z | z | z) <;> omega) (by rintro (z | z | z) <;> omega)
    rw [Steps_endsBehind_21_e, if_neg (fun z => by have := tilt.mp z; omega), e1]
    simp only [Option.bind_some]
    have FA : Fr (eP r) h h1 := F1.mono (fun x hx => Or.inl hx)
    rcases cst_cases (TU := TU) (SI := SI) (EN := EN) (sqn TU SI p i) with q | q | q
    · rw [q, if_neg (by decide), if_pos (show nI 0 = (0 : Int32) from rfl)]
      exact ⟨h1, _, by rw [show ebq TU SI EN 0 i (sqn TU SI p i) = some i from if_pos q]; rfl, W1, ⟨c, _, R1⟩, FA, fun k hk => up2 hk⟩
    · rw [q, if_neg (by decide), if_neg (by decide)]
      exact ⟨h1, _, by rw [show ebq TU SI EN 0 i (sqn TU SI p i) = none from if_neg (by rw [q]; decide)]; rfl, W1, ⟨c, _, R1⟩, FA, fun k hk => up2 hk⟩
    · rw [q, if_pos (show nI 3 = (3 : Int32) from rfl), R1.packed]
      simp only [Option.bind_some]
      have en : ebq TU SI EN 0 i (sqn TU SI p i) = none := if_neg (by rw [q]; decide)
      by_cases qm : lg_cmp (pkf (sqn TU SI p i).1 (sqn TU SI p i).2.2.1.toInt64 (sqn TU SI p i).2.1) mk = 0
      · rw [if_pos qm]
        exact ⟨h1, _, by rw [en]; rfl, W1, ⟨c, _, R1⟩, FA, fun k hk => up2 hk⟩
      · rw [if_neg qm]
        obtain ⟨h2, e2, W2, R2, F2⟩ := W1.make (p := sqn TU SI p i) rfl rfl q R1 hc (ho i (Nat.le_refl _)) hr
        have fin : ∀ mk2, Steps_endsBehind_80 99 r (nI i) mk2 (nI i) h1 = some (-1, h2) := fun mk2 => by
          rw [Steps_endsBehind_80_e, e2]
          simp only [Option.bind_some]
          rw [nI_p1, Steps_endsBehind_21_e, if_pos (tilt.mpr (by rw [tin (show i + 1 < 2 ^ 31 by omega)]; omega))]
        rw [fin, fin]
        refine ⟨h2, _, ?_, W2, ⟨_, _, R2⟩, FA.tr (F2.mono (fun x hx => Or.inr hx)), fun k hk => up2 hk⟩
        rw [en]
        split <;> rfl
  | succ f ih =>
    intro i h S c mk hi HW HR hc hg ho hmk
    have ti := tin (show i < 2 ^ 31 by omega)
    have tL := tin (show L < 2 ^ 31 by omega)
    obtain ⟨h1, e1, W1, F1⟩ := HW.look HR (ho i (Nat.le_refl _)) hr
    have R1 := HR.fr F1 (by rintro (z | z | z) <;> omega) (by rintro (z | z | z) <;> omega)
    rw [Steps_endsBehind_21_e, if_neg (fun z => by have := tilt.mp z; omega), e1]
    simp only [Option.bind_some]
    have FA : Fr (eP r) h h1 := F1.mono (fun x hx => Or.inl hx)
    rcases cst_cases (TU := TU) (SI := SI) (EN := EN) (sqn TU SI p i) with q | q | q
    · rw [q, if_neg (by decide), if_pos (show nI 0 = (0 : Int32) from rfl)]
      exact ⟨h1, _, by rw [show ebq TU SI EN (f + 1) i (sqn TU SI p i) = some i from if_pos q]; rfl, W1, ⟨c, _, R1⟩, FA, fun k hk => up2 hk⟩
    · rw [q, if_neg (by decide), if_neg (by decide)]
      exact ⟨h1, _, by rw [show ebq TU SI EN (f + 1) i (sqn TU SI p i) = none from (if_neg (by rw [q]; decide)).trans (if_neg (by rw [q]; decide))]; rfl, W1, ⟨c, _, R1⟩, FA, fun k hk => up2 hk⟩
    · have en : ebq TU SI EN (f + 1) i (sqn TU SI p i) = ebq TU SI EN f (i + 1) (sqn TU SI p (i + 1)) := (if_neg (by rw [q]; decide)).trans (if_pos q)
      rw [q, if_pos (show nI 3 = (3 : Int32) from rfl), R1.packed]
      simp only [Option.bind_some]
      by_cases qm : lg_cmp (pkf (sqn TU SI p i).1 (sqn TU SI p i).2.2.1.toInt64 (sqn TU SI p i).2.1) mk = 0
      · rw [if_pos qm]
        have qe : pck (sqn TU SI p i) = mk := cmp0.mp qm
        rcases hmk with z | ⟨j, hj, z⟩
        · exact absurd (qe.trans z) (pck_m1 (ho i (Nat.le_refl _)))
        · have ee := pck_inj (ho i (Nat.le_refl _)) (ho j (by omega)) ((hm i).1.trans (hm j).1.symm) ((hm i).2.trans (hm j).2.symm) (qe.trans z)
          have all := round_go HW.2.2.2.2 hp hj (fun k hk => by
            by_cases y : k = i
            · subst y; exact q
            · exact hg k (by omega)) ee
          refine ⟨h1, _, ?_, W1, ⟨c, _, R1⟩, FA, fun k hk => up2 hk⟩
          rw [ebq_none (f + 1) i (sqn TU SI p i) (fun k => by rw [sqn_add]; exact (all _).1)]; rfl
      · rw [if_neg qm]
        obtain ⟨h2, e2, W2, R2, F2⟩ := W1.make (p := sqn TU SI p i) rfl rfl q R1 hc (ho i (Nat.le_refl _)) hr
        have go : ∀ mk2, (mk2 = -1 ∨ ∃ j, j < i + 1 ∧ mk2 = pck (sqn TU SI p j)) → ∃ h3 S2, Steps_endsBehind_80 99 r (nI L) mk2 (nI i) h1 = some (oN (ebq TU SI EN (f + 1) i (sqn TU SI p i)), h3) ∧ StW h3 S2 n s w fo mo ah ss sc tx TU SI EN ∧ (∃ c2 q2, RowAt h3 r c2 q2) ∧ Fr (eP r) h h3 ∧ ∀ k, 2 ≤ k → S2 k = S k := fun mk2 hk2 => by
          obtain ⟨h3, S3, e3, W3, R3, F3, k3⟩ := ih (i + 1) h2 _ _ mk2 (by omega) W2 R2 (Nat.min_le_right _ _) (fun k hk => by
            by_cases y : k = i
            · subst y; exact q
            · exact hg k (by omega)) (fun k hk => by
            by_cases y : k = i + 1
            · subst y; exact (ho i (Nat.le_refl _)).nx q
            · exact ho k (by omega)) hk2
          refine ⟨h3, S3, ?_, W3, R3, (FA.tr (F2.mono (fun x hx => Or.inr hx))).tr F3, fun k hk => (k3 k hk).trans (up2 hk)⟩
          rw [Steps_endsBehind_80_e, e2]
          simp only [Option.bind_some]
          rw [nI_p1, e3, en]
        split
        · exact go _ (Or.inr ⟨i, by omega, rfl⟩)
        · exact go _ (by rcases hmk with z | ⟨j, hj, z⟩
                         · exact Or.inl z
                         · exact Or.inr ⟨j, by omega, z⟩)
theorem Steps_endsBehind_v {L : Nat} (hL : L ≤ 300) (hah : ah = nI L) (hp : okP p) (hr : rOk r) (HW : StW h S n s w fo mo ah ss sc tx TU SI EN) (HR : RowAt h r c p) (hc : c ≤ 9999) : ∃ h2 S2, Steps_endsBehind 99 r h = some (oN (ebq TU SI EN L 0 p), h2) ∧ StW h2 S2 n s w fo mo ah ss sc tx TU SI EN ∧ (∃ c2 q2, RowAt h2 r c2 q2) ∧ Fr (eP r) h h2 ∧ ∀ k, 2 ≤ k → S2 k = S k := by
  have tL := tin (show L < 2 ^ 31 by omega)
  have t3 : (300 : Int32).toInt = 300 := by decide
  obtain ⟨h2, S2, e, g⟩ := Steps_endsBehind_l hL hp hr L 0 h S c (-1) (by omega) HW HR hc (fun k hk => by omega) (fun k hk => by rw [show k = 0 by omega]; exact hp) (Or.inl rfl)
  refine ⟨h2, S2, ?_, g⟩
  have g8 : gR h 6 99 8 = some 3 := by unfold gR; rw [ob_of HW.1]; rfl
  have g5 : gI h 7 3 5 = some ah := by unfold gI; rw [ob_of HW.2.2.1.2.2.2.1]; rfl
  unfold Steps_endsBehind
  rw [if_pos (isO_of HW.1), g8]
  simp only [Option.bind_some]
  rw [g5]
  simp only [Option.bind_some]
  rw [hah, if_neg (fun z => by have := tilt.mp z; omega)]
  exact e
end Worlds
