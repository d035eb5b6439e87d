/-! PURE: the world of changes by hand: every case of a step, a swap, a cut -/
/-- the heaps on the table and those kept to undo -/
abbrev HSt : Type := (Nat → Nat) × (Nat → Po) × Nat × Nat × (Nat → Int32) × (Nat → Nat) × (Nat → Po)
abbrev HSt.C (t : HSt) : Nat → Nat := t.1
abbrev HSt.D (t : HSt) : Nat → Po := t.2.1
abbrev HSt.u (t : HSt) : Nat := t.2.2.1
abbrev HSt.x (t : HSt) : Nat := t.2.2.2.1
abbrev HSt.kd (t : HSt) : Nat → Int32 := t.2.2.2.2.1
abbrev HSt.C2 (t : HSt) : Nat → Nat := t.2.2.2.2.2.1
abbrev HSt.D2 (t : HSt) : Nat → Po := t.2.2.2.2.2.2
/-- heap j kept, and become p with c claps -/
def HSt.kp (t : HSt) (j : Nat) (k : Int32) (c : Nat) (p : Po) : HSt := (up1 t.C j c, up1 t.D j p, min (t.u + 1) 16, (t.x + 1) % 16, upd t.kd t.x k, up1 t.C2 t.x (t.C j), up1 t.D2 t.x (t.D j))
def HSt.ok (n : Nat) (t : HSt) : Prop := ∀ j, j < n → okP (t.D j) ∧ t.C j ≤ 9999
theorem HSt.ok.kp {n : Nat} {t : HSt} (H : t.ok n) {j c : Nat} {k : Int32} {p : Po} (hc : c ≤ 9999) (hp : okP p) : (t.kp j k c p).ok n := by
  intro i hi
  show okP (up1 t.D j p i) ∧ up1 t.C j c i ≤ 9999
  unfold up1
  by_cases q : i = j
  · rw [if_pos q, if_pos q]; exact ⟨hp, hc⟩
  · rw [if_neg q, if_neg q]; exact H i hi
theorem okP.sw {p : Po} (H : okP p) {a b : Nat} (ha : a < p.2.1) (hb : b < p.2.1) : okP (swp p.1 a b, p.2) := by
  obtain ⟨h1, h2, h3, h4⟩ := H
  refine ⟨h1, h2, fun i hi => ?_, h4⟩
  have hi2 : i < p.2.1 := hi
  show 0 ≤ (swp p.1 a b i).toInt ∧ (swp p.1 a b i).toInt ≤ 13
  unfold swp upd
  by_cases q1 : i = b
  · rw [if_pos q1]; exact h3 a ha
  · rw [if_neg q1]
    by_cases q2 : i = a
    · rw [if_pos q2]; exact h3 b hb
    · rw [if_neg q2]; exact h3 i hi2
theorem okP.cu {p : Po} (H : okP p) (k : Nat) : okP (fun i => p.1 ((i + k) % p.2.1), p.2) := by
  obtain ⟨h1, h2, h3, h4⟩ := H
  exact ⟨h1, h2, fun i _ => h3 _ (Nat.mod_lt _ (by omega)), h4⟩
theorem inN_n {y : Int32} {n : Nat} (hn : n < 2 ^ 31) (h : inN y n) : y = nI y.toInt.toNat ∧ y.toInt.toNat < n := by
  have h1 := h.1
  have h2 := h.2
  exact ⟨Int32.toInt_inj.mp (by rw [tin (by omega)]; omega), by omega⟩
def trq (n : Nat) (TU SI : Po → Int32) (EN : Po → Bool) (t : HSt) (y : Int32) : Int32 × HSt := if inN y n then (if cst TU SI EN (t.D y.toInt.toNat) = 3 then (nI (min (t.C y.toInt.toNat + 1) 9999), t.kp y.toInt.toNat 0 (min (t.C y.toInt.toNat + 1) 9999) (nxp TU SI (t.D y.toInt.toNat))) else (-3, t)) else (-2, t)
def exq (n : Nat) (t : HSt) (y a b : Int32) : Int32 × HSt := if inN y n then (if a ≠ b ∧ inN a (t.D y.toInt.toNat).2.1 ∧ inN b (t.D y.toInt.toNat).2.1 then (swp (t.D y.toInt.toNat).1 a.toInt.toNat b.toInt.toNat 0, t.kp y.toInt.toNat 1 (t.C y.toInt.toNat) (swp (t.D y.toInt.toNat).1 a.toInt.toNat b.toInt.toNat, (t.D y.toInt.toNat).2)) else (-1, t)) else (-2, t)
def lfq (n : Nat) (t : HSt) (y b : Int32) : Int32 × HSt := if inN y n then (if 1 ≤ b.toInt ∧ b.toInt ≤ (t.D y.toInt.toNat).2.1 then ((t.D y.toInt.toNat).1 (b.toInt.toNat % (t.D y.toInt.toNat).2.1), t.kp y.toInt.toNat 2 (t.C y.toInt.toNat) (fun i => (t.D y.toInt.toNat).1 ((i + b.toInt.toNat) % (t.D y.toInt.toNat).2.1), (t.D y.toInt.toNat).2)) else (-1, t)) else (-2, t)
def HWo (h : am_H) (st dn la : Int32) (S : Nat → Int32) (n s w : Nat) (fo mo ah : Int32) (ss sc : Nat → Int32) (tx : Nat → Option Nat) (TU SI : Po → Int32) (EN : Po → Bool) (t : HSt) : Prop := h[102]? = some (.inr (1, hanF st dn la)) ∧ StW h S n s w fo mo ah ss sc tx TU SI EN ∧ RwsA h 8 6 t.C t.D ∧ PaA h 56 t.u t.x t.kd ∧ RwsA h 59 16 t.C2 t.D2 ∧ (∃ wf, h[155]? = some (.inl (0, 21, .inl wf))) ∧ t.ok n
abbrev aP : Nat → Prop := fun a => lP a ∨ paP 56 a ∨ (8 ≤ a ∧ a < 20)
theorem hP_a {j a : Nat} (hj : j < 6) (h : hP j a) : aP a := by
  rcases h with z | z | z
  · exact Or.inr (Or.inl z)
  · exact Or.inr (Or.inr (by omega))
  · exact Or.inr (Or.inr (by omega))
theorem aP_no {a : Nat} (h : a < 8 ∨ (20 ≤ a ∧ a < 56) ∨ (91 ≤ a ∧ a < 98) ∨ 100 < a) : ¬ aP a := by
  rintro (z | z | z)
  · have := lP_lt z; omega
  · have := z.1; have := z.2; omega
  · omega
section Changes
variable {h : am_H} {S : Nat → Int32} {st dn la : Int32} {n s w : Nat} {fo mo ah : Int32} {ss sc : Nat → Int32} {tx : Nat → Option Nat} {TU SI : Po → Int32} {EN : Po → Bool} {t : HSt}
theorem Hands_tread_a (H : HWo h st dn la S n s w fo mo ah ss sc tx TU SI EN t) (y : Int32) : ∃ h2 S2, Hands_tread 102 y h = some ((trq n TU SI EN t y).1, h2) ∧ HWo h2 st dn la S2 n s w fo mo ah ss sc tx TU SI EN (trq n TU SI EN t y).2 ∧ Fr aP h h2 := by
  obtain ⟨a1, a2, a3, a4, a5, ⟨wf, a6⟩, a7⟩ := H
  have hn := a2.2.2.1.1
  unfold trq
  by_cases q : inN y n
  · obtain ⟨ey, hy⟩ := inN_n (by omega) q
    rw [if_pos q]
    generalize y.toInt.toNat = j at *
    subst ey
    obtain ⟨ho, hc⟩ := a7 j hy
    by_cases q2 : cst TU SI EN (t.D j) = 3
    · rw [if_pos q2]
      obtain ⟨h2, S2, e, W, P, R, Q, F⟩ := Hands_tread_v a1 a2 a3 a4 a5 hy ho hc q2
      have F2 : Fr aP h h2 := F.mono (fun x z => z.elim Or.inl (hP_a (by omega)))
      exact ⟨h2, S2, e, ⟨(F2 102 (aP_no (by omega))).trans a1, W, Q, P, R, ⟨wf, (F2 155 (aP_no (by omega))).trans a6⟩, a7.kp (by omega) (ho.nx q2)⟩, F2⟩
    · rw [if_neg q2]
      obtain ⟨h2, S2, e, W, F⟩ := Hands_tread_cb a1 a2 a3 hy ho q2
      have F2 : Fr aP h h2 := F.mono (fun x z => Or.inl z)
      exact ⟨h2, S2, e, ⟨(F2 102 (aP_no (by omega))).trans a1, W, a3.fr F (fun a _ _ z => by have := lP_lt z; omega), a4.fr F (fun a _ _ z => by have := lP_lt z; omega), a5.fr F (fun a _ _ z => by have := lP_lt z; omega), ⟨wf, (F2 155 (aP_no (by omega))).trans a6⟩, a7⟩, F2⟩
  · rw [if_neg q]
    exact ⟨h, S, Hands_tread_no a1 a2.2.2.1 q, ⟨a1, a2, a3, a4, a5, ⟨wf, a6⟩, a7⟩, Fr.rf⟩
theorem Hands_exchange_a (H : HWo h st dn la S n s w fo mo ah ss sc tx TU SI EN t) (y a b : Int32) : ∃ h2, Hands_exchange 102 y a b h = some ((exq n t y a b).1, h2) ∧ HWo h2 st dn la S n s w fo mo ah ss sc tx TU SI EN (exq n t y a b).2 ∧ Fr aP h h2 := by
  obtain ⟨a1, a2, a3, a4, a5, ⟨wf, a6⟩, a7⟩ := H
  have hn := a2.2.2.1.1
  unfold exq
  by_cases q : inN y n
  · obtain ⟨ey, hy⟩ := inN_n (by omega) q
    rw [if_pos q]
    generalize y.toInt.toNat = j at *
    subst ey
    obtain ⟨ho, hc⟩ := a7 j hy
    by_cases q2 : a ≠ b ∧ inN a (t.D j).2.1 ∧ inN b (t.D j).2.1
    · rw [if_pos q2]
      obtain ⟨h2, e, P, R, Q, F⟩ := Hands_exchange_v a1 a2.2.2.1 a3 a4 a5 hy q2.1 q2.2.1 q2.2.2
      have F2 : Fr aP h h2 := F.mono (fun x z => hP_a (by omega) z)
      have W := a2.fr F (fun x z => by rcases z with z | z | z <;> omega)
      have hm := ho.2.1
      exact ⟨h2, e, ⟨(F2 102 (aP_no (by omega))).trans a1, W, Q, P, R, ⟨wf, (F2 155 (aP_no (by omega))).trans a6⟩, a7.kp hc (ho.sw (inN_n (by omega) q2.2.1).2 (inN_n (by omega) q2.2.2).2)⟩, F2⟩
    · rw [if_neg q2]
      exact ⟨h, Hands_exchange_wr a1 a2.2.2.1 a3 hy q2, ⟨a1, a2, a3, a4, a5, ⟨wf, a6⟩, a7⟩, Fr.rf⟩
  · rw [if_neg q]
    exact ⟨h, Hands_exchange_no a1 a2.2.2.1 q, ⟨a1, a2, a3, a4, a5, ⟨wf, a6⟩, a7⟩, Fr.rf⟩
theorem Hands_lift_a (H : HWo h st dn la S n s w fo mo ah ss sc tx TU SI EN t) (y b : Int32) : ∃ h2, Hands_lift 102 y b h = some ((lfq n t y b).1, h2) ∧ HWo h2 st dn la S n s w fo mo ah ss sc tx TU SI EN (lfq n t y b).2 ∧ Fr aP h h2 := by
  obtain ⟨a1, a2, a3, a4, a5, ⟨wf, a6⟩, a7⟩ := H
  have hn := a2.2.2.1.1
  unfold lfq
  by_cases q : inN y n
  · obtain ⟨ey, hy⟩ := inN_n (by omega) q
    rw [if_pos q]
    generalize y.toInt.toNat = j at *
    subst ey
    obtain ⟨ho, hc⟩ := a7 j hy
    have hm := ho.2.1
    by_cases q2 : 1 ≤ b.toInt ∧ b.toInt ≤ (t.D j).2.1
    · rw [if_pos q2]
      have eb : b = nI b.toInt.toNat := Int32.toInt_inj.mp (by rw [tin (by omega)]; omega)
      have hb1 : 1 ≤ b.toInt.toNat := by omega
      have hb2 : b.toInt.toNat ≤ (t.D j).2.1 := by omega
      generalize b.toInt.toNat = k at *
      subst eb
      obtain ⟨h2, e, P, R, Q, F⟩ := Hands_lift_v a1 a2.2.2.1 a3 a4 a5 hy hb1 hb2
      have F2 : Fr aP h h2 := F.mono (fun x z => hP_a (by omega) z)
      have W := a2.fr F (fun x z => by rcases z with z | z | z <;> omega)
      exact ⟨h2, e, ⟨(F2 102 (aP_no (by omega))).trans a1, W, Q, P, R, ⟨wf, (F2 155 (aP_no (by omega))).trans a6⟩, a7.kp hc (ho.cu k)⟩, F2⟩
    · rw [if_neg q2]
      exact ⟨h, Hands_lift_wr a1 a2.2.2.1 a3 hy q2, ⟨a1, a2, a3, a4, a5, ⟨wf, a6⟩, a7⟩, Fr.rf⟩
  · rw [if_neg q]
    exact ⟨h, Hands_lift_no a1 a2.2.2.1 q, ⟨a1, a2, a3, a4, a5, ⟨wf, a6⟩, a7⟩, Fr.rf⟩
end Changes
