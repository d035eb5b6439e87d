/-! PURE: the class's own methods: how a heap goes on -/
section TopG
variable {h : am_H} {S : Nat → Int32} {rf rs : Int32} {n s w : Nat} {fo mo ah : Int32} {ss sc : Nat → Int32} {tx : Nat → Option Nat} {TU SI : Po → Int32} {EN : Po → Bool} {C : Nat → Nat} {D : Nat → Po} {L : Nat}
theorem top_g (H0 : h[0]? = some (.inr (11, topF rf rs))) : gR h 11 0 0 = some 1 ∧ gR h 11 0 1 = some 3 ∧ gR h 11 0 2 = some 20 ∧ gR h 11 0 3 = some 55 ∧ gR h 11 0 4 = some 56 ∧ gR h 11 0 5 = some 91 ∧ gR h 11 0 6 = some 99 ∧ gR h 11 0 7 = some 102 ∧ gR h 11 0 8 = some 156 ∧ gR h 11 0 9 = some 168 ∧ gR h 11 0 10 = some 171 ∧ gR h 11 0 11 = some 174 ∧ gR h 11 0 12 = some 176 := by
  refine ⟨?_, ?_, ?_, ?_, ?_, ?_, ?_, ?_, ?_, ?_, ?_, ?_, ?_⟩ <;> unfold gR <;> rw [ob_of H0] <;> rfl
theorem gP_0 {x : Nat} (hx : x < 98 ∨ (101 < x ∧ x < 174) ∨ 175 < x) : ¬ gP 174 x := fun z => by
  rcases z with z | z | z
  · have := lP_lt z; omega
  · rcases z with z | z <;> omega
  · omega
theorem eP_0 {x : Nat} (hx : x < 98 ∨ (100 < x ∧ x < 174) ∨ 175 < x) : ¬ eP 174 x := fun z => by
  rcases z with z | z
  · have := lP_lt z; omega
  · rcases z with z | z <;> omega
theorem rP_0 {x : Nat} (hx : x < 174 ∨ 175 < x) : ¬ rP 174 x := fun z => by rcases z with z | z <;> omega
theorem Top_goes_v (hL : L ≤ 300) (hah : ah = nI L) (H0 : h[0]? = some (.inr (11, topF rf rs))) (HW : StW h S n s w fo mo ah ss sc tx TU SI EN) {g : Nat → Int64} (HN : SnA h g) (HQ : RwsA h 8 6 C D) (HK : ∃ c2 q2, RowAt h 174 c2 q2) {j k : Nat} (hj : j < n) (hk : k < 3) (ho : okP (D j)) (hc : C j ≤ 9999) : ∃ h2 S2 g2, Top_goes 0 (nI j) (nI k) h = some ((if k = 0 then nI (goq TU SI EN (D j) L (L + 1)).1 else if k = 1 then nI (goq TU SI EN (D j) L (L + 1)).2.1 else oN (goq TU SI EN (D j) L (L + 1)).2.2), h2) ∧ StW h2 S2 n s w fo mo ah ss sc tx TU SI EN ∧ SnA h2 g2 ∧ (∃ c2 q2, RowAt h2 174 c2 q2) ∧ Fr (gP 174) h h2 := by
  have HT := HW.2.2.1
  have hn := HT.1
  have tj := tin (show j < 2 ^ 31 by omega)
  have tk := tin (show k < 2 ^ 31 by omega)
  have t2 : (2 : Int32).toInt = 2 := by decide
  obtain ⟨_, u1, _, _, _, _, u6, _, _, _, _, u11, _⟩ := top_g H0
  obtain ⟨c2, q2, HK⟩ := HK
  obtain ⟨h1, e1, R1, F1⟩ := HK.copy (HQ j (by omega)) (show apt 174 (8 + 2 * j) from ⟨by omega, by omega, by omega⟩)
  have A1 := (F1 0 (rP_0 (by omega))).trans H0
  obtain ⟨_, w1, _, _, _, _, w6, _, _, _, _, w11, _⟩ := top_g A1
  have W1 := HW.fr F1 (fun x z => by rcases z with z | z <;> omega)
  have N1 : SnA h1 g := (F1 101 (rP_0 (by omega))).trans HN
  obtain ⟨h3, S3, c3, g3, e3, W3, N3, k2, k3, k4, hc3, R3, ok3, F3⟩ := Steps_goOn_v hL hah ho (show rOk 174 by omega) W1 N1 R1 hc
  have A3 := (F3 0 (gP_0 (by omega))).trans A1
  obtain ⟨_, v1, _, _, _, _, v6, _, _, _, _, v11, _⟩ := top_g A3
  refine ⟨h3, S3, g3, ?_, W3, N3, ⟨_, _, R3⟩, (F1.mono (fun x hx => Or.inr (Or.inl hx))).tr F3⟩
  have g2 : gI h3 6 99 2 = some (S3 2) := stp_g W3.1 rfl
  have g3' : gI h3 6 99 3 = some (S3 3) := stp_g W3.1 rfl
  have g4 : gI h3 6 99 4 = some (S3 4) := stp_g W3.1 rfl
  unfold Top_goes
  rw [if_pos (isO_of H0), u1]
  simp only [Option.bind_some]
  rw [Table_at_v HT, if_pos (by omega), tj, show (3 + 5 + 2 * (j : Int).toNat) = 8 + 2 * j by omega]
  simp only [Option.bind_some]
  rw [if_neg (by simp), if_neg (fun z => by have := tilt.mp z; rw [tk, ti0] at this; omega), if_pos (tile.mpr (by omega)), u11]
  simp only [Option.bind_some]
  rw [e1]
  simp only [Option.bind_some]
  rw [w6, w11]
  simp only [Option.bind_some]
  rw [e3]
  simp only [Option.bind_some]
  rw [v6]
  simp only [Option.bind_some]
  rw [g2, g3', g4]
  simp only [Option.bind_some]
  rw [k2, k3, k4]
  rcases (show k = 0 ∨ k = 1 ∨ k = 2 by omega) with rfl | rfl | rfl
  · rw [if_pos (show nI 0 = (0 : Int32) from rfl), if_pos rfl]
  · rw [if_neg (show ¬ nI 1 = (0 : Int32) by decide), if_pos (show nI 1 = (1 : Int32) from rfl), if_neg (by decide), if_pos rfl]
  · rw [if_neg (show ¬ nI 2 = (0 : Int32) by decide), if_neg (show ¬ nI 2 = (1 : Int32) by decide), if_neg (by decide), if_neg (by decide)]
theorem Top_goes_no (H0 : h[0]? = some (.inr (11, topF rf rs))) (HT : TbA h 3 n s w fo mo ah ss sc tx) {y k : Int32} (hy : ¬ (inN y n ∧ inN k 3)) : Top_goes 0 y k h = some (-1, h) := by
  have t2 : (2 : Int32).toInt = 2 := by decide
  obtain ⟨_, u1, _, _, _, _, u6, _, _, _, _, u11, _⟩ := top_g H0
  unfold Top_goes
  rw [if_pos (isO_of H0), u1]
  simp only [Option.bind_some]
  rw [Table_at_v HT]
  simp only [Option.bind_some]
  by_cases q : inN y n
  · rw [if_pos q, if_neg (by simp)]
    simp only [Option.bind_some]
    by_cases q2 : k < 0
    · rw [if_pos q2]
    · rw [if_neg q2, if_neg (fun z => hy ⟨q, by have := mt tilt.mpr q2; rw [ti0] at this; have := tile.mp z; omega⟩)]
  · rw [if_neg q, if_pos rfl]
/-- as far as n steps can be -/
def afq (TU SI : Po → Int32) (EN : Po → Bool) : Nat → Po → Po
  | 0, p => p
  | k + 1, p => if cst TU SI EN p = 3 then afq TU SI EN k (nxp TU SI p) else p
theorem Top_after_l {N : Nat} (hN : N ≤ 300) {x : Int32} : ∀ (k i : Nat) (h : am_H) (S : Nat → Int32) (c : Nat) (p : Po), i + k = N → h[0]? = some (.inr (11, topF rf rs)) → StW h S n s w fo mo ah ss sc tx TU SI EN → RowAt h 174 c p → c ≤ 9999 → okP p → ∃ h2 S2 c2, Top_after_40 0 (nI N) x (nI i) h = some ((if inN x p.2.1 then (afq TU SI EN k p).1 x.toInt.toNat else -1), h2) ∧ StW h2 S2 n s w fo mo ah ss sc tx TU SI EN ∧ RowAt h2 174 c2 (afq TU SI EN k p) ∧ Fr (eP 174) h h2 := by
  intro k
  induction k with
  | zero =>
    intro i h S c p hi H0 HW HR hc ho
    obtain ⟨_, u1, _, _, _, _, u6, _, _, _, _, u11, _⟩ := top_g H0
    refine ⟨h, S, c, ?_, HW, HR, Fr.rf⟩
    rw [Top_after_40_e, if_pos (tile.mpr (by rw [tin (show N < 2 ^ 31 by omega), tin (show i < 2 ^ 31 by omega)]; omega))]
    unfold Top_after_78
    rw [u11]
    simp only [Option.bind_some]
    rw [HR.card]; rfl
  | succ k ih =>
    intro i h S c p hi H0 HW HR hc ho
    have tN := tin (show N < 2 ^ 31 by omega)
    have ti := tin (show i < 2 ^ 31 by omega)
    obtain ⟨_, u1, _, _, _, _, u6, _, _, _, _, u11, _⟩ := top_g H0
    obtain ⟨h1, e1, W1, F1⟩ := HW.look HR ho (show rOk 174 by omega)
    have nl : ∀ y : Nat, (y < 98 ∨ 100 < y) → ¬ lP y := fun y hy z => by have := lP_lt z; omega
    have A1 := (F1 0 (nl _ (by omega))).trans H0
    have R1 := HR.fr F1 (nl _ (by omega)) (nl _ (by omega))
    obtain ⟨_, w1, _, _, _, _, w6, _, _, _, _, w11, _⟩ := top_g A1
    rw [Top_after_40_e, if_neg (fun z => by have := tile.mp z; omega), u6, u11]
    simp only [Option.bind_some]
    rw [e1]
    simp only [Option.bind_some]
    by_cases q : cst TU SI EN p = 3
    · rw [if_pos (by rw [q]; rfl), w6, w11]
      simp only [Option.bind_some]
      obtain ⟨h2, e2, W2, R2, F2⟩ := W1.make (p := p) rfl rfl q R1 hc ho (show rOk 174 by omega)
      rw [e2]
      simp only [Option.bind_some]
      rw [nI_p1]
      obtain ⟨h3, S3, c3, e3, W3, R3, F3⟩ := ih (i + 1) h2 _ _ _ (by omega) ((F2 0 (rP_0 (by omega))).trans A1) W2 R2 (Nat.min_le_right _ _) (ho.nx q)
      rw [show afq TU SI EN (k + 1) p = afq TU SI EN k (nxp TU SI p) from if_pos q]
      exact ⟨h3, S3, c3, e3, W3, R3, ((F1.mono (fun x hx => Or.inl hx)).tr (F2.mono (fun x hx => Or.inr hx))).tr F3⟩
    · have hne : ¬ nI (cst TU SI EN p) = (3 : Int32) := by
        rcases cst_cases (TU := TU) (SI := SI) (EN := EN) p with z | z | z
        · rw [z]; decide
        · rw [z]; decide
        · exact absurd z q
      rw [if_neg hne]
      unfold Top_after_78
      rw [w11]
      simp only [Option.bind_some]
      rw [R1.card, show afq TU SI EN (k + 1) p = p from if_neg q]
      exact ⟨h1, _, c, rfl, W1, R1, F1.mono (fun x hx => Or.inl hx)⟩
theorem Top_after_v (H0 : h[0]? = some (.inr (11, topF rf rs))) (HW : StW h S n s w fo mo ah ss sc tx TU SI EN) (HQ : RwsA h 8 6 C D) (HK : ∃ c2 q2, RowAt h 174 c2 q2) {j N : Nat} (hj : j < n) (hN : N ≤ 300) (x : Int32) (ho : okP (D j)) (hc : C j ≤ 9999) : ∃ h2 S2, Top_after 0 (nI j) (nI N) x h = some ((if inN x (D j).2.1 then (afq TU SI EN N (D j)).1 x.toInt.toNat else -1), h2) ∧ StW h2 S2 n s w fo mo ah ss sc tx TU SI EN ∧ (∃ c2 q2, RowAt h2 174 c2 q2) ∧ Fr (eP 174) h h2 := by
  have HT := HW.2.2.1
  have hn := HT.1
  have tj := tin (show j < 2 ^ 31 by omega)
  have tN := tin (show N < 2 ^ 31 by omega)
  have t3 : (300 : Int32).toInt = 300 := by decide
  obtain ⟨_, u1, _, _, _, _, u6, _, _, _, _, u11, _⟩ := top_g H0
  obtain ⟨c2, q2, HK⟩ := HK
  obtain ⟨h1, e1, R1, F1⟩ := HK.copy (HQ j (by omega)) (show apt 174 (8 + 2 * j) from ⟨by omega, by omega, by omega⟩)
  have W1 := HW.fr F1 (fun x z => by rcases z with z | z <;> omega)
  obtain ⟨h3, S3, c3, e3, W3, R3, F3⟩ := Top_after_l hN (x := x) N 0 h1 S _ _ (by omega) ((F1 0 (rP_0 (by omega))).trans H0) W1 R1 hc ho
  refine ⟨h3, S3, ?_, W3, ⟨_, _, R3⟩, (F1.mono (fun x hx => Or.inr hx)).tr F3⟩
  unfold Top_after
  rw [if_pos (isO_of H0), u1]
  simp only [Option.bind_some]
  rw [Table_at_v HT, if_pos (by omega), tj, show (3 + 5 + 2 * (j : Int).toNat) = 8 + 2 * j by omega]
  simp only [Option.bind_some]
  rw [if_neg (by simp), if_neg (fun z => by have := tilt.mp z; rw [tN, ti0] at this; omega), if_pos (tile.mpr (by omega)), u11]
  simp only [Option.bind_some]
  rw [e1]
  exact e3
end TopG
