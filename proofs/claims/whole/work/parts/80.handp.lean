/-! PURE: heaps changed by hand: a step, a swap, a cut; what can be undone grows -/
abbrev hanF (st dn la : Int32) : List Value := [.int st, .ref 3, .ref 56, .ref 99, .ref 103, .ref 120, .ref 155, .int dn, .int la]
abbrev hP (j : Nat) : Nat → Prop := fun a => paP 56 a ∨ rP (8 + 2 * j) a
section HandsP
variable {h : am_H} {S : Nat → Int32} {st dn la : Int32} {n s w : Nat} {fo mo ah : Int32} {ss sc : Nat → Int32} {tx : Nat → Option Nat} {TU SI : Po → Int32} {EN : Po → Bool} {u x : Nat} {kd : Nat → Int32} {C C2 : Nat → Nat} {D D2 : Nat → Po}
theorem han_t (HH : h[102]? = some (.inr (1, hanF st dn la))) : isO h 1 102 = true ∧ gR h 1 102 1 = some 3 ∧ gR h 1 102 2 = some 56 ∧ gR h 1 102 3 = some 99 := by
  refine ⟨isO_of HH, ?_, ?_, ?_⟩ <;> unfold gR <;> rw [ob_of HH] <;> rfl
theorem RwsA.keep {h2 : am_H} {j c : Nat} {p : Po} (HQ : RwsA h 8 6 C D) (F : Fr (hP j) h h2) (H2 : RowAt h2 (8 + 2 * j) c p) : RwsA h2 8 6 (up1 C j c) (up1 D j p) := by
  intro i hi
  unfold up1
  by_cases q : i = j
  · subst q; rw [if_pos rfl, if_pos rfl]; exact H2
  · rw [if_neg q, if_neg q]
    exact (HQ i hi).fr F (by rintro (z | z | z) <;> omega) (by rintro (z | z | z) <;> omega)
theorem Hands_exchange_v (HH : h[102]? = some (.inr (1, hanF st dn la))) (HT : TbA h 3 n s w fo mo ah ss sc tx) (HQ : RwsA h 8 6 C D) (HP : PaA h 56 u x kd) (HR : RwsA h 59 16 C2 D2) {j : Nat} (hj : j < n) {a b : Int32} (hab : a ≠ b) (ha : inN a (D j).2.1) (hb : inN b (D j).2.1) : ∃ h2, Hands_exchange 102 (nI j) a b h = some (swp (D j).1 a.toInt.toNat b.toInt.toNat 0, h2) ∧ PaA h2 56 (min (u + 1) 16) ((x + 1) % 16) (upd kd x 1) ∧ RwsA h2 59 16 (up1 C2 x (C j)) (up1 D2 x (D j)) ∧ RwsA h2 8 6 (up1 C j (C j)) (up1 D j (swp (D j).1 a.toInt.toNat b.toInt.toNat, (D j).2)) ∧ Fr (hP j) h h2 := by
  have hn := HT.1
  have tj := tin (show j < 2 ^ 31 by omega)
  obtain ⟨t0, t1, t2, t3⟩ := han_t HH
  have R0 := HQ j (by omega)
  obtain ⟨h1, e1, P1, K1, F1⟩ := Past_keep_v HP HR (r := 8 + 2 * j) (by omega) R0 1
  have R1 := R0.fr F1 (by omega) (by omega)
  obtain ⟨h2, e2, R2, F2⟩ := R1.exch ha hb
  have FA : Fr (hP j) h h2 := (F1.mono (fun y hy => Or.inl hy)).tr (F2.mono (fun y hy => Or.inr hy))
  refine ⟨h2, ?_, P1.fr F2 (fun y _ _ z => by rcases z with z | z <;> omega), K1.fr F2 (fun y _ _ z => by rcases z with z | z <;> omega), HQ.keep FA R2, FA⟩
  unfold Hands_exchange
  rw [if_pos t0, t1]
  simp only [Option.bind_some]
  rw [Table_at_v HT, if_pos (by omega), tj, show (3 + 5 + 2 * (j : Int).toNat) = 8 + 2 * j by omega]
  simp only [Option.bind_some]
  rw [if_neg (by simp), if_neg hab, R0.has, if_pos ha]
  simp only [Option.bind_some]
  rw [if_neg (by decide), R0.has, if_pos hb]
  simp only [Option.bind_some]
  rw [if_neg (by decide), t2]
  simp only [Option.bind_some]
  rw [e1]
  simp only [Option.bind_some]
  rw [e2]
  simp only [Option.bind_some]
  have := R0.m
  rw [R2.card, if_pos (show inN 0 _ from ⟨by decide, by rw [ti0]; show (0 : Int) < ((D j).2.1 : Int); omega⟩)]
  rfl
theorem Hands_exchange_no (HH : h[102]? = some (.inr (1, hanF st dn la))) (HT : TbA h 3 n s w fo mo ah ss sc tx) {y a b : Int32} (hy : ¬ inN y n) : Hands_exchange 102 y a b h = some (-2, h) := by
  obtain ⟨t0, t1, t2, t3⟩ := han_t HH
  unfold Hands_exchange
  rw [if_pos t0, t1]
  simp only [Option.bind_some]
  rw [Table_at_v HT, if_neg hy]
  simp only [Option.bind_some]
  rw [if_pos trivial]
theorem Hands_exchange_wr (HH : h[102]? = some (.inr (1, hanF st dn la))) (HT : TbA h 3 n s w fo mo ah ss sc tx) (HQ : RwsA h 8 6 C D) {j : Nat} (hj : j < n) {a b : Int32} (hw : ¬ (a ≠ b ∧ inN a (D j).2.1 ∧ inN b (D j).2.1)) : Hands_exchange 102 (nI j) a b h = some (-1, h) := by
  have hn := HT.1
  have tj := tin (show j < 2 ^ 31 by omega)
  obtain ⟨t0, t1, t2, t3⟩ := han_t HH
  have R0 := HQ j (by omega)
  unfold Hands_exchange
  rw [if_pos t0, t1]
  simp only [Option.bind_some]
  rw [Table_at_v HT, if_pos (by omega), tj, show (3 + 5 + 2 * (j : Int).toNat) = 8 + 2 * j by omega]
  simp only [Option.bind_some]
  rw [if_neg (by simp)]
  by_cases q1 : a = b
  · rw [if_pos q1]
  · rw [if_neg q1, R0.has]
    simp only [Option.bind_some]
    by_cases q2 : inN a (D j).2.1
    · rw [if_pos q2, if_neg (by decide), R0.has]
      simp only [Option.bind_some]
      rw [if_neg (fun z => hw ⟨q1, q2, z⟩), if_pos rfl]
    · rw [if_neg q2, if_pos rfl]
theorem Hands_lift_v (HH : h[102]? = some (.inr (1, hanF st dn la))) (HT : TbA h 3 n s w fo mo ah ss sc tx) (HQ : RwsA h 8 6 C D) (HP : PaA h 56 u x kd) (HR : RwsA h 59 16 C2 D2) {j k : Nat} (hj : j < n) (hk1 : 1 ≤ k) (hk : k ≤ (D j).2.1) : ∃ h2, Hands_lift 102 (nI j) (nI k) h = some ((D j).1 (k % (D j).2.1), h2) ∧ PaA h2 56 (min (u + 1) 16) ((x + 1) % 16) (upd kd x 2) ∧ RwsA h2 59 16 (up1 C2 x (C j)) (up1 D2 x (D j)) ∧ RwsA h2 8 6 (up1 C j (C j)) (up1 D j (fun i => (D j).1 ((i + k) % (D j).2.1), (D j).2)) ∧ Fr (hP j) h h2 := by
  have hn := HT.1
  have tj := tin (show j < 2 ^ 31 by omega)
  obtain ⟨t0, t1, t2, t3⟩ := han_t HH
  have R0 := HQ j (by omega)
  have hm := R0.m
  have tk := tin (show k < 2 ^ 31 by omega)
  have tm := tin (show (D j).2.1 < 2 ^ 31 by omega)
  obtain ⟨h1, e1, P1, K1, F1⟩ := Past_keep_v HP HR (r := 8 + 2 * j) (by omega) R0 2
  have R1 := R0.fr F1 (by omega) (by omega)
  obtain ⟨h2, e2, R2, F2⟩ := R1.low hk
  have FA : Fr (hP j) h h2 := (F1.mono (fun y hy => Or.inl hy)).tr (F2.mono (fun y hy => Or.inr hy))
  refine ⟨h2, ?_, P1.fr F2 (fun y _ _ z => by rcases z with z | z <;> omega), K1.fr F2 (fun y _ _ z => by rcases z with z | z <;> omega), HQ.keep FA R2, FA⟩
  unfold Hands_lift
  rw [if_pos t0, t1]
  simp only [Option.bind_some]
  rw [Table_at_v HT, if_pos (by omega), tj, show (3 + 5 + 2 * (j : Int).toNat) = 8 + 2 * j by omega]
  simp only [Option.bind_some]
  rw [if_neg (by simp), if_neg (fun z => by have := tilt.mp z; rw [tk, ti1] at this; omega), R0.g1]
  simp only [Option.bind_some]
  rw [if_pos (tile.mpr (by omega)), t2]
  simp only [Option.bind_some]
  rw [e1]
  simp only [Option.bind_some]
  rw [e2]
  simp only [Option.bind_some]
  rw [R2.card, if_pos (show inN 0 _ from ⟨by decide, by rw [ti0]; show (0 : Int) < ((D j).2.1 : Int); omega⟩)]
  show some ((D j).1 ((0 + k) % (D j).2.1), h2) = _
  rw [Nat.zero_add]
theorem Hands_lift_no (HH : h[102]? = some (.inr (1, hanF st dn la))) (HT : TbA h 3 n s w fo mo ah ss sc tx) {y b : Int32} (hy : ¬ inN y n) : Hands_lift 102 y b h = some (-2, h) := by
  obtain ⟨t0, t1, t2, t3⟩ := han_t HH
  unfold Hands_lift
  rw [if_pos t0, t1]
  simp only [Option.bind_some]
  rw [Table_at_v HT, if_neg hy]
  simp only [Option.bind_some]
  rw [if_pos trivial]
theorem Hands_lift_wr (HH : h[102]? = some (.inr (1, hanF st dn la))) (HT : TbA h 3 n s w fo mo ah ss sc tx) (HQ : RwsA h 8 6 C D) {j : Nat} (hj : j < n) {b : Int32} (hw : ¬ (1 ≤ b.toInt ∧ b.toInt ≤ (D j).2.1)) : Hands_lift 102 (nI j) b h = some (-1, h) := by
  have hn := HT.1
  have tj := tin (show j < 2 ^ 31 by omega)
  obtain ⟨t0, t1, t2, t3⟩ := han_t HH
  have R0 := HQ j (by omega)
  have hm := R0.m
  have tm := tin (show (D j).2.1 < 2 ^ 31 by omega)
  unfold Hands_lift
  rw [if_pos t0, t1]
  simp only [Option.bind_some]
  rw [Table_at_v HT, if_pos (by omega), tj, show (3 + 5 + 2 * (j : Int).toNat) = 8 + 2 * j by omega]
  simp only [Option.bind_some]
  rw [if_neg (by simp)]
  by_cases q1 : b < 1
  · rw [if_pos q1]
  · rw [if_neg q1, R0.g1]
    simp only [Option.bind_some]
    have := mt tilt.mpr q1
    rw [ti1] at this
    rw [if_neg (fun z => by have := tile.mp z; omega)]
theorem Hands_tread_v (HH : h[102]? = some (.inr (1, hanF st dn la))) (HW : StW h S n s w fo mo ah ss sc tx TU SI EN) (HQ : RwsA h 8 6 C D) (HP : PaA h 56 u x kd) (HR : RwsA h 59 16 C2 D2) {j : Nat} (hj : j < n) (ho : okP (D j)) (hc9 : C j ≤ 9999) (hc : cst TU SI EN (D j) = 3) : ∃ h2 S2, Hands_tread 102 (nI j) h = some (nI (min (C j + 1) 9999), h2) ∧ StW h2 S2 n s w fo mo ah ss sc tx TU SI EN ∧ PaA h2 56 (min (u + 1) 16) ((x + 1) % 16) (upd kd x 0) ∧ RwsA h2 59 16 (up1 C2 x (C j)) (up1 D2 x (D j)) ∧ RwsA h2 8 6 (up1 C j (min (C j + 1) 9999)) (up1 D j (nxp TU SI (D j))) ∧ Fr (fun a => lP a ∨ hP j a) h h2 := by
  have HT := HW.2.2.1
  have hn := HT.1
  have tj := tin (show j < 2 ^ 31 by omega)
  obtain ⟨t0, t1, t2, t3⟩ := han_t HH
  have R0 := HQ j (by omega)
  have hrk : rOk (8 + 2 * j) := by omega
  obtain ⟨h1, e1, W1, F1⟩ := HW.look R0 ho hrk
  have lp : ∀ {y : Nat}, lP y → 98 ≤ y ∧ y ≤ 100 := fun z => lP_lt z
  have Q1 := HQ.fr F1 (fun y _ _ z => by have := lp z; omega)
  have P1 := HP.fr F1 (fun y _ _ z => by have := lp z; omega)
  have K1 := HR.fr F1 (fun y _ _ z => by have := lp z; omega)
  have H1 := (F1 102 (by decide)).trans HH
  obtain ⟨u0, u1, u2, u3⟩ := han_t H1
  obtain ⟨h2, e2, P2, K2, F2⟩ := Past_keep_v P1 K1 (r := 8 + 2 * j) (by omega) (Q1 j (by omega)) 0
  have R2 := (Q1 j (by omega)).fr F2 (by omega) (by omega)
  have W2 := W1.fr F2 (fun y z => by omega)
  have H2 := (F2 102 (by omega)).trans H1
  obtain ⟨w0, w1, w2, w3⟩ := han_t H2
  obtain ⟨h3, e3, W3, R3, F3⟩ := W2.make (p := D j) rfl rfl hc R2 hc9 ho hrk
  have FA : Fr (hP j) h1 h3 := (F2.mono (fun y hy => Or.inl hy)).tr (F3.mono (fun y hy => Or.inr hy))
  refine ⟨h3, _, ?_, W3, P2.fr F3 (fun y _ _ z => by rcases z with z | z <;> omega), K2.fr F3 (fun y _ _ z => by rcases z with z | z <;> omega), Q1.keep FA R3, (F1.mono (fun y hy => Or.inl hy)).tr (FA.mono (fun y hy => Or.inr hy))⟩
  unfold Hands_tread
  rw [if_pos t0, t1]
  simp only [Option.bind_some]
  rw [Table_at_v HT, if_pos (by omega), tj, show (3 + 5 + 2 * (j : Int).toNat) = 8 + 2 * j by omega]
  simp only [Option.bind_some]
  rw [if_neg (by simp), t3]
  simp only [Option.bind_some]
  rw [e1]
  simp only [Option.bind_some]
  rw [if_pos (by rw [hc]; rfl), u2]
  simp only [Option.bind_some]
  rw [e2]
  simp only [Option.bind_some]
  rw [w3]
  simp only [Option.bind_some]
  rw [e3]
  simp only [Option.bind_some]
  rw [R3.g2]
  rfl
theorem Hands_tread_cb (HH : h[102]? = some (.inr (1, hanF st dn la))) (HW : StW h S n s w fo mo ah ss sc tx TU SI EN) (HQ : RwsA h 8 6 C D) {j : Nat} (hj : j < n) (ho : okP (D j)) (hc : ¬ cst TU SI EN (D j) = 3) : ∃ h2 S2, Hands_tread 102 (nI j) h = some (-3, h2) ∧ StW h2 S2 n s w fo mo ah ss sc tx TU SI EN ∧ Fr lP h h2 := by
  have HT := HW.2.2.1
  have hn := HT.1
  have tj := tin (show j < 2 ^ 31 by omega)
  obtain ⟨t0, t1, t2, t3⟩ := han_t HH
  have R0 := HQ j (by omega)
  obtain ⟨h1, e1, W1, F1⟩ := HW.look R0 ho (show rOk (8 + 2 * j) by omega)
  refine ⟨h1, _, ?_, W1, F1⟩
  unfold Hands_tread
  rw [if_pos t0, t1]
  simp only [Option.bind_some]
  rw [Table_at_v HT, if_pos (by omega), tj, show (3 + 5 + 2 * (j : Int).toNat) = 8 + 2 * j by omega]
  simp only [Option.bind_some]
  rw [if_neg (by simp), t3]
  simp only [Option.bind_some]
  rw [e1]
  simp only [Option.bind_some]
  have hne : ¬ nI (cst TU SI EN (D j)) = (3 : Int32) := by
    rcases cst_cases (TU := TU) (SI := SI) (EN := EN) (D j) with q | q | q
    · rw [q]; decide
    · rw [q]; decide
    · exact absurd q hc
  rw [if_neg hne]
theorem Hands_tread_no (HH : h[102]? = some (.inr (1, hanF st dn la))) (HT : TbA h 3 n s w fo mo ah ss sc tx) {y : Int32} (hy : ¬ inN y n) : Hands_tread 102 y h = some (-2, h) := by
  obtain ⟨t0, t1, t2, t3⟩ := han_t HH
  unfold Hands_tread
  rw [if_pos t0, t1]
  simp only [Option.bind_some]
  rw [Table_at_v HT, if_neg hy]
  simp only [Option.bind_some]
  rw [if_pos trivial]
end HandsP
