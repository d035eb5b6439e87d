/-! PURE: the reference's rows: taken, the next one, the first one -/
section RowR
variable {b : Nat} {h : am_H} {S : Nat → Int32} {A : Nat → Nat → Int32} {B : Nat → Int64} {m : Nat} {σ : am_S}
theorem lies_p (x lo hi : Int32) (h : am_H) : Ref_lies x lo hi h = some (bI (decide (lo.toInt ≤ x.toInt ∧ x.toInt ≤ hi.toInt))) := by
  unfold Ref_lies
  by_cases q1 : x < lo
  · rw [if_pos q1, show bI (decide (lo.toInt ≤ x.toInt ∧ x.toInt ≤ hi.toInt)) = 0 from if_neg (fun z => by have := of_decide_eq_true z; have := tilt.mp q1; omega)]
  · rw [if_neg q1]
    by_cases q2 : hi < x
    · rw [if_pos q2, show bI (decide (lo.toInt ≤ x.toInt ∧ x.toInt ≤ hi.toInt)) = 0 from if_neg (fun z => by have := of_decide_eq_true z; have := tilt.mp q2; omega)]
    · rw [if_neg q2, show bI (decide (lo.toInt ≤ x.toInt ∧ x.toInt ≤ hi.toInt)) = 1 from if_pos (decide_eq_true ⟨by have := mt tilt.mpr q1; omega, by have := mt tilt.mpr q2; omega⟩)]
theorem isHeap_p {n : Nat} (x : Int32) (hn : σ.2.1 1 96 = nI n) (hn6 : n ≤ 6) (M : Mo b h σ) : Ref_isHeap b x h = some (bI (decide (inN x n))) := by
  have tn := tin (show n < 2 ^ 31 by omega)
  have es : (nI n - (1 : Int32)).toInt = (n : Int) - 1 := by
    rw [show nI n - (1 : Int32) = nI n + (-1 : Int32) by rw [Int32.sub_eq_add_neg], hS_m, hS_t (by omega)]
  unfold Ref_isHeap
  rw [if_pos M.o, M.r2]
  simp only [Option.bind_some]
  rw [show aI h 0 (b + 1 + 1) (96 : Int32) = some (nI n) from (M.rd (r := 1) (i := 96) (by decide) (by decide) (by decide)).trans (congrArg some hn)]
  simp only [Option.bind_some]
  rw [lies_p]
  simp only [Option.bind_some]
  rw [es, ti0, bI_z]
  simp only [Option.bind_some]
  refine congrArg (fun z => some (bI z)) (decide_eq_decide.mpr ?_)
  unfold inN
  constructor
  · intro z; omega
  · intro z; omega
theorem place_p (j : Nat) (h : am_H) : Ref_placeOf (nI j) h = some (nI (16 * j)) := by
  unfold Ref_placeOf
  rw [show (16 : Int32) * nI j = nI (16 * j) from pk_mul 16 j, show (0 : Int32) = nI 0 from rfl, nI_add, Nat.zero_add]
theorem manyIn_p {j : Nat} (hj : j < 6) (M : Mo b h σ) : Ref_manyIn b (nI j) h = some (σ.2.1 1 (16 * j)) := by
  unfold Ref_manyIn
  rw [if_pos M.o, M.r2]
  simp only [Option.bind_some]
  rw [place_p]
  simp only [Option.bind_some]
  rw [show nI (16 * j) + (0 : Int32) = nI (16 * j) from nI_add _ 0, show aI h 0 (b + 1 + 1) (nI (16 * j)) = _ from M.rd (r := 1) (by decide) (by decide) (show 16 * j < 5725 by omega)]
  rfl
theorem cardOf_p {j i : Nat} (hj : j < 6) (hi : i < 13) (M : Mo b h σ) : Ref_cardOf b (nI j) (nI i) h = some (σ.2.1 1 (16 * j + 3 + i)) := by
  unfold Ref_cardOf
  rw [if_pos M.o, M.r2]
  simp only [Option.bind_some]
  rw [place_p]
  simp only [Option.bind_some]
  rw [show nI (16 * j) + (3 : Int32) = nI (16 * j + 3) from nI_add _ 3, nI_add, show aI h 0 (b + 1 + 1) (nI (16 * j + 3 + i)) = _ from M.rd (r := 1) (by decide) (by decide) (show 16 * j + 3 + i < 5725 by omega)]
  rfl
theorem takes_l {j : Nat} (hj : j < 6) : ∀ (nn k : Nat) (h : am_H), k + nn = 13 → Mo b h (S, rs A 13 (fill (A 13) 0 k (fun i => A 1 (16 * j + 3 + i))), B) → ∃ h2, Ref_takes_31 b (nI j) (nI k) h = some h2 ∧ Mo b h2 (S, rs A 13 (fill (A 13) 0 13 (fun i => A 1 (16 * j + 3 + i))), B) ∧ Same b h h2 := by
  intro nn
  induction nn with
  | zero =>
    intro k h hk M
    obtain rfl : k = 13 := by omega
    refine ⟨h, ?_, M, Same.rf⟩
    rw [Ref_takes_31_e, if_pos (by decide)]
  | succ nn ih =>
    intro k h hk M
    have tk := tin (show k < 2 ^ 31 by omega)
    have t13 : (13 : Int32).toInt = 13 := by decide
    obtain ⟨h1, e1, M1, S1⟩ := M.wrR (i := k) (by decide) (by decide) rfl (show k < 13 by omega) (A 1 (16 * j + 3 + k))
    rw [fill_s0 (A 13) k (fun i => A 1 (16 * j + 3 + i))] at M1
    obtain ⟨h2, e2, M2, S2⟩ := ih (k + 1) h1 (by omega) M1
    refine ⟨h2, ?_, M2, S1.tr S2⟩
    rw [Ref_takes_31_e, if_neg (fun z => by have := tile.mp z; omega), M.r29]
    simp only [Option.bind_some]
    rw [show Ref_cardOf b (nI j) (nI k) h = some (A 1 (16 * j + 3 + k)) from cardOf_p hj (by omega) M]
    simp only [Option.bind_some]
    rw [e1]
    simp only [Option.bind_some]
    rw [nI_p1]
    exact e2
theorem takes_p {j : Nat} (hj : j < 6) (M : Mo b h σ) : ∃ h2, Ref_takes b (nI j) h = some h2 ∧ Mo b h2 (tks σ j) ∧ Same b h h2 := by
  obtain ⟨h1, e1, M1, S1⟩ := M.w31 (σ.2.1 1 (16 * j))
  obtain ⟨h2, e2, M2, S2⟩ := M1.w32 (σ.2.1 1 (16 * j + 2))
  obtain ⟨h3, e3, M3, S3⟩ := M2.w33 (nI j)
  obtain ⟨h4, e4, M4, S4⟩ := takes_l (b := b) (A := σ.2.1) (B := σ.2.2) hj 13 0 h3 rfl (by rw [fill_0, rs_self]; exact M3)
  refine ⟨h4, ?_, M4, S1.tr (S2.tr (S3.tr S4))⟩
  unfold Ref_takes
  rw [if_pos M.o, manyIn_p hj M]
  simp only [Option.bind_some]
  rw [e1]
  simp only [Option.bind_some]
  rw [M1.r2]
  simp only [Option.bind_some]
  rw [place_p]
  simp only [Option.bind_some]
  rw [show nI (16 * j) + (2 : Int32) = nI (16 * j + 2) from nI_add _ 2, show aI h1 0 (b + 1 + 1) (nI (16 * j + 2)) = some (σ.2.1 1 (16 * j + 2)) from M1.rd (r := 1) (by decide) (by decide) (show 16 * j + 2 < 5725 by omega)]
  simp only [Option.bind_some]
  rw [e2]
  simp only [Option.bind_some]
  rw [e3]
  exact e4
theorem takes2_p {j : Nat} (hj : j < 6) (hmj : σ.2.1 1 (16 * j) = nI m) (h1 : 1 ≤ m) (h13 : m ≤ 13) (hb : Bo σ) (M : Mo b h σ) : ∃ h2 σ2, Ref_takes b (nI j) h = some h2 ∧ Lw [31, 32, 33] [13] b h σ m h2 σ2 ∧ eqp (po σ2 m) (hpo (σ.2.1 1) j m) := by
  obtain ⟨h2, e2, M2, S2⟩ := takes_p hj M
  obtain ⟨br, h23⟩ := hb
  refine ⟨h2, tks σ j, e2, ⟨M2, ⟨fun k hk => ?_, fun k hk => ?_, rfl⟩, ⟨hmj, h1, h13, br, h23⟩, S2⟩, fun i hi => ?_, rfl, h1, h13⟩
  · simp only [List.mem_cons, List.not_mem_nil, or_false, not_or] at hk
    show upd (upd (upd σ.1 31 _) 32 _) 33 _ k = σ.1 k
    unfold upd
    rw [if_neg hk.2.2, if_neg hk.2.1, if_neg hk.1]
  · exact rs_ne (fun z => hk (by rw [z]; decide))
  · have e : (po (tks σ j) m).1 = fill (σ.2.1 13) 0 13 (fun i => σ.2.1 1 (16 * j + 3 + i)) := (show rs σ.2.1 13 (fill (σ.2.1 13) 0 13 (fun i => σ.2.1 1 (16 * j + 3 + i))) 13 = _ from rs_at ..)
    rw [e, fill_in (Nat.zero_le _) (by omega)]
    rfl
theorem takesRow_l {f : Nat → Int32} (h41 : S 41 = nI m) (hm7 : m ≤ 7) (h18 : A 18 = f) : ∀ (nn k : Nat) (h : am_H), k + nn = m → Mo b h (S, rs A 13 (fill (A 13) 0 k f), B) → ∃ h2, Ref_takesRow_20 b (nI k) h = some h2 ∧ Mo b h2 (S, rs A 13 (fill (A 13) 0 m f), B) ∧ Same b h h2 := by
  intro nn
  induction nn with
  | zero =>
    intro k h hk M
    have tm := tin (show m < 2 ^ 31 by omega)
    obtain rfl : k = m := by omega
    refine ⟨h, ?_, M, Same.rf⟩
    rw [Ref_takesRow_20_e, show gI h 12 b 41 = some (nI k) from M.i41.trans (congrArg some h41)]
    simp only [Option.bind_some]
    rw [if_pos (tile.mpr (by omega))]
  | succ nn ih =>
    intro k h hk M
    have tm := tin (show m < 2 ^ 31 by omega)
    have tk := tin (show k < 2 ^ 31 by omega)
    obtain ⟨h1, e1, M1, S1⟩ := M.wrR (i := k) (by decide) (by decide) rfl (show k < 13 by omega) (f k)
    rw [fill_s0 (A 13) k f] at M1
    obtain ⟨h2, e2, M2, S2⟩ := ih (k + 1) h1 (by omega) M1
    refine ⟨h2, ?_, M2, S1.tr S2⟩
    rw [Ref_takesRow_20_e, show gI h 12 b 41 = some (nI m) from M.i41.trans (congrArg some h41)]
    simp only [Option.bind_some]
    rw [if_neg (fun z => by have := tile.mp z; omega), M.r29, M.r40]
    simp only [Option.bind_some]
    rw [show aI h 0 (b + 1 + 18) (nI k) = some (f k) from (M.rd (r := 18) (by decide) (by decide) (show k < 7 by omega)).trans (congrArg some (show rs A 13 (fill (A 13) 0 k f) 18 k = f k by rw [rs_ne (by decide), h18]))]
    simp only [Option.bind_some]
    rw [e1]
    simp only [Option.bind_some]
    rw [nI_p1]
    exact e2
/-- a row taken to be stepped: its number is x -/
theorem takesRow_p (x : Int32) (h41 : σ.1 41 = nI m) (hm7 : m ≤ 7) (h1 : 1 ≤ m) (hb : Bo σ) (M : Mo b h σ) : ∃ h2 σ2, Ref_takesRow b x h = some h2 ∧ Lw [31, 32, 33] [13] b h σ m h2 σ2 ∧ po σ2 m = (fill (σ.2.1 13) 0 m (σ.2.1 18), m, 0, x) := by
  obtain ⟨k1, e1, M1, S1⟩ := M.w31 (nI m)
  obtain ⟨k2, e2, M2, S2⟩ := M1.w32 (0 : Int32)
  obtain ⟨k3, e3, M3, S3⟩ := M2.w33 x
  obtain ⟨k4, e4, M4, S4⟩ := takesRow_l (b := b) (A := σ.2.1) (B := σ.2.2) (S := upd (upd (upd σ.1 31 (nI m)) 32 0) 33 x) h41 hm7 rfl m 0 k3 (Nat.zero_add _) (by rw [fill_0, rs_self]; exact M3)
  obtain ⟨br, h23⟩ := hb
  refine ⟨k4, _, ?_, ⟨M4, ⟨fun k hk => ?_, fun k hk => ?_, rfl⟩, ⟨rfl, h1, by omega, br, h23⟩, S1.tr (S2.tr (S3.tr S4))⟩, ?_⟩
  · unfold Ref_takesRow
    rw [if_pos M.o, M.i41, h41]
    simp only [Option.bind_some]
    rw [e1]
    simp only [Option.bind_some]
    rw [e2]
    simp only [Option.bind_some]
    rw [e3]
    exact e4
  · simp only [List.mem_cons, List.not_mem_nil, or_false, not_or] at hk
    show upd (upd (upd σ.1 31 _) 32 _) 33 _ k = σ.1 k
    unfold upd
    rw [if_neg hk.2.2, if_neg hk.2.1, if_neg hk.1]
  · exact rs_ne (fun z => hk (by rw [z]; decide))
  · exact Prod.ext (show rs σ.2.1 13 (fill (σ.2.1 13) 0 m (σ.2.1 18)) 13 = _ from rs_at ..) rfl
theorem finds_l {f : Nat → Int32} (h41 : S 41 = nI m) (hm7 : m ≤ 7) (h18 : A 18 = f) : ∀ (nn k : Nat) (h : am_H), k + nn = m → Mo b h (S, rs A 19 (fill (A 19) 0 k f), B) → ∃ h2, Ref_finds_2 b (nI k) h = some h2 ∧ Mo b h2 (S, rs A 19 (fill (A 19) 0 m f), B) ∧ Same b h h2 := by
  intro nn
  induction nn with
  | zero =>
    intro k h hk M
    have tm := tin (show m < 2 ^ 31 by omega)
    obtain rfl : k = m := by omega
    refine ⟨h, ?_, M, Same.rf⟩
    rw [Ref_finds_2_e, show gI h 12 b 41 = some (nI k) from M.i41.trans (congrArg some h41)]
    simp only [Option.bind_some]
    rw [if_pos (tile.mpr (by omega))]
  | succ nn ih =>
    intro k h hk M
    have tm := tin (show m < 2 ^ 31 by omega)
    have tk := tin (show k < 2 ^ 31 by omega)
    obtain ⟨h1, e1, M1, S1⟩ := M.wrR (i := k) (by decide) (by decide) rfl (show k < 7 by omega) (f k)
    rw [fill_s0 (A 19) k f] at M1
    obtain ⟨h2, e2, M2, S2⟩ := ih (k + 1) h1 (by omega) M1
    refine ⟨h2, ?_, M2, S1.tr S2⟩
    rw [Ref_finds_2_e, show gI h 12 b 41 = some (nI m) from M.i41.trans (congrArg some h41)]
    simp only [Option.bind_some]
    rw [if_neg (fun z => by have := tile.mp z; omega), M.r42, M.r40]
    simp only [Option.bind_some]
    rw [show aI h 0 (b + 1 + 18) (nI k) = some (f k) from (M.rd (r := 18) (by decide) (by decide) (show k < 7 by omega)).trans (congrArg some (show rs A 19 (fill (A 19) 0 k f) 18 k = f k by rw [rs_ne (by decide), h18]))]
    simp only [Option.bind_some]
    rw [e1]
    simp only [Option.bind_some]
    rw [nI_p1]
    exact e2
theorem finds_p (h41 : σ.1 41 = nI m) (hm7 : m ≤ 7) (M : Mo b h σ) : ∃ h2, Ref_finds b h = some h2 ∧ Mo b h2 (σ.1, rs σ.2.1 19 (fill (σ.2.1 19) 0 m (σ.2.1 18)), σ.2.2) ∧ Same b h h2 := by
  obtain ⟨h2, e2, M2, S2⟩ := finds_l (b := b) (A := σ.2.1) (B := σ.2.2) (S := σ.1) h41 hm7 rfl m 0 h (Nat.zero_add _) (by rw [fill_0, rs_self]; exact M)
  refine ⟨h2, ?_, M2, S2⟩
  unfold Ref_finds
  rw [if_pos M.o]
  exact e2
theorem firstOrder_l (hm7 : m ≤ 7) : ∀ (nn k : Nat) (h : am_H), k + nn = m → Mo b h (S, rs A 18 (fill (A 18) 0 k (fun i => nI (i + 1))), B) → ∃ h2, Ref_firstOrder_7 b (nI m) (nI k) h = some h2 ∧ Mo b h2 (S, rs A 18 (fill (A 18) 0 m (fun i => nI (i + 1))), B) ∧ Same b h h2 := by
  intro nn
  induction nn with
  | zero =>
    intro k h hk M
    have tm := tin (show m < 2 ^ 31 by omega)
    obtain rfl : k = m := by omega
    refine ⟨h, ?_, M, Same.rf⟩
    rw [Ref_firstOrder_7_e, if_pos (tile.mpr (by omega))]
  | succ nn ih =>
    intro k h hk M
    have tm := tin (show m < 2 ^ 31 by omega)
    have tk := tin (show k < 2 ^ 31 by omega)
    obtain ⟨h1, e1, M1, S1⟩ := M.wrR (i := k) (by decide) (by decide) rfl (show k < 7 by omega) (nI (k + 1))
    rw [fill_s0 (A 18) k (fun i => nI (i + 1))] at M1
    obtain ⟨h2, e2, M2, S2⟩ := ih (k + 1) h1 (by omega) M1
    refine ⟨h2, ?_, M2, S1.tr S2⟩
    rw [Ref_firstOrder_7_e, if_neg (fun z => by have := tile.mp z; omega), M.r40]
    simp only [Option.bind_some]
    rw [nI_p1, e1]
    exact e2
theorem firstOrder_p (hm7 : m ≤ 7) (M : Mo b h σ) : ∃ h2, Ref_firstOrder b (nI m) h = some h2 ∧ Mo b h2 (upd σ.1 41 (nI m), rs σ.2.1 18 (fill (σ.2.1 18) 0 m (fun i => nI (i + 1))), σ.2.2) ∧ Same b h h2 := by
  obtain ⟨h1, e1, M1, S1⟩ := M.w41 (nI m)
  obtain ⟨h2, e2, M2, S2⟩ := firstOrder_l (b := b) (A := σ.2.1) (B := σ.2.2) (S := upd σ.1 41 (nI m)) hm7 m 0 h1 (Nat.zero_add _) (by rw [fill_0, rs_self]; exact M1)
  refine ⟨h2, ?_, M2, S1.tr S2⟩
  unfold Ref_firstOrder
  rw [if_pos M.o, e1]
  exact e2
theorem rises_l {c : Nat → Int32} (h31 : S 31 = nI m) (hm13 : m ≤ 13) (hc : A 13 = c) (M : Mo b h (S, A, B)) : ∀ (nn k : Nat), k + nn = m → 1 ≤ k → Ref_rises_4 b (bI (ris c k)) (nI k) h = some (bI (ris c m)) := by
  intro nn
  have tm := tin (show m < 2 ^ 31 by omega)
  have e31 : gI h 12 b 31 = some (nI m) := M.i31.trans (congrArg some h31)
  induction nn with
  | zero =>
    intro k hk _
    obtain rfl : k = m := by omega
    rw [Ref_rises_4_e, e31]
    simp only [Option.bind_some]
    rw [if_pos (tile.mpr (by omega)), bI_z]
    rfl
  | succ nn ih =>
    intro k hk h1
    have tk := tin (show k < 2 ^ 31 by omega)
    have IH := ih (k + 1) (by omega) (by omega)
    have r1 : aI h 0 (b + 1 + 13) (nI (k - 1)) = some (c (k - 1)) := (M.rd (r := 13) (by decide) (by decide) (show k - 1 < 13 by omega)).trans (by rw [show (S, A, B).2.1 13 = c from hc])
    have r2 : aI h 0 (b + 1 + 13) (nI k) = some (c k) := (M.rd (r := 13) (by decide) (by decide) (show k < 13 by omega)).trans (by rw [show (S, A, B).2.1 13 = c from hc])
    rw [← IH, Ref_rises_4_e, e31]
    simp only [Option.bind_some]
    rw [if_neg (fun z => by have := tile.mp z; omega)]
    have rk : ris c (k + 1) = (ris c k && decide (c (k - 1) ≤ c k)) := by
      show (ris c k && (decide (k = 0) || decide (c (k - 1) ≤ c k))) = _
      rw [decide_eq_false (show ¬ k = 0 by omega), Bool.false_or]
    rw [rk]
    by_cases q : ris c k = true
    · rw [if_neg (fun x => bI_0.mp x q), M.r29]
      simp only [Option.bind_some]
      rw [show nI k - (1 : Int32) = nI (k - 1) from pk_sub (a := k) (b := 1) h1, r1, r2]
      simp only [Option.bind_some]
      rw [q, Bool.true_and]
      by_cases q2 : c k < c (k - 1)
      · rw [if_pos q2, Ref_rises_37_e, Ref_rises_38_e, nI_p1, decide_eq_false (fun z => by have := tile.mp z; have := tilt.mp q2; omega)]
        rfl
      · rw [if_neg q2, Ref_rises_38_e, nI_p1, decide_eq_true (tile.mpr (by have := mt tilt.mpr q2; omega))]
        rfl
    · rw [if_pos (bI_0.mpr q), Ref_rises_37_e, Ref_rises_38_e, nI_p1, show ris c k = false by cases hx : ris c k <;> simp_all]
      rfl
theorem rises_p (h31 : σ.1 31 = nI m) (hm13 : m ≤ 13) (hm1 : 1 ≤ m) (M : Mo b h σ) : Ref_rises b h = some (bI (ris (σ.2.1 13) m)) := by
  unfold Ref_rises
  rw [if_pos M.o]
  have e := rises_l (b := b) (S := σ.1) (A := σ.2.1) (B := σ.2.2) h31 hm13 rfl M (m - 1) 1 (by omega) (Nat.le_refl _)
  exact e
theorem next_107l : ∀ (nn lo hi : Nat) (h : am_H) (f : Nat → Int32), 1 ≤ lo → hi < 7 → lo ≤ 7 → hi ≤ lo + nn → Mo b h (S, rs A 18 f, B) → ∃ h2, Ref_nextRow_107 b (nI lo) (nI hi) h = some (1, h2) ∧ Mo b h2 (S, rs A 18 (rvz f lo hi), B) ∧ Same b h h2 := by
  intro nn
  induction nn with
  | zero =>
    intro lo hi h f h0 h7 h8 hn M
    have tl := tin (show lo < 2 ^ 31 by omega)
    have th := tin (show hi < 2 ^ 31 by omega)
    rw [Ref_nextRow_107_e, if_pos (tile.mpr (by omega))]
    exact ⟨h, rfl, by rw [rvz_no (by omega)]; exact M, Same.rf⟩
  | succ nn ih =>
    intro lo hi h f h0 h7 h8 hn M
    have tl := tin (show lo < 2 ^ 31 by omega)
    have th := tin (show hi < 2 ^ 31 by omega)
    rw [Ref_nextRow_107_e]
    by_cases q : hi ≤ lo
    · rw [if_pos (tile.mpr (by omega))]
      exact ⟨h, rfl, by rw [rvz_no (by omega)]; exact M, Same.rf⟩
    · obtain ⟨hi, rfl⟩ : ∃ k, hi = k + 1 := ⟨hi - 1, by omega⟩
      have r : ∀ i, i < 7 → aI h 0 (b + 1 + 18) (nI i) = some (f i) := fun i hi => (M.rd (r := 18) (by decide) (by decide) hi).trans (congrArg some (by show rs A 18 f 18 i = f i; rw [rs_at]))
      obtain ⟨h1, e1, M1, S1⟩ := M.wrR (i := lo) (by decide) (by decide) rfl (show lo < 7 by omega) (f (hi + 1))
      obtain ⟨h2, e2, M2, S2⟩ := M1.wrR (i := hi + 1) (by decide) (by decide) rfl (show hi + 1 < 7 by omega) (f lo)
      obtain ⟨h3, e3, M3, S3⟩ := ih (lo + 1) hi h2 (swp f lo (hi + 1)) (by omega) (by omega) (by omega) (by omega) M2
      refine ⟨h3, ?_, ?_, S1.tr (S2.tr S3)⟩
      · rw [if_neg (fun z => q (by have := tile.mp z; omega)), M.r40]
        simp only [Option.bind_some]
        rw [r lo (by omega), r (hi + 1) (by omega)]
        simp only [Option.bind_some]
        rw [e1]
        simp only [Option.bind_some]
        rw [M1.r40]
        simp only [Option.bind_some]
        rw [e2]
        simp only [Option.bind_some]
        rw [nI_p1, show nI (hi + 1) + (-1 : Int32) = nI hi from pk_m1 hi]
        exact e3
      · have := rvz_s (f := f) (lo := lo) (hi := ((hi + 1 : Nat) : Int)) (by omega) (by omega)
        rw [show ((lo : Nat) : Int).toNat = lo by omega, show ((hi + 1 : Nat) : Int).toNat = hi + 1 by omega, show (((hi + 1 : Nat) : Int) - 1) = (hi : Int) by omega] at this
        rw [← this]
        exact M3
theorem next_47l {f : Nat → Int32} (M : Mo b h (S, rs A 18 f, B)) {lo : Nat} (hl : f lo < f (lo + 1)) (hlo : lo < 7) : ∀ (k : Nat), lo < k → k < 7 → Ref_nextRow_47 b (nI lo) (nI k) h = Ref_nextRow_47 b (nI lo) (nI (hia f lo k)) h
  | 0, h0, _ => by omega
  | k + 1, h0, h7 => by
    have r : ∀ i, i < 7 → aI h 0 (b + 1 + 18) (nI i) = some (f i) := fun i hi => (M.rd (r := 18) (by decide) (by decide) hi).trans (congrArg some (by show rs A 18 f 18 i = f i; rw [rs_at]))
    unfold hia
    by_cases q : f lo < f (k + 1)
    · rw [if_pos q]
    · rw [if_neg q]
      have hk : lo < k := by
        refine Nat.lt_of_not_le (fun z => q ?_)
        have : k = lo := by omega
        rw [this]; exact hl
      rw [← next_47l M hl hlo k hk (by omega)]
      conv => lhs; rw [Ref_nextRow_47_e]
      rw [M.r40]
      simp only [Option.bind_some]
      rw [r (k + 1) h7, r lo hlo]
      simp only [Option.bind_some]
      rw [if_neg q, show nI (k + 1) + (-1 : Int32) = nI k from pk_m1 k]
noncomputable def nx7 (b : Nat) (h : am_H) : Option Nat → Option (Int32 × am_H)
  | none => some (0, h)
  | some lo => Ref_nextRow_34 b (nI lo) h
theorem next_7l {f : Nat → Int32} (M : Mo b h (S, rs A 18 f, B)) : ∀ (k : Nat), k + 1 ≤ 7 → Ref_nextRow_7 b (hS k) h = nx7 b h (lwa f 0 k)
  | 0, _ => by
    rw [Ref_nextRow_7_e, if_pos (by decide)]
    show Ref_nextRow_34 b (-1) h = some (0, h)
    unfold Ref_nextRow_34
    rw [if_neg (by decide)]
  | k + 1, h7 => by
    have r : ∀ i, i < 7 → aI h 0 (b + 1 + 18) (nI i) = some (f i) := fun i hi => (M.rd (r := 18) (by decide) (by decide) hi).trans (congrArg some (by show rs A 18 f 18 i = f i; rw [rs_at]))
    have tk := tin (show k < 2 ^ 31 by omega)
    rw [Ref_nextRow_7_e, show hS (k + 1) = nI k from rfl, if_neg (fun z => by have := tilt.mp z; rw [tk, ti0] at this; omega), M.r40]
    simp only [Option.bind_some]
    rw [nI_p1, r k (by omega), r (k + 1) (by omega)]
    simp only [Option.bind_some]
    show _ = nx7 b h (if k < 0 then none else if f k < f (k + 1) then some k else lwa f 0 k)
    rw [if_neg (show ¬ k < 0 by omega)]
    by_cases q : f k < f (k + 1)
    · rw [if_pos q, if_pos q]; rfl
    · rw [if_neg q, if_neg q, hS_m]
      exact next_7l M k (by omega)
theorem nextRow_p {f : Nat → Int32} (h41 : S 41 = nI m) (h1 : 1 ≤ m) (hm7 : m ≤ 7) (M : Mo b h (S, rs A 18 f, B)) : (nxa f m 0 = none → Ref_nextRow b h = some (0, h)) ∧ (∀ f2, nxa f m 0 = some f2 → ∃ h2, Ref_nextRow b h = some (1, h2) ∧ Mo b h2 (S, rs A 18 f2, B) ∧ Same b h h2) := by
  have tm := tin (show m < 2 ^ 31 by omega)
  have e41 : ∀ (h : am_H) (g : Nat → Int32), Mo b h (S, rs A 18 g, B) → gI h 12 b 41 = some (nI m) := fun h g M => M.i41.trans (congrArg some h41)
  have e0 : nI m - (2 : Int32) = hS (m - 1) := by
    rw [← hS_m]
    apply Int32.toInt_inj.mp
    have t2 : (2 : Int32).toInt = 2 := by decide
    rw [ti_sub (z := (m : Int) - 2) (by rw [tm, t2]) (by omega) (by omega), ti_add (z := (m : Int) - 2) (by rw [tin (show m - 1 < 2 ^ 31 by omega), tim1]; omega) (by omega) (by omega)]
  have E : Ref_nextRow b h = nx7 b h (lwa f 0 (m - 1)) := by
    unfold Ref_nextRow
    rw [if_pos M.o, e41 h f M]
    simp only [Option.bind_some]
    rw [e0]
    exact next_7l M (m - 1) (by omega)
  unfold nxa
  rw [E]
  cases hl : lwa f 0 (m - 1) with
  | none => exact ⟨fun _ => rfl, fun f2 z => by cases z⟩
  | some lo =>
    refine ⟨fun z => (by cases z), fun f2 z => ?_⟩
    obtain ⟨l1, l2, l3⟩ := lwa_s hl
    obtain ⟨k1, k2, k3⟩ := hia_s l3 (k := m - 1) l1
    have tl := tin (show lo < 2 ^ 31 by omega)
    have z : rvz (swp f lo (hia f lo (m - 1))) (lo + 1) (m - 1) = f2 := Option.some.inj z
    have r : ∀ i, i < 7 → aI h 0 (b + 1 + 18) (nI i) = some (f i) := fun i hi => (M.rd (r := 18) (by decide) (by decide) hi).trans (congrArg some (by show rs A 18 f 18 i = f i; rw [rs_at]))
    obtain ⟨h2, e2, M2, S2⟩ := M.wrR (i := lo) (by decide) (by decide) rfl (show lo < 7 by omega) (f (hia f lo (m - 1)))
    obtain ⟨h3, e3, M3, S3⟩ := M2.wrR (i := hia f lo (m - 1)) (by decide) (by decide) rfl (show hia f lo (m - 1) < 7 by omega) (f lo)
    obtain ⟨h4, e4, M4, S4⟩ := next_107l 7 (lo + 1) (m - 1) h3 (swp f lo (hia f lo (m - 1))) (by omega) (by omega) (by omega) (by omega) M3
    refine ⟨h4, ?_, ?_, S2.tr (S3.tr S4)⟩
    · show Ref_nextRow_34 b (nI lo) h = _
      unfold Ref_nextRow_34
      rw [if_pos (tile.mpr (by rw [tl, ti0]; omega)), e41 h f M]
      simp only [Option.bind_some]
      rw [show nI m - (1 : Int32) = nI (m - 1) from pk_sub (a := m) (b := 1) h1, next_47l M l3 (by omega) (m - 1) l1 (by omega), Ref_nextRow_47_e, M.r40]
      simp only [Option.bind_some]
      rw [r (hia f lo (m - 1)) (by omega), r lo (by omega)]
      simp only [Option.bind_some]
      rw [if_pos k3, e2]
      simp only [Option.bind_some]
      rw [M2.r40]
      simp only [Option.bind_some]
      rw [e3]
      simp only [Option.bind_some]
      rw [e41 h3 _ M3]
      simp only [Option.bind_some]
      rw [nI_p1, show nI m - (1 : Int32) = nI (m - 1) from pk_sub (a := m) (b := 1) h1]
      exact e4
    · rw [← z]
      rw [show ((lo : Int) + 1) = ((lo + 1 : Nat) : Int) by omega, show ((m : Int) - 1) = ((m - 1 : Nat) : Int) by omega]
      exact M4
/-- x put into its place among those below a -/
def ins (f : Nat → Int32) (x : Int32) : Nat → Nat → Int32
  | 0 => upd f 0 x
  | a + 1 => if f a ≤ x then upd f (a + 1) x else ins (upd f (a + 1) (f a)) x a
theorem ins_s {x : Int32} {k : Nat} : ∀ (a : Nat) (f : Nat → Int32), a ≤ k → (∀ i j, i ≤ j → j ≤ k → i ≠ a → j ≠ a → (f i).toInt ≤ (f j).toInt) → (∀ j, a < j → j ≤ k → x.toInt ≤ (f j).toInt) → srt (ins f x a) 0 (k + 1) ∧ ∀ y, cnx (ins f x a) y (k + 1) = cnx (upd f a x) y (k + 1)
  | 0, f, ha, h1, h2 => by
    refine ⟨fun i j _ hij hj => ?_, fun y => rfl⟩
    show (upd f 0 x i).toInt ≤ (upd f 0 x j).toInt
    unfold upd
    by_cases q1 : i = 0
    · rw [if_pos q1]
      by_cases q2 : j = 0
      · rw [if_pos q2]; omega
      · rw [if_neg q2]; exact h2 j (by omega) (by omega)
    · rw [if_neg q1, if_neg (by omega)]
      exact h1 i j hij (by omega) q1 (by omega)
  | a + 1, f, ha, h1, h2 => by
    unfold ins
    by_cases q : f a ≤ x
    · rw [if_pos q]
      have q := tile.mp q
      refine ⟨fun i j _ hij hj => ?_, fun y => rfl⟩
      unfold upd
      by_cases q1 : i = a + 1
      · rw [if_pos q1]
        by_cases q2 : j = a + 1
        · rw [if_pos q2]; omega
        · rw [if_neg q2]; exact h2 j (by omega) (by omega)
      · rw [if_neg q1]
        by_cases q2 : j = a + 1
        · rw [if_pos q2]
          have := h1 i a (by omega) (by omega) q1 (by omega)
          omega
        · rw [if_neg q2]; exact h1 i j hij (by omega) q1 q2
    · rw [if_neg q]
      have q' : x.toInt < (f a).toInt := by have := mt tile.mpr q; omega
      obtain ⟨r1, r2⟩ := ins_s (x := x) (k := k) a (upd f (a + 1) (f a)) (by omega) (fun i j hij hj hi hj2 => by
        unfold upd
        by_cases q1 : i = a + 1
        · rw [if_pos q1]
          by_cases q2 : j = a + 1
          · rw [if_pos q2]; omega
          · rw [if_neg q2]; exact h1 a j (by omega) hj (by omega) q2
        · rw [if_neg q1]
          by_cases q2 : j = a + 1
          · rw [if_pos q2]; exact h1 i a (by omega) (by omega) q1 (by omega)
          · rw [if_neg q2]; exact h1 i j hij hj q1 q2) (fun j hj hjk => by
        unfold upd
        by_cases q2 : j = a + 1
        · rw [if_pos q2]; omega
        · rw [if_neg q2]; exact h2 j (by omega) hjk)
      refine ⟨r1, fun y => ?_⟩
      rw [r2 y]
      have e : upd (upd f (a + 1) (f a)) a x = swp (upd f (a + 1) x) a (a + 1) := by
        funext i
        unfold swp upd
        by_cases q1 : i = a + 1
        · rw [if_neg (by omega), if_pos q1, if_pos q1, if_neg (by omega)]
        · rw [if_neg q1, if_neg q1, if_neg q1]
          by_cases q2 : i = a
          · rw [if_pos q2, if_pos q2, if_pos rfl]
          · rw [if_neg q2, if_neg q2]
      rw [e]
      exact cnx_swp (by omega) (by omega)
theorem first_29l {j k : Nat} (hk : k < 7) {x : Int32} : ∀ (a : Nat) (h : am_H) (f : Nat → Int32), a ≤ k → Mo b h (S, rs A 18 f, B) → ∃ h2, Ref_firstRow_29 b (nI j) (nI k) x (nI a) h = Ref_firstRow_11 b (nI j) (nI (k + 1)) h2 ∧ Mo b h2 (S, rs A 18 (ins f x a), B) ∧ Same b h h2
  | 0, h, f, ha, M => by
    obtain ⟨h1, e1, M1, S1⟩ := M.wrR (i := 0) (by decide) (by decide) rfl (by decide) x
    refine ⟨h1, ?_, M1, S1⟩
    rw [Ref_firstRow_29_e, if_pos (by decide), Ref_firstRow_69_e, M.r40]
    simp only [Option.bind_some]
    rw [e1]
    simp only [Option.bind_some]
    rw [nI_p1]
  | a + 1, h, f, ha, M => by
    have ta := tin (show a + 1 < 2 ^ 31 by omega)
    have r : aI h 0 (b + 1 + 18) (nI a) = some (f a) := (M.rd (r := 18) (by decide) (by decide) (show a < 7 by omega)).trans (congrArg some (by show rs A 18 f 18 a = f a; rw [rs_at]))
    unfold ins
    rw [Ref_firstRow_29_e, if_neg (fun z => by have := tile.mp z; rw [ta, ti0] at this; omega), M.r40]
    simp only [Option.bind_some]
    rw [show nI (a + 1) - (1 : Int32) = nI a from pk_sub (a := a + 1) (b := 1) (by omega), r]
    simp only [Option.bind_some]
    by_cases q : f a ≤ x
    · rw [if_pos q, if_pos q]
      obtain ⟨h1, e1, M1, S1⟩ := M.wrR (i := a + 1) (by decide) (by decide) rfl (show a + 1 < 7 by omega) x
      refine ⟨h1, ?_, M1, S1⟩
      rw [Ref_firstRow_69_e, M.r40]
      simp only [Option.bind_some]
      rw [e1]
      simp only [Option.bind_some]
      rw [nI_p1]
    · rw [if_neg q, if_neg q]
      obtain ⟨h1, e1, M1, S1⟩ := M.wrR (i := a + 1) (by decide) (by decide) rfl (show a + 1 < 7 by omega) (f a)
      obtain ⟨h2, e2, M2, S2⟩ := first_29l hk a h1 _ (by omega) M1
      refine ⟨h2, ?_, M2, S1.tr S2⟩
      rw [e1]
      simp only [Option.bind_some]
      rw [show nI (a + 1) + (-1 : Int32) = nI a from pk_m1 a]
      exact e2
theorem first_11l {j : Nat} (hj : j < 6) (hm7 : m ≤ 7) (h41 : S 41 = nI m) {c : Nat → Int32} (hc : ∀ i, i < 13 → A 1 (16 * j + 3 + i) = c i) : ∀ (nn k : Nat) (h : am_H) (f : Nat → Int32), k + nn = m → srt f 0 k → (∀ y, cnx f y k = cnx c y k) → Mo b h (S, rs A 18 f, B) → ∃ h2 f2, Ref_firstRow_11 b (nI j) (nI k) h = some h2 ∧ Mo b h2 (S, rs A 18 f2, B) ∧ Same b h h2 ∧ srt f2 0 m ∧ ∀ y, cnx f2 y m = cnx c y m := by
  intro nn
  have tm := tin (show m < 2 ^ 31 by omega)
  induction nn with
  | zero =>
    intro k h f hk hs hy M
    obtain rfl : k = m := by omega
    refine ⟨h, f, ?_, M, Same.rf, hs, hy⟩
    rw [Ref_firstRow_11_e, show gI h 12 b 41 = some (nI k) from M.i41.trans (congrArg some h41)]
    simp only [Option.bind_some]
    rw [if_pos (tile.mpr (by omega))]
  | succ nn ih =>
    intro k h f hk hs hy M
    have tk := tin (show k < 2 ^ 31 by omega)
    obtain ⟨h1, e1, M1, S1⟩ := first_29l (j := j) (x := c k) (show k < 7 by omega) k h f (Nat.le_refl _) M
    obtain ⟨i1, i2⟩ := ins_s (x := c k) (k := k) k f (Nat.le_refl _) (fun i j hij hjk hi hj2 => hs i j (Nat.zero_le _) hij (by omega)) (fun j h1 h2 => by omega)
    obtain ⟨h2, f2, e2, M2, S2, r1, r2⟩ := ih (k + 1) h1 _ (by omega) i1 (fun y => by
      rw [i2 y]
      show cnx (upd f k (c k)) y k + (if upd f k (c k) k = y then 1 else 0) = cnx c y k + (if c k = y then 1 else 0)
      rw [(cnx_upd (f := f) (x := y) (v := c k) (k := k) (m := k)).1 (Nat.le_refl _), hy y, show upd f k (c k) k = c k from if_pos rfl]) M1
    refine ⟨h2, f2, ?_, M2, S1.tr S2, r1, r2⟩
    rw [Ref_firstRow_11_e, show gI h 12 b 41 = some (nI m) from M.i41.trans (congrArg some h41)]
    simp only [Option.bind_some]
    rw [if_neg (fun z => by have := tile.mp z; omega), show Ref_cardOf b (nI j) (nI k) h = some (c k) from (cardOf_p hj (by omega) M).trans (congrArg some (by show rs A 18 f 1 _ = _; rw [rs_ne (by decide)]; exact hc k (by omega)))]
    simp only [Option.bind_some]
    exact e1.trans e2
theorem firstRow_p {j : Nat} (hj : j < 6) (hm7 : m ≤ 7) (hmj : σ.2.1 1 (16 * j) = nI m) (M : Mo b h σ) : ∃ h2 f2, Ref_firstRow b (nI j) h = some h2 ∧ Mo b h2 (upd σ.1 41 (nI m), rs σ.2.1 18 f2, σ.2.2) ∧ Same b h h2 ∧ srt f2 0 m ∧ ∀ y, cnx f2 y m = cnx (fun i => σ.2.1 1 (16 * j + 3 + i)) y m := by
  obtain ⟨h1, e1, M1, S1⟩ := M.w41 (nI m)
  obtain ⟨h2, f2, e2, M2, S2, r1, r2⟩ := first_11l (b := b) (S := upd σ.1 41 (nI m)) (A := σ.2.1) (B := σ.2.2) hj hm7 rfl (fun i _ => rfl) m 0 h1 (σ.2.1 18) (Nat.zero_add _) (fun i j _ _ hj => by omega) (fun _ => rfl) (by rw [rs_self]; exact M1)
  refine ⟨h2, f2, ?_, M2, S1.tr S2, r1, r2⟩
  unfold Ref_firstRow
  rw [if_pos M.o, manyIn_p hj M, hmj]
  simp only [Option.bind_some]
  rw [e1]
  exact e2
end RowR
