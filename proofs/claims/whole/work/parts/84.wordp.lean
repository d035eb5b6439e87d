/-! PURE: words and numbers of the tape -/
theorem rnw_in {f : Nat → Int32} {t : Nat} {lo hi : Int32} : ∀ (k x i : Nat), x ≤ i → i < rnw f t lo hi k x → lo ≤ f i ∧ f i ≤ hi
  | 0, x, i, h1, h2 => absurd h2 (by show ¬ i < x; omega)
  | k + 1, x, i, h1, h2 => by
    unfold rnw at h2
    split at h2
    · rename_i q
      by_cases e : i = x
      · subst e; exact q.2
      · exact rnw_in k (x + 1) i (by omega) h2
    · omega
def nbv (f : Nat → Int32) : Nat → Nat → Nat → Nat
  | 0, _, a => a
  | k + 1, i, a => nbv f k (i + 1) (min (a * 10 + (f i).toInt.toNat - 48) 1001)
section Words
variable {h : am_H} {f : Nat → Int32} {t : Nat} {y : Nat}
theorem Tape_number_l (H : Tok h f t y) : ∀ (k i a : Nat), i + k = tnx f t y → (∀ j, i ≤ j → j < tnx f t y → 48 ≤ (f j).toInt ∧ (f j).toInt ≤ 57) → a ≤ 1001 → Tape_number_17 1 (nI a) (nI i) h = some (nI (nbv f k i a)) := by
  obtain ⟨hy, ht, H⟩ := H
  have hx := (tnx_le (f := f) hy).1
  have tt := tin (show t < 2 ^ 31 by omega)
  have tx := tin (show tnx f t y < 2 ^ 31 by omega)
  have t1 : (1001 : Int32).toInt = 1001 := by decide
  intro k
  induction k with
  | zero =>
    intro i a hi hd ha
    have ti := tin (show i < 2 ^ 31 by omega)
    rw [Tape_number_17_e, H.g4]
    simp only [Option.bind_some]
    rw [if_pos (tile.mpr (by omega))]; rfl
  | succ k ih =>
    intro i a hi hd ha
    have ti := tin (show i < 2 ^ 31 by omega)
    rw [Tape_number_17_e, H.g4, H.g1, H.g0]
    simp only [Option.bind_some]
    rw [if_neg (fun z => by have := tile.mp z; omega), if_neg (fun z => by have := tile.mp z; omega), H.by (by omega)]
    simp only [Option.bind_some]
    have hd0 := hd i (Nat.le_refl _) (by omega)
    have ef : f i = nI (f i).toInt.toNat := by apply Int32.toInt_inj.mp; rw [tin (by omega)]; omega
    have e1 : ((nI a * (10 : Int32)) + f i) - (48 : Int32) = nI (a * 10 + (f i).toInt.toNat - 48) := by
      rw [show (10 : Int32) = nI 10 from rfl, pk_mul]
      conv => lhs; rw [ef]
      rw [nI_add, show (48 : Int32) = nI 48 from rfl, pk_sub (by omega)]
    have te := tin (show a * 10 + (f i).toInt.toNat - 48 < 2 ^ 31 by omega)
    have e2 : (if (1001 : Int32) < nI (a * 10 + (f i).toInt.toNat - 48) then (1001 : Int32) else nI (a * 10 + (f i).toInt.toNat - 48)) = nI (min (a * 10 + (f i).toInt.toNat - 48) 1001) := by
      by_cases q : a * 10 + (f i).toInt.toNat - 48 ≤ 1001
      · rw [if_neg (fun z => by have := tilt.mp z; omega), Nat.min_eq_left q]
      · rw [if_pos (tilt.mpr (by omega)), Nat.min_eq_right (by omega)]; exact (show (1001 : Int32) = nI 1001 by decide)
    rw [e1, e2, nI_p1]
    exact ih (i + 1) _ (by omega) (fun j h1 h2 => hd j (by omega) h2) (Nat.min_le_right _ _)
theorem tkd_2 (hk : tkd f t y = 2) : y < t ∧ (∀ j, y ≤ j → j < tnx f t y → 48 ≤ (f j).toInt ∧ (f j).toInt ≤ 57) := by
  unfold tkd at hk
  split at hk
  · cases hk
  · rename_i q
    split at hk
    · cases hk
    · rename_i q1
      split at hk
      · rename_i q2
        have t48 : (48 : Int32).toInt = 48 := by decide
        have t57 : (57 : Int32).toInt = 57 := by decide
        refine ⟨by omega, fun j h1 h2 => ?_⟩
        have e : tnx f t y = rnw f t 48 57 (t - (y + 1)) (y + 1) := (if_neg q).trans ((if_neg q1).trans (if_pos q2))
        have key : 48 ≤ f j ∧ f j ≤ 57 := by
          by_cases z : j = y
          · subst z; exact q2
          · exact rnw_in (t - (y + 1)) (y + 1) j (by omega) (by rw [← e]; exact h2)
        have := tile.mp key.1
        have := tile.mp key.2
        omega
      · cases hk
theorem Tape_number_v (H : Tok h f t y) : Tape_number 1 h = some (if tkd f t y = 2 then nI (nbv f (tnx f t y - y) y 0) else -1) := by
  have H0 := H
  obtain ⟨hy, ht, H⟩ := H
  have hk : tkd f t y < 5 := by unfold tkd; split; decide; split; decide; split <;> decide
  unfold Tape_number
  rw [if_pos (isO_of H.1), H.g2, H.g3]
  simp only [Option.bind_some]
  by_cases q : tkd f t y = 2
  · rw [if_pos (by rw [q]; rfl), if_pos q]
    obtain ⟨h1, h2⟩ := tkd_2 q
    have := (tnx_le (f := f) hy).2 h1
    exact Tape_number_l H0 (tnx f t y - y) y 0 (by omega) h2 (by omega)
  · rw [if_neg (show ¬ nI (tkd f t y) = (2 : Int32) from nIne (b := 2) (by omega) (by decide) q), if_neg q]
/-! the constants' texts -/
theorem str_len : ∀ w, w < 11 → (am_byt.getD w []).length = am_len.getD w 0 ∧ am_len.getD w 0 < 50 := by decide
theorem str_ch : ∀ w, w < 11 → ∀ j, j < am_len.getD w 0 → (Int32.toUInt32 (((am_byt.getD w []).getD j 0) &&& (255 : Int32)) % 65536).toInt32 = (am_byt.getD w []).getD j 0 ∧ narrow .char (.int ((am_byt.getD w []).getD j 0)) = .int ((am_byt.getD w []).getD j 0) := by decide +kernel
theorem Str_length_v {w : Nat} (hw : w < 11) : Str_length w h = some (nI (am_len.getD w 0)) := by
  have hl := (str_len w hw).2
  have e : nI (am_len.getD w 0) >>> ((0 : Int32) &&& 31) = nI (am_len.getD w 0) := by
    rw [pk_shrN (by omega) _ 0 (by decide)]; exact congrArg nI (Nat.div_one _)
  unfold Str_length strO strL Str_coder strO
  rw [if_pos hw, if_pos hw, if_pos hw, if_pos hw, if_neg (by decide)]
  simp only [Option.bind_some]
  rw [show nr .byte (0 : Int32) = some 0 by decide]
  simp only [Option.bind_some]
  exact congrArg some e
theorem Str_charAt_v {w j : Nat} (hw : w < 11) (hj : j < am_len.getD w 0) : Str_charAt w (nI j) h = some ((am_byt.getD w []).getD j 0) := by
  have hl := (str_len w hw).2
  have tj := tin (show j < 2 ^ 31 by omega)
  have tl := tin (show am_len.getD w 0 < 2 ^ 31 by omega)
  obtain ⟨c1, c2⟩ := str_ch w hw j hj
  have eL : Str_isLatin1 w h = some 1 := by
    unfold Str_isLatin1 strO
    rw [if_pos hw, if_neg (by decide), if_pos hw]; rfl
  have eS : strL w = some (nI (am_len.getD w 0)) := by unfold strL; rw [if_pos hw]; rfl
  have eB : strB w (nI j) = some ((am_byt.getD w []).getD j 0) := by
    unfold strB
    rw [if_pos ⟨hw, by omega⟩, tj]; rfl
  have eC : Str_checkIndex (nI j) (nI (am_len.getD w 0)) h = some () := by
    unfold Str_checkIndex Pre_checkIndex
    rw [if_neg (fun z => by have := tilt.mp z; rw [tj, ti0] at this; omega), if_pos (tilt.mpr (by omega))]; rfl
  have eN : nr .char ((am_byt.getD w []).getD j 0) = some ((am_byt.getD w []).getD j 0) := if_pos c2
  unfold Str_charAt
  rw [if_pos hw, eL]
  simp only [Option.bind_some]
  rw [if_neg (by decide)]
  unfold strO
  rw [if_pos hw]
  simp only [Option.bind_some]
  unfold Lat_charAt
  rw [eS]
  simp only [Option.bind_some]
  rw [eC]
  simp only [Option.bind_some]
  rw [eB]
  simp only [Option.bind_some]
  rw [c1, eN]
  simp only [Option.bind_some]
  rw [eN]
  rfl
/-- which of the words, parted by blanks: n letters from place y on -/
def amr (f : Nat → Int32) (t y n : Nat) : List Int32 → Nat → Nat → Bool → Int32
  | [], wh, cn, al => if al = true ∧ cn = n then nI wh else -1
  | c :: r, wh, cn, al => if c = 32 then (if al = true ∧ cn = n then nI wh else amr f t y n r (wh + 1) 0 true) else amr f t y n r wh (cn + 1) (al && decide (cn < n) && decide (y + cn < t) && decide (f (y + cn) = c))
theorem Tape_among_l (H : Tok h f t y) (hk : tkd f t y = 1) {w : Nat} (hw : w < 11) : ∀ (r : List Int32) (i wh fr cn : Nat) (al : Bool), (am_byt.getD w []).drop i = r → i ≤ am_len.getD w 0 → fr + cn = i → wh ≤ i → Tape_among_22 1 w (nI wh) (nI fr) (nI (bN (al = true))) (nI i) h = some (amr f t y (tnx f t y - y) r wh cn al) := by
  have H0 := H
  obtain ⟨hy, ht, H⟩ := H
  obtain ⟨hl1, hl2⟩ := str_len w hw
  have hx := tnx_le (f := f) hy
  have hyt : y < t := by
    refine Nat.lt_of_not_le (fun z => ?_)
    have : tkd f t y = 4 := if_pos z
    omega
  have hyx := hx.2 hyt
  have tl := tin (show am_len.getD w 0 < 2 ^ 31 by omega)
  have g2 : gI h 8 1 2 = some (1 : Int32) := by rw [H.g2, hk]; rfl
  have ex : nI (tnx f t y) - nI y = nI (tnx f t y - y) := pk_sub (by omega)
  intro r
  induction r with
  | nil =>
    intro i wh fr cn al hd hi hfr hwh
    have hil : i = am_len.getD w 0 := by
      have := congrArg List.length hd
      rw [List.length_drop, hl1, List.length_nil] at this
      omega
    have ti := tin (show i < 2 ^ 31 by omega)
    have e82 : Tape_among_82 1 w (nI wh) (nI i) h = some (-1) := by
      rw [Tape_among_82_e, Tape_among_153_e, nI_p1, nI_p1, Tape_among_22_e, Str_length_v hw]
      simp only [Option.bind_some]
      rw [if_pos (tilt.mpr (by rw [tin (show i + 1 < 2 ^ 31 by omega)]; omega))]
    rw [Tape_among_22_e, Str_length_v hw]
    simp only [Option.bind_some]
    rw [if_neg (fun z => by have := tilt.mp z; omega), g2]
    simp only [Option.bind_some]
    rw [if_pos trivial, if_pos (congrArg nI hil), Tape_among_59_e]
    show _ = some (if _ then _ else _)
    have ec : nI i - nI fr = nI cn := by rw [pk_sub (by omega)]; exact congrArg nI (by omega)
    cases al with
    | false => rw [if_pos (by decide), e82, if_neg (fun z => by cases z.1)]
    | true =>
      rw [if_neg (by decide), H.g4, H.g3]
      simp only [Option.bind_some]
      rw [ec, ex]
      by_cases q : cn = tnx f t y - y
      · rw [if_pos (congrArg nI q), if_pos ⟨by first | rfl | trivial, q⟩]
      · rw [if_neg (nIne (by omega) (by omega) q), e82, if_neg (fun z => q z.2)]
  | cons c r ih =>
    intro i wh fr cn al hd hi hfr hwh
    have hil : i < am_len.getD w 0 := by
      have := congrArg List.length hd
      rw [List.length_drop, hl1, List.length_cons] at this
      omega
    have ti := tin (show i < 2 ^ 31 by omega)
    have hci : (am_byt.getD w []).getD i 0 = c := by
      have h1 : (am_byt.getD w [])[i]? = some c := by
        have := congrArg (fun l => l[0]?) hd
        simpa [List.getElem?_drop] using this
      rw [List.getD_eq_getElem?_getD, h1]; rfl
    have hdr : (am_byt.getD w []).drop (i + 1) = r := by
      have := congrArg List.tail hd
      rw [List.tail_drop] at this
      exact this
    have ech : Str_charAt w (nI i) h = some c := by rw [Str_charAt_v hw hil, hci]
    have ec : nI i - nI fr = nI cn := by rw [pk_sub (by omega)]; exact congrArg nI (by omega)
    have e82 : Tape_among_82 1 w (nI wh) (nI i) h = some (amr f t y (tnx f t y - y) r (wh + 1) 0 true) := by
      rw [Tape_among_82_e, Tape_among_153_e, nI_p1, nI_p1]
      exact ih (i + 1) (wh + 1) (i + 1) 0 true hdr (by omega) (by omega) (by omega)
    rw [Tape_among_22_e, Str_length_v hw]
    simp only [Option.bind_some]
    rw [if_neg (fun z => by have := tilt.mp z; omega), g2]
    simp only [Option.bind_some]
    rw [if_pos trivial, if_neg (nIne (by omega) (by omega) (by omega)), ech]
    simp only [Option.bind_some]
    by_cases q0 : c = 32
    · rw [if_pos q0, Tape_among_59_e]
      have ea : amr f t y (tnx f t y - y) (c :: r) wh cn al = if al = true ∧ cn = tnx f t y - y then nI wh else amr f t y (tnx f t y - y) r (wh + 1) 0 true := if_pos q0
      rw [ea]
      cases al with
      | false => rw [if_pos (by decide), e82, if_neg (fun z => by cases z.1)]
      | true =>
        rw [if_neg (by decide), H.g4, H.g3]
        simp only [Option.bind_some]
        rw [ec, ex]
        by_cases q : cn = tnx f t y - y
        · rw [if_pos (congrArg nI q), if_pos ⟨by first | rfl | trivial, q⟩]
        · rw [if_neg (nIne (by omega) (by omega) q), e82, if_neg (fun z => q z.2)]
    · rw [if_neg q0]
      have ea : amr f t y (tnx f t y - y) (c :: r) wh cn al = amr f t y (tnx f t y - y) r wh (cn + 1) (al && decide (cn < tnx f t y - y) && decide (y + cn < t) && decide (f (y + cn) = c)) := if_neg q0
      rw [ea]
      have e151 : ∀ b : Bool, Tape_among_151 1 w (nI wh) (nI fr) (nI i) (nI (bN (b = true))) h = some (amr f t y (tnx f t y - y) r wh (cn + 1) b) := fun b => by
        rw [Tape_among_151_e, Tape_among_153_e, nI_p1]
        exact ih (i + 1) wh fr (cn + 1) b hdr (by omega) (by omega) (by omega)
      have e150 : Tape_among_150 1 w (nI wh) (nI fr) (nI i) h = some (amr f t y (tnx f t y - y) r wh (cn + 1) false) := by
        rw [Tape_among_150_e]; exact e151 false
      rw [H.g3]
      simp only [Option.bind_some]
      cases al with
      | false => rw [if_pos (by decide), e150]; rfl
      | true =>
        rw [if_neg (by decide), H.g4, H.g1, H.g0]
        simp only [Option.bind_some]
        have ep : (nI y + nI i) - nI fr = nI (y + cn) := by rw [nI_add, pk_sub (by omega)]; exact congrArg nI (by omega)
        have tp := tin (show y + cn < 2 ^ 31 by omega)
        have tx := tin (show tnx f t y < 2 ^ 31 by omega)
        have tt := tin (show t < 2 ^ 31 by omega)
        rw [ep]
        by_cases q1 : tnx f t y ≤ y + cn
        · rw [if_pos (tile.mpr (by omega)), e150, decide_eq_false (show ¬ cn < tnx f t y - y by omega)]; rfl
        · rw [if_neg (fun z => by have := tile.mp z; omega), if_neg (fun z => by have := tile.mp z; omega), H.by (by omega), decide_eq_true (show cn < tnx f t y - y by omega), decide_eq_true (show y + cn < t by omega)]
          simp only [Option.bind_some]
          by_cases q2 : f (y + cn) = c
          · rw [if_pos q2, decide_eq_true q2]; exact e151 true
          · rw [if_neg q2, decide_eq_false q2]; exact e150
theorem Tape_among_v (H : Tok h f t y) {w : Nat} (hw : w < 11) : Tape_among 1 w h = some (if tkd f t y = 1 then amr f t y (tnx f t y - y) (am_byt.getD w []) 0 0 true else -1) := by
  have H0 := H
  obtain ⟨hy, ht, H⟩ := H
  have hk : tkd f t y < 5 := by unfold tkd; split; decide; split; decide; split <;> decide
  obtain ⟨hl1, hl2⟩ := str_len w hw
  have tl := tin (show am_len.getD w 0 < 2 ^ 31 by omega)
  unfold Tape_among
  rw [if_pos (isO_of H.1), H.g2]
  simp only [Option.bind_some]
  by_cases q : tkd f t y = 1
  · rw [if_pos (by rw [q]; rfl), if_pos q]
    exact Tape_among_l H0 q hw (am_byt.getD w []) 0 0 0 0 true rfl (by omega) rfl (by omega)
  · have q9 : ¬ nI (tkd f t y) = (1 : Int32) := nIne (b := 1) (by omega) (by decide) q
    rw [if_neg q9, if_neg q]
    unfold Tape_among_17
    rw [Tape_among_22_e, Str_length_v hw, H.g2]
    simp only [Option.bind_some]
    rw [if_neg (fun z => by have := tilt.mp z; rw [tl, ti0] at this; omega), if_neg q9]
theorem Tape_isWord_v (H : Tok h f t y) {w : Nat} (hw : w < 11) : Tape_isWord 1 w h = some (if tkd f t y = 1 ∧ amr f t y (tnx f t y - y) (am_byt.getD w []) 0 0 true = 0 then 1 else 0) := by
  unfold Tape_isWord
  rw [if_pos (isO_of H.2.2.1), Tape_among_v H hw]
  simp only [Option.bind_some]
  by_cases q : tkd f t y = 1
  · rw [if_pos q]
    by_cases q2 : amr f t y (tnx f t y - y) (am_byt.getD w []) 0 0 true = 0
    · rw [if_pos q2, if_pos ⟨q, q2⟩]
    · rw [if_neg q2, if_neg (fun z => q2 z.2)]
  · rw [if_neg q, if_neg (by decide), if_neg (fun z => q z.1)]
end Words
