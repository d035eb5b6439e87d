/-! PURE: a row goes on: it ends, sticks, comes round, or none of these -/
section GoOn
variable {h : am_H} {S : Nat → Int32} {r c : Nat} {p : Po} {n s w : Nat} {fo mo ah : Int32} {ss sc : Nat → Int32} {tx : Nat → Option Nat} {TU SI : Po → Int32} {EN : Po → Bool} {L : Nat}
def goq (TU SI : Po → Int32) (EN : Po → Bool) (p : Po) (L : Nat) : Nat → Nat × Nat × Option Nat
  | 0 => (3, 0, none)
  | f + 1 => if cst TU SI EN (sqn TU SI p (L - f)) = 0 then (0, L - f, none) else if cst TU SI EN (sqn TU SI p (L - f)) = 1 then (1, L - f, none) else
      (match fsc (fun e => decide (pck (sqn TU SI p e) = pck (sqn TU SI p (L - f)))) (L - f) 0 with
      | some e => (2, L - f, some e)
      | none => if f = 0 then (3, L - f, none) else goq TU SI EN p L f)
theorem aJ_at {b m k : Nat} {g : Nat → Int64} (H : h[b]? = some (.inl (3, m, .inr (.inl g)))) (hk : k < m) (hm : m < 2 ^ 31) : aJ h b (nI k) = some (g k) := by
  have tk := tin (show k < 2 ^ 31 by omega)
  unfold aJ; rw [arJ_of H]; simp only [Option.bind_some]; rw [if_pos (by omega), tk]; rfl
theorem sJ_at {b m k : Nat} {g : Nat → Int64} (H : h[b]? = some (.inl (3, m, .inr (.inl g)))) (hk : k < m) (hm : m < 2 ^ 31) (x : Int64) : sJ h b (nI k) x = some (h.set b (.inl (3, m, .inr (.inl (vp_updL g k x))))) := by
  have tk := tin (show k < 2 ^ 31 by omega)
  unfold sJ; rw [arJ_of H]; simp only [Option.bind_some]; rw [if_pos (by omega), tk]; rfl
theorem Steps_earlier_l {g : Nat → Int64} (HS : h[99]? = some (.inr (6, stpF S))) (HN : h[101]? = some (.inl (3, 301, .inr (.inl g)))) {i : Nat} (hi : i ≤ 300) : ∀ (k e : Nat), e + k = i → Steps_earlier_2 99 (nI i) (nI e) h = some (oN (fsc (fun e => decide (g e = g i)) k e)) := by
  have ti := tin (show i < 2 ^ 31 by omega)
  have t3 : (Int32.ofNat 301).toInt = 301 := by decide
  have ga : gR h 6 99 10 = some 101 := by unfold gR; rw [ob_of HS]; rfl
  intro k
  induction k with
  | zero =>
    intro e he
    have te := tin (show e < 2 ^ 31 by omega)
    rw [Steps_earlier_2_e, if_pos (tile.mpr (by omega))]; rfl
  | succ k ih =>
    intro e he
    have te := tin (show e < 2 ^ 31 by omega)
    rw [Steps_earlier_2_e, if_neg (fun z => by have := tile.mp z; omega), ga]
    simp only [Option.bind_some]
    rw [aL_of HN (by decide)]
    simp only [Option.bind_some]
    rw [if_neg (fun z => by have := tile.mp z; omega), aJ_at HN (by omega) (by decide), aJ_at HN (by omega) (by decide)]
    simp only [Option.bind_some]
    by_cases q : lg_cmp (g e) (g i) = 0
    · rw [if_pos q, show fsc (fun e => decide (g e = g i)) (k + 1) e = some e from if_pos (decide_eq_true (cmp0.mp q))]; rfl
    · rw [if_neg q, nI_p1, ih (e + 1) (by omega), show fsc (fun e => decide (g e = g i)) (k + 1) e = fsc (fun e => decide (g e = g i)) k (e + 1) from if_neg (fun z => q (cmp0.mpr (of_decide_eq_true z)))]
theorem Steps_earlier_v {g : Nat → Int64} (HS : h[99]? = some (.inr (6, stpF S))) (HN : h[101]? = some (.inl (3, 301, .inr (.inl g)))) {i : Nat} (hi : i ≤ 300) : Steps_earlier 99 (nI i) h = some (oN (fsc (fun e => decide (g e = g i)) i 0)) := by
  unfold Steps_earlier
  rw [if_pos (isO_of HS)]
  exact Steps_earlier_l HS HN hi i 0 (by omega)
theorem StW.put (H : StW h S n s w fo mo ah ss sc tx TU SI EN) (k : Nat) (hk : k < 8) (x : Int32) (hx : (stpF S).set k (.int x) = stpF (upd S k x)) : pV h 6 99 k (.int x) = some (h.set 99 (.inr (6, stpF (upd S k x)))) ∧ StW (h.set 99 (.inr (6, stpF (upd S k x)))) (upd S k x) n s w fo mo ah ss sc tx TU SI EN ∧ Fr lP h (h.set 99 (.inr (6, stpF (upd S k x)))) := by
  obtain ⟨a1, ⟨⟨sk, a2⟩, wf, a3⟩, a4, a5, a6⟩ := H
  have F : Fr (fun a => a = 99) h (h.set 99 (.inr (6, stpF (upd S k x)))) := Fr.set rfl
  exact ⟨stp_put a1 k hk x hx, ⟨set_at a1, ⟨⟨sk, (F _ (by decide)).trans a2⟩, wf, (F _ (by decide)).trans a3⟩, a4.fr F (fun y _ _ z => by omega), a5, a6.fr F (fun y z => by omega)⟩, F.mono (fun y z => Or.inr (Or.inl z))⟩
abbrev gP (r : Nat) : Nat → Prop := fun a => lP a ∨ rP r a ∨ a = 101
def SnA (h : am_H) (g : Nat → Int64) : Prop := h[101]? = some (.inl (3, 301, .inr (.inl g)))
theorem Steps_goOn_l (hL : L ≤ 300) (hp : okP p) (hr : rOk r) : ∀ (f i : Nat) (h : am_H) (S : Nat → Int32) (c : Nat) (g : Nat → Int64), i + f = L → StW h S n s w fo mo ah ss sc tx TU SI EN → SnA h g → RowAt h r c (sqn TU SI p i) → c ≤ 9999 → (∀ k, k ≤ i → okP (sqn TU SI p k)) → (∀ k, k < i → g k = pck (sqn TU SI p k)) → S 4 = -1 → ∃ h2 S2 c2 g2, Steps_goOn_31 99 r (nI L) (nI i) h = some h2 ∧ StW h2 S2 n s w fo mo ah ss sc tx TU SI EN ∧ SnA h2 g2 ∧ S2 2 = nI (goq TU SI EN p L (f + 1)).1 ∧ S2 3 = nI (goq TU SI EN p L (f + 1)).2.1 ∧ S2 4 = oN (goq TU SI EN p L (f + 1)).2.2 ∧ c2 ≤ 9999 ∧ RowAt h2 r c2 (sqn TU SI p (goq TU SI EN p L (f + 1)).2.1) ∧ okP (sqn TU SI p (goq TU SI EN p L (f + 1)).2.1) ∧ Fr (gP r) h h2 := by
  intro f
  induction f with
  | zero =>
    intro i h S c g hi HW HN HR hc ho hgs h4
    obtain rfl : i = L := by omega
    have hn0 : i - 0 = i := by omega
    have ti := tin (show i < 2 ^ 31 by omega)
    have tL := tin (show i < 2 ^ 31 by omega)
    obtain ⟨p1, W1, F1⟩ := HW.put 3 (by decide) (nI i) rfl
    generalize h.set 99 (.inr (6, stpF (upd S 3 (nI i)))) = h1 at p1 W1 F1
    have R1 := HR.fr F1 (by rintro (z | z | z) <;> omega) (by rintro (z | z | z) <;> omega)
    have N1 : SnA h1 g := (F1 101 (by decide)).trans HN
    obtain ⟨h2, e2, W2, F2⟩ := W1.look R1 (ho i (Nat.le_refl _)) hr
    have R2 := R1.fr F2 (by rintro (z | z | z) <;> omega) (by rintro (z | z | z) <;> omega)
    have N2 : SnA h2 g := (F2 101 (by decide)).trans N1
    obtain ⟨p3, W3, F3⟩ := W2.put 2 (by decide) (nI (cst TU SI EN (sqn TU SI p i))) rfl
    generalize h2.set 99 (.inr (6, stpF (upd (upd (upd (upd S 3 (nI i)) 0 (TU (sqn TU SI p i))) 1 (SI (sqn TU SI p i))) 2 (nI (cst TU SI EN (sqn TU SI p i)))))) = h3 at p3 W3 F3
    have R3 := R2.fr F3 (by rintro (z | z | z) <;> omega) (by rintro (z | z | z) <;> omega)
    have N3 : SnA h3 g := (F3 101 (by decide)).trans N2
    have g3 : gI h3 6 99 2 = some (nI (cst TU SI EN (sqn TU SI p i))) := stp_g W3.1 rfl
    have FA : Fr (gP r) h h3 := ((F1.tr F2).tr F3).mono (fun x hx => Or.inl hx)
    rw [Steps_goOn_31_e, if_neg (fun z => by have := tilt.mp z; omega), p1]
    simp only [Option.bind_some]
    rw [e2]
    simp only [Option.bind_some]
    rw [p3]
    simp only [Option.bind_some]
    rw [g3]
    simp only [Option.bind_some]
    rcases cst_cases (TU := TU) (SI := SI) (EN := EN) (sqn TU SI p i) with q | q | q
    · have eg : goq TU SI EN p i (0 + 1) = (0, i, none) := by
        show (if cst TU SI EN (sqn TU SI p (i - 0)) = 0 then _ else _) = _
        rw [hn0, if_pos q]
      rw [if_neg (by rw [q]; decide)]
      exact ⟨h3, _, c, g, rfl, W3, N3, by rw [eg, q]; rfl, by rw [eg]; rfl, by rw [eg]; exact h4, hc, by rw [eg]; exact R3, by rw [eg]; exact ho i (Nat.le_refl _), FA⟩
    · have eg : goq TU SI EN p i (0 + 1) = (1, i, none) := by
        show (if cst TU SI EN (sqn TU SI p (i - 0)) = 0 then _ else _) = _
        rw [hn0, if_neg (by rw [q]; decide), if_pos q]
      rw [if_neg (by rw [q]; decide)]
      exact ⟨h3, _, c, g, rfl, W3, N3, by rw [eg, q]; rfl, by rw [eg]; rfl, by rw [eg]; exact h4, hc, by rw [eg]; exact R3, by rw [eg]; exact ho i (Nat.le_refl _), FA⟩
    · rw [if_pos (by rw [q]; rfl)]
      have ga : gR h3 6 99 10 = some 101 := by unfold gR; rw [ob_of W3.1]; rfl
      rw [ga, R3.packed]
      simp only [Option.bind_some]
      rw [sJ_at N3 (by omega) (by decide)]
      simp only [Option.bind_some]
      have N4 : SnA (h3.set 101 (.inl (3, 301, .inr (.inl (vp_updL g i (pck (sqn TU SI p i))))))) (vp_updL g i (pck (sqn TU SI p i))) := set_at N3
      have F4 : Fr (fun a => a = 101) h3 (h3.set 101 (.inl (3, 301, .inr (.inl (vp_updL g i (pck (sqn TU SI p i))))))) := Fr.set rfl
      rw [show pkf (sqn TU SI p i).1 (sqn TU SI p i).2.2.1.toInt64 (sqn TU SI p i).2.1 = pck (sqn TU SI p i) from rfl]
      generalize h3.set 101 (.inl (3, 301, .inr (.inl (vp_updL g i (pck (sqn TU SI p i)))))) = h4' at N4 F4
      have W4 := W3.fr F4 (fun x z => by omega)
      have R4 := R3.fr F4 (by omega) (by omega)
      rw [Steps_earlier_v W4.1 N4 (by omega)]
      simp only [Option.bind_some]
      have ef : fsc (fun e => decide (vp_updL g i (pck (sqn TU SI p i)) e = vp_updL g i (pck (sqn TU SI p i)) i)) i 0 = fsc (fun e => decide (pck (sqn TU SI p e) = pck (sqn TU SI p i))) i 0 := fsc_c i 0 (fun e _ he => by
        unfold vp_updL
        rw [if_neg (by omega), if_pos rfl, hgs e (by omega)])
      rw [ef]
      have FB : Fr (gP r) h h4' := FA.tr (F4.mono (fun x hx => Or.inr (Or.inr hx)))
      cases hfs : fsc (fun e => decide (pck (sqn TU SI p e) = pck (sqn TU SI p i))) i 0 with
      | some e =>
        have he : e < 300 := by
          have key : ∀ (P : Nat → Bool) (a b e : Nat), fsc P a b = some e → e < b + a := by
            intro P a
            induction a with
            | zero => intro b e z; cases z
            | succ a iha =>
              intro b e z
              unfold fsc at z
              split at z
              · cases z; omega
              · have := iha (b + 1) e z; omega
          have := key _ _ _ _ hfs; omega
        have eg : goq TU SI EN p i (0 + 1) = (2, i, some e) := by
          show (if cst TU SI EN (sqn TU SI p (i - 0)) = 0 then _ else _) = _
          rw [hn0, if_neg (by rw [q]; decide), if_neg (by rw [q]; decide), hfs]
        obtain ⟨p5, W5, F5⟩ := W4.put 4 (by decide) (nI e) rfl
        rw [show oN (some e) = nI e from rfl, p5]
        simp only [Option.bind_some]
        have g5 := stp_g (k := 4) W5.1 rfl
        rw [g5]
        simp only [Option.bind_some]
        have te := tin (show e < 2 ^ 31 by omega)
        rw [if_neg (fun z => by
          have z2 : nI e = -1 := z
          have := congrArg Int32.toInt z2
          rw [te, tim1] at this; omega)]
        obtain ⟨p6, W6, F6⟩ := W5.put 2 (by decide) 2 rfl
        rw [p6]
        exact ⟨_, _, c, _, rfl, W6, (F6 101 (by decide)).trans ((F5 101 (by decide)).trans N4), by rw [eg]; rfl, by rw [eg]; rfl, by rw [eg]; rfl, hc, by rw [eg]; exact (R4.fr F5 (by rintro (z | z | z) <;> omega) (by rintro (z | z | z) <;> omega)).fr F6 (by rintro (z | z | z) <;> omega) (by rintro (z | z | z) <;> omega), by rw [eg]; exact ho i (Nat.le_refl _), (FB.tr (F5.mono (fun x hx => Or.inl hx))).tr (F6.mono (fun x hx => Or.inl hx))⟩
      | none =>
        obtain ⟨p5, W5, F5⟩ := W4.put 4 (by decide) (-1) rfl
        rw [show oN none = -1 from rfl, p5]
        simp only [Option.bind_some]
        have g5 := stp_g (k := 4) W5.1 rfl
        rw [g5]
        simp only [Option.bind_some]
        rw [if_pos (by rfl)]
        have R5 := R4.fr F5 (by rintro (z | z | z) <;> omega) (by rintro (z | z | z) <;> omega)
        have N5 := (F5 101 (by decide)).trans N4
        rw [if_pos (tile.mpr (Int.le_refl _)), Steps_goOn_102_e, nI_p1, Steps_goOn_31_e, if_pos (tilt.mpr (by rw [tin (show i + 1 < 2 ^ 31 by omega)]; omega))]
        have eg : goq TU SI EN p i (0 + 1) = (3, i, none) := by
          show (if cst TU SI EN (sqn TU SI p (i - 0)) = 0 then _ else _) = _
          rw [hn0, if_neg (by rw [q]; decide), if_neg (by rw [q]; decide), hfs]; rfl
        exact ⟨_, _, c, _, rfl, W5, N5, by rw [eg]; show nI (cst TU SI EN (sqn TU SI p i)) = nI 3; rw [q], by rw [eg]; rfl, by rw [eg]; rfl, hc, by rw [eg]; exact R5, by rw [eg]; exact ho i (Nat.le_refl _), FB.tr (F5.mono (fun x hx => Or.inl hx))⟩
  | succ f ih =>
    intro i h S c g hi HW HN HR hc ho hgs h4
    have hn0 : L - (f + 1) = i := by omega
    have ti := tin (show i < 2 ^ 31 by omega)
    have tL := tin (show L < 2 ^ 31 by omega)
    obtain ⟨p1, W1, F1⟩ := HW.put 3 (by decide) (nI i) rfl
    generalize h.set 99 (.inr (6, stpF (upd S 3 (nI i)))) = h1 at p1 W1 F1
    have R1 := HR.fr F1 (by rintro (z | z | z) <;> omega) (by rintro (z | z | z) <;> omega)
    have N1 : SnA h1 g := (F1 101 (by decide)).trans HN
    obtain ⟨h2, e2, W2, F2⟩ := W1.look R1 (ho i (Nat.le_refl _)) hr
    have R2 := R1.fr F2 (by rintro (z | z | z) <;> omega) (by rintro (z | z | z) <;> omega)
    have N2 : SnA h2 g := (F2 101 (by decide)).trans N1
    obtain ⟨p3, W3, F3⟩ := W2.put 2 (by decide) (nI (cst TU SI EN (sqn TU SI p i))) rfl
    generalize h2.set 99 (.inr (6, stpF (upd (upd (upd (upd S 3 (nI i)) 0 (TU (sqn TU SI p i))) 1 (SI (sqn TU SI p i))) 2 (nI (cst TU SI EN (sqn TU SI p i)))))) = h3 at p3 W3 F3
    have R3 := R2.fr F3 (by rintro (z | z | z) <;> omega) (by rintro (z | z | z) <;> omega)
    have N3 : SnA h3 g := (F3 101 (by decide)).trans N2
    have g3 : gI h3 6 99 2 = some (nI (cst TU SI EN (sqn TU SI p i))) := stp_g W3.1 rfl
    have FA : Fr (gP r) h h3 := ((F1.tr F2).tr F3).mono (fun x hx => Or.inl hx)
    rw [Steps_goOn_31_e, if_neg (fun z => by have := tilt.mp z; omega), p1]
    simp only [Option.bind_some]
    rw [e2]
    simp only [Option.bind_some]
    rw [p3]
    simp only [Option.bind_some]
    rw [g3]
    simp only [Option.bind_some]
    rcases cst_cases (TU := TU) (SI := SI) (EN := EN) (sqn TU SI p i) with q | q | q
    · have eg : goq TU SI EN p L ((f + 1) + 1) = (0, i, none) := by
        show (if cst TU SI EN (sqn TU SI p (L - (f + 1))) = 0 then _ else _) = _
        rw [hn0, if_pos q]
      rw [if_neg (by rw [q]; decide)]
      exact ⟨h3, _, c, g, rfl, W3, N3, by rw [eg, q]; rfl, by rw [eg]; rfl, by rw [eg]; exact h4, hc, by rw [eg]; exact R3, by rw [eg]; exact ho i (Nat.le_refl _), FA⟩
    · have eg : goq TU SI EN p L ((f + 1) + 1) = (1, i, none) := by
        show (if cst TU SI EN (sqn TU SI p (L - (f + 1))) = 0 then _ else _) = _
        rw [hn0, if_neg (by rw [q]; decide), if_pos q]
      rw [if_neg (by rw [q]; decide)]
      exact ⟨h3, _, c, g, rfl, W3, N3, by rw [eg, q]; rfl, by rw [eg]; rfl, by rw [eg]; exact h4, hc, by rw [eg]; exact R3, by rw [eg]; exact ho i (Nat.le_refl _), FA⟩
    · rw [if_pos (by rw [q]; rfl)]
      have ga : gR h3 6 99 10 = some 101 := by unfold gR; rw [ob_of W3.1]; rfl
      rw [ga, R3.packed]
      simp only [Option.bind_some]
      rw [sJ_at N3 (by omega) (by decide)]
      simp only [Option.bind_some]
      have N4 : SnA (h3.set 101 (.inl (3, 301, .inr (.inl (vp_updL g i (pck (sqn TU SI p i))))))) (vp_updL g i (pck (sqn TU SI p i))) := set_at N3
      have F4 : Fr (fun a => a = 101) h3 (h3.set 101 (.inl (3, 301, .inr (.inl (vp_updL g i (pck (sqn TU SI p i))))))) := Fr.set rfl
      rw [show pkf (sqn TU SI p i).1 (sqn TU SI p i).2.2.1.toInt64 (sqn TU SI p i).2.1 = pck (sqn TU SI p i) from rfl]
      generalize h3.set 101 (.inl (3, 301, .inr (.inl (vp_updL g i (pck (sqn TU SI p i)))))) = h4' at N4 F4
      have W4 := W3.fr F4 (fun x z => by omega)
      have R4 := R3.fr F4 (by omega) (by omega)
      rw [Steps_earlier_v W4.1 N4 (by omega)]
      simp only [Option.bind_some]
      have ef : fsc (fun e => decide (vp_updL g i (pck (sqn TU SI p i)) e = vp_updL g i (pck (sqn TU SI p i)) i)) i 0 = fsc (fun e => decide (pck (sqn TU SI p e) = pck (sqn TU SI p i))) i 0 := fsc_c i 0 (fun e _ he => by
        unfold vp_updL
        rw [if_neg (by omega), if_pos rfl, hgs e (by omega)])
      rw [ef]
      have FB : Fr (gP r) h h4' := FA.tr (F4.mono (fun x hx => Or.inr (Or.inr hx)))
      cases hfs : fsc (fun e => decide (pck (sqn TU SI p e) = pck (sqn TU SI p i))) i 0 with
      | some e =>
        have he : e < 300 := by
          have key : ∀ (P : Nat → Bool) (a b e : Nat), fsc P a b = some e → e < b + a := by
            intro P a
            induction a with
            | zero => intro b e z; cases z
            | succ a iha =>
              intro b e z
              unfold fsc at z
              split at z
              · cases z; omega
              · have := iha (b + 1) e z; omega
          have := key _ _ _ _ hfs; omega
        have eg : goq TU SI EN p L ((f + 1) + 1) = (2, i, some e) := by
          show (if cst TU SI EN (sqn TU SI p (L - (f + 1))) = 0 then _ else _) = _
          rw [hn0, if_neg (by rw [q]; decide), if_neg (by rw [q]; decide), hfs]
        obtain ⟨p5, W5, F5⟩ := W4.put 4 (by decide) (nI e) rfl
        rw [show oN (some e) = nI e from rfl, p5]
        simp only [Option.bind_some]
        have g5 := stp_g (k := 4) W5.1 rfl
        rw [g5]
        simp only [Option.bind_some]
        have te := tin (show e < 2 ^ 31 by omega)
        rw [if_neg (fun z => by
          have z2 : nI e = -1 := z
          have := congrArg Int32.toInt z2
          rw [te, tim1] at this; omega)]
        obtain ⟨p6, W6, F6⟩ := W5.put 2 (by decide) 2 rfl
        rw [p6]
        exact ⟨_, _, c, _, rfl, W6, (F6 101 (by decide)).trans ((F5 101 (by decide)).trans N4), by rw [eg]; rfl, by rw [eg]; rfl, by rw [eg]; rfl, hc, by rw [eg]; exact (R4.fr F5 (by rintro (z | z | z) <;> omega) (by rintro (z | z | z) <;> omega)).fr F6 (by rintro (z | z | z) <;> omega) (by rintro (z | z | z) <;> omega), by rw [eg]; exact ho i (Nat.le_refl _), (FB.tr (F5.mono (fun x hx => Or.inl hx))).tr (F6.mono (fun x hx => Or.inl hx))⟩
      | none =>
        obtain ⟨p5, W5, F5⟩ := W4.put 4 (by decide) (-1) rfl
        rw [show oN none = -1 from rfl, p5]
        simp only [Option.bind_some]
        have g5 := stp_g (k := 4) W5.1 rfl
        rw [g5]
        simp only [Option.bind_some]
        rw [if_pos (by rfl)]
        have R5 := R4.fr F5 (by rintro (z | z | z) <;> omega) (by rintro (z | z | z) <;> omega)
        have N5 := (F5 101 (by decide)).trans N4
        rw [if_neg (fun z => by have := tile.mp z; omega)]
        obtain ⟨h6, e6, W6, R6, F6⟩ := W5.make (p := sqn TU SI p i) rfl rfl q R5 hc (ho i (Nat.le_refl _)) hr
        rw [e6]
        simp only [Option.bind_some]
        rw [Steps_goOn_102_e, nI_p1]
        have N6 : SnA h6 (vp_updL g i (pck (sqn TU SI p i))) := (F6 101 (by rintro (z | z) <;> omega)).trans N5
        have eg : goq TU SI EN p L ((f + 1) + 1) = goq TU SI EN p L (f + 1) := by
          show (if cst TU SI EN (sqn TU SI p (L - (f + 1))) = 0 then _ else _) = _
          rw [hn0, if_neg (by rw [q]; decide), if_neg (by rw [q]; decide), hfs]
          exact if_neg (by omega)
        rw [eg]
        obtain ⟨h7, S7, c7, g7, e7, k1, k2, k3, k4, k5, k6, k7, k8, F7⟩ := ih (i + 1) h6 _ _ _ (by omega) W6 N6 R6 (Nat.min_le_right _ _) (fun k hk => by
          by_cases y : k = i + 1
          · subst y; exact (ho i (Nat.le_refl _)).nx q
          · exact ho k (by omega)) (fun k hk => by
          unfold vp_updL
          by_cases y : k = i
          · subst y; rw [if_pos rfl]
          · rw [if_neg y]; exact hgs k (by omega)) rfl
        exact ⟨h7, S7, c7, g7, e7, k1, k2, k3, k4, k5, k6, k7, k8, ((FB.tr (F5.mono (fun x hx => Or.inl hx))).tr (F6.mono (fun x hx => Or.inr (Or.inl hx)))).tr F7⟩
theorem Steps_goOn_v (hL : L ≤ 300) (hah : ah = nI L) (hp : okP p) (hr : rOk r) (HW : StW h S n s w fo mo ah ss sc tx TU SI EN) {g : Nat → Int64} (HN : SnA h g) (HR : RowAt h r c p) (hc : c ≤ 9999) : ∃ h2 S2 c2 g2, Steps_goOn 99 r h = some h2 ∧ StW h2 S2 n s w fo mo ah ss sc tx TU SI EN ∧ SnA h2 g2 ∧ S2 2 = nI (goq TU SI EN p L (L + 1)).1 ∧ S2 3 = nI (goq TU SI EN p L (L + 1)).2.1 ∧ S2 4 = oN (goq TU SI EN p L (L + 1)).2.2 ∧ c2 ≤ 9999 ∧ RowAt h2 r c2 (sqn TU SI p (goq TU SI EN p L (L + 1)).2.1) ∧ okP (sqn TU SI p (goq TU SI EN p L (L + 1)).2.1) ∧ Fr (gP r) h h2 := by
  have tL := tin (show L < 2 ^ 31 by omega)
  have t3 : (300 : Int32).toInt = 300 := by decide
  have g8 : gR h 6 99 8 = some 3 := by unfold gR; rw [ob_of HW.1]; rfl
  have g5 : gI h 7 3 5 = some ah := by unfold gI; rw [ob_of HW.2.2.1.2.2.2.1]; rfl
  obtain ⟨p1, W1, F1⟩ := HW.put 4 (by decide) (-1) rfl
  obtain ⟨p2, W2, F2⟩ := W1.put 2 (by decide) 3 rfl
  obtain ⟨p3, W3, F3⟩ := W2.put 3 (by decide) 0 rfl
  have FA := (F1.tr F2).tr F3
  have R3 := HR.fr FA (by rintro (z | z | z) <;> omega) (by rintro (z | z | z) <;> omega)
  have N3 : SnA _ g := (FA 101 (by decide)).trans HN
  obtain ⟨h7, S7, c7, g7, e7, k1, k2, k3, k4, k5, k6, k7, k8, F7⟩ := Steps_goOn_l hL hp hr L 0 _ _ c g (by omega) W3 N3 R3 hc (fun k hk => by rw [show k = 0 by omega]; exact hp) (fun k hk => by omega) rfl
  refine ⟨h7, S7, c7, g7, ?_, k1, k2, k3, k4, k5, k6, k7, k8, (FA.mono (fun x hx => Or.inl hx)).tr F7⟩
  unfold Steps_goOn
  rw [if_pos (isO_of HW.1), g8]
  simp only [Option.bind_some]
  rw [g5]
  simp only [Option.bind_some]
  rw [p1]
  simp only [Option.bind_some]
  rw [p2]
  simp only [Option.bind_some]
  rw [p3]
  simp only [Option.bind_some]
  rw [hah, if_neg (fun z => by have := tilt.mp z; omega)]
  exact e7
end GoOn
