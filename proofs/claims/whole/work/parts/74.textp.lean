/-! PURE: what a text that was read tells: its code is run over a stack -/
def hS : Nat → Int32
  | 0 => -1
  | s + 1 => nI s
theorem hS_p (s : Nat) : hS s + (1 : Int32) = nI s := by
  cases s with
  | zero => rfl
  | succ s => exact nI_p1 s
theorem hS_m (s : Nat) : nI s + (-1 : Int32) = hS s := by
  cases s with
  | zero => rfl
  | succ s => exact pk_m1 s
theorem hS_t {s : Nat} (h : s < 2 ^ 31) : (hS s).toInt = (s : Int) - 1 := by
  cases s with
  | zero => rfl
  | succ s => show (nI s).toInt = _; rw [tin (by omega)]; omega
abbrev texF (a : Nat) (n c al : Int32) : List Value := [.ref (a + 1), .int n, .int c, .ref (a + 2), .ref (a + 3), .ref (a + 4), .ref (a + 5), .ref 98, .int al]
/-- a text at place a: n codes, c clauses; rows for nC codes, nK clauses -/
def TxA (h : am_H) (a n c nC nK : Nat) (al : Int32) (cf kf sf tf mf : Nat → Int32) : Prop := n ≤ nC ∧ c ≤ nK ∧ nC ≤ 512 ∧ nK ≤ 12 ∧ (a + 5 < 98 ∨ 98 < a) ∧ h[a]? = some (.inr (9, texF a (nI n) (nI c) al)) ∧ h[a + 1]? = some (.inl (0, nC, .inl cf)) ∧ h[a + 2]? = some (.inl (0, nK, .inl kf)) ∧ h[a + 3]? = some (.inl (0, nK * 3, .inl sf)) ∧ h[a + 4]? = some (.inl (0, nK, .inl tf)) ∧ h[a + 5]? = some (.inl (0, nK, .inl mf))
theorem TxA.fr {P : Nat → Prop} {h h2 : am_H} {a n c nC nK : Nat} {al : Int32} {cf kf sf tf mf : Nat → Int32} (H : TxA h a n c nC nK al cf kf sf tf mf) (F : Fr P h h2) (hp : ∀ x, a ≤ x → x ≤ a + 5 → ¬ P x) : TxA h2 a n c nC nK al cf kf sf tf mf := by
  obtain ⟨h1, h2', h3, h4, h5, a1, a2, a3, a4, a5, a6⟩ := H
  exact ⟨h1, h2', h3, h4, h5, (F _ (hp _ (by omega) (by omega))).trans a1, (F _ (hp _ (by omega) (by omega))).trans a2, (F _ (hp _ (by omega) (by omega))).trans a3, (F _ (hp _ (by omega) (by omega))).trans a4, (F _ (hp _ (by omega) (by omega))).trans a5, (F _ (hp _ (by omega) (by omega))).trans a6⟩
/-- the stack holds f -/
def stC (h : am_H) (f : Nat → Int32) : am_H := h.set 98 (.inl (0, 64, .inl f))
theorem stC_stC (h : am_H) (f g : Nat → Int32) : stC (stC h f) g = stC h g := List.set_set ..
theorem stC_fr (h : am_H) (f : Nat → Int32) : Fr (fun a => a = 98) h (stC h f) := Fr.set rfl
theorem stC_at {h : am_H} (hl : 98 < h.length) (f : Nat → Int32) : (stC h f)[98]? = some (.inl (0, 64, .inl f)) := List.getElem?_set_self hl
theorem cw_c {c g : Nat} (hc : c < 16) (hg : c + 16 * g < 2 ^ 31) : nI (c + 16 * g) &&& (15 : Int32) = nI c := by
  rw [pk_andN (by omega) 4 (by decide)]; congr 1; omega
theorem cw_g {c g : Nat} (hc : c < 16) (hg : c + 16 * g < 2 ^ 31) : nI (c + 16 * g) >>> ((4 : Int32) &&& 31) = nI g := by
  rw [pk_shrN hg _ 4 (by decide)]; congr 1; omega
theorem nIne {a b : Nat} (ha : a < 2 ^ 31) (hb : b < 2 ^ 31) (h : a ≠ b) : ¬ nI a = nI b := fun z => h ((nI_eq ha hb).mp z)
section Ask
variable {h : am_H} {a wd n c nC nK nW : Nat} {al : Int32} {cf kf sf tf mf wf : Nat → Int32}
theorem TxA.st (H : TxA h a n c nC nK al cf kf sf tf mf) (f : Nat → Int32) : TxA (stC h f) a n c nC nK al cf kf sf tf mf := H.fr (stC_fr h f) (fun x h1 h2 z => by have := H.2.2.2.2.1; omega)
noncomputable abbrev AskQ (h : am_H) (a wd k s : Nat) (f : Nat → Int32) : Option (Int32 × am_H) := Text_ask_9 a wd (hS s) (nI k) (stC h f)
abbrev BRK : Int32 := -2147483648
theorem Ask_293 (k s : Nat) (f : Nat → Int32) : Text_ask_293 a wd (hS s) (nI k) (stC h f) = AskQ h a wd (k + 1) s f := by rw [Text_ask_293_e, nI_p1]
section Facts
theorem TxA.q1 (H : TxA h a n c nC nK al cf kf sf tf mf) : gI h 9 a 1 = some (nI n) := by unfold gI; rw [ob_of H.2.2.2.2.2.1]; rfl
theorem TxA.q2 (H : TxA h a n c nC nK al cf kf sf tf mf) : gI h 9 a 2 = some (nI c) := by unfold gI; rw [ob_of H.2.2.2.2.2.1]; rfl
theorem TxA.q0 (H : TxA h a n c nC nK al cf kf sf tf mf) : gR h 9 a 0 = some (a + 1) := by unfold gR; rw [ob_of H.2.2.2.2.2.1]; rfl
theorem TxA.q3 (H : TxA h a n c nC nK al cf kf sf tf mf) : gR h 9 a 3 = some (a + 2) := by unfold gR; rw [ob_of H.2.2.2.2.2.1]; rfl
theorem TxA.q4 (H : TxA h a n c nC nK al cf kf sf tf mf) : gR h 9 a 4 = some (a + 3) := by unfold gR; rw [ob_of H.2.2.2.2.2.1]; rfl
theorem TxA.q5 (H : TxA h a n c nC nK al cf kf sf tf mf) : gR h 9 a 5 = some (a + 4) := by unfold gR; rw [ob_of H.2.2.2.2.2.1]; rfl
theorem TxA.q6 (H : TxA h a n c nC nK al cf kf sf tf mf) : gR h 9 a 6 = some (a + 5) := by unfold gR; rw [ob_of H.2.2.2.2.2.1]; rfl
theorem TxA.q7 (H : TxA h a n c nC nK al cf kf sf tf mf) : gR h 9 a 7 = some 98 := by unfold gR; rw [ob_of H.2.2.2.2.2.1]; rfl
theorem TxA.o (H : TxA h a n c nC nK al cf kf sf tf mf) : isO h 9 a = true := isO_of H.2.2.2.2.2.1
theorem aI_at {h : am_H} {t b m k : Nat} {f : Nat → Int32} (H : h[b]? = some (.inl (t, m, .inl f))) (hk : k < m) (hm : m < 2 ^ 31) : aI h t b (nI k) = some (f k) := by
  have tk := tin (show k < 2 ^ 31 by omega)
  unfold aI; rw [arI_of H]; simp only [Option.bind_some]; rw [if_pos (by omega), tk]; rfl
theorem sI_at {h : am_H} {b m k : Nat} {f : Nat → Int32} (H : h[b]? = some (.inl (0, m, .inl f))) (hk : k < m) (hm : m < 2 ^ 31) (x : Int32) : sI h b (nI k) x = some (h.set b (.inl (0, m, .inl (upd f k x)))) := by
  have tk := tin (show k < 2 ^ 31 by omega)
  unfold sI; rw [arI_of H]; simp only [Option.bind_some]; rw [if_pos (by omega), tk]; rfl
theorem TxA.cd (H : TxA h a n c nC nK al cf kf sf tf mf) {k : Nat} (hk : k < n) : aI h 0 (a + 1) (nI k) = some (cf k) := aI_at H.2.2.2.2.2.2.1 (by have := H.1; omega) (by have := H.2.2.1; omega)
end Facts
theorem stk_ld (hl : 98 < h.length) {f : Nat → Int32} {s : Nat} (hs : s < 64) : aI (stC h f) 0 98 (nI s) = some (f s) := aI_at (stC_at hl f) hs (by decide)
theorem stk_st (hl : 98 < h.length) {f : Nat → Int32} {s : Nat} (hs : s < 64) (x : Int32) : sI (stC h f) 98 (nI s) x = some (stC h (upd f s x)) := by
  rw [sI_at (stC_at hl f) hs (by decide)]; exact congrArg some (stC_stC h f _)
theorem ask_end (H : TxA h a n c nC nK al cf kf sf tf mf) {k s : Nat} (hk : n ≤ k) (hk2 : k < 2 ^ 31) (f : Nat → Int32) : AskQ h a wd k s f = some (BRK, stC h f) := by
  have := H.1; have := H.2.2.1
  have tk := tin hk2
  have t := tin (show n < 2 ^ 31 by omega)
  unfold AskQ
  rw [Text_ask_9_e, (H.st f).q1]
  simp only [Option.bind_some]
  rw [if_pos (tile.mpr (by omega))]
theorem ask_op (H : TxA h a n c nC nK al cf kf sf tf mf) {k s o g : Nat} (hk : k < n) (hc : cf k = nI (o + 16 * g)) (ho : o < 16) (ho0 : o ≠ 0) (hg : o + 16 * g < 2 ^ 31) (f : Nat → Int32) : AskQ h a wd k s f = (if o = 1 ∨ o = 2 then Text_ask_74 a wd (hS s) (nI k) (nI o) (nI g) (stC h f) else if o = 11 ∧ ¬ (hS s) < 0 then ((aI (stC h f) 0 98 (hS s)).bind fun x => (sI (stC h f) 98 (hS s) ((1 : Int32) - x)).bind fun h2 => Text_ask_293 a wd (hS s) (nI k) h2) else Text_ask_167 a wd (hS s) (nI k) (nI o) (nI g) (stC h f)) := by
  have := H.1; have := H.2.2.1
  have tk := tin (show k < 2 ^ 31 by omega)
  have t := tin (show n < 2 ^ 31 by omega)
  unfold AskQ
  rw [Text_ask_9_e, (H.st f).q1, (H.st f).q0, (H.st f).q7]
  simp only [Option.bind_some]
  rw [if_neg (fun z => by have := tile.mp z; omega), (H.st f).cd hk, hc]
  simp only [Option.bind_some]
  rw [cw_c ho hg, cw_g ho hg, if_neg (show ¬ nI o = (0 : Int32) from nIne (b := 0) (by omega) (by decide) ho0)]
  by_cases q1 : o = 1
  · subst q1; rw [if_pos (show nI 1 = (1 : Int32) from rfl), if_pos (Or.inl rfl)]
  · rw [if_neg (show ¬ nI o = (1 : Int32) from nIne (b := 1) (by omega) (by decide) q1)]
    by_cases q2 : o = 2
    · subst q2; rw [if_pos (show nI 2 = (2 : Int32) from rfl), if_pos (Or.inr rfl)]
    · rw [if_neg (show ¬ nI o = (2 : Int32) from nIne (b := 2) (by omega) (by decide) q2), if_neg (show ¬ (o = 1 ∨ o = 2) by omega)]
      by_cases q3 : o = 11
      · subst q3
        rw [if_pos (show nI 11 = (11 : Int32) from rfl)]
        by_cases q4 : hS s < 0
        · rw [if_pos q4, if_neg (fun z => z.2 q4)]
        · rw [if_neg q4, if_pos ⟨rfl, q4⟩]
      · rw [if_neg (show ¬ nI o = (11 : Int32) from nIne (b := 11) (by omega) (by decide) q3), if_neg (fun z => q3 z.1)]
theorem ask_stop (H : TxA h a n c nC nK al cf kf sf tf mf) (hl : 98 < h.length) {k s g : Nat} (hk : k < n) (hc : cf k = nI (0 + 16 * g)) (hg : 0 + 16 * g < 2 ^ 31) (hs : s < 64) (f : Nat → Int32) : AskQ h a wd k (s + 1) f = some (f s, stC h f) := by
  have := H.1; have := H.2.2.1
  have tk := tin (show k < 2 ^ 31 by omega)
  have t := tin (show n < 2 ^ 31 by omega)
  have ts := tin (show s < 2 ^ 31 by omega)
  unfold AskQ
  rw [Text_ask_9_e, (H.st f).q1, (H.st f).q0, (H.st f).q7]
  simp only [Option.bind_some]
  rw [if_neg (fun z => by have := tile.mp z; omega), (H.st f).cd hk, hc]
  simp only [Option.bind_some]
  rw [cw_c (by decide) hg, if_pos (show nI 0 = (0 : Int32) from rfl)]
  rw [if_neg (fun z => by have := tilt.mp z; rw [show hS (s + 1) = nI s from rfl, ts, ti0] at this; omega), show hS (s + 1) = nI s from rfl, stk_ld hl hs]
  rfl
theorem ask_num (H : TxA h a n c nC nK al cf kf sf tf mf) (hl : 98 < h.length) {k s g : Nat} (hk : k < n) (hc : cf k = nI (1 + 16 * g)) (hg : 1 + 16 * g < 2 ^ 31) (hs : s < 64) (f : Nat → Int32) : AskQ h a wd k s f = AskQ h a wd (k + 1) (s + 1) (upd f s (nI g)) := by
  have ts := tin (show s < 2 ^ 31 by omega)
  have t64 : (Int32.ofNat 64).toInt = 64 := by decide
  rw [ask_op H hk hc (by decide) (by decide) hg, if_pos (Or.inl rfl), Text_ask_74_e, (H.st f).q7]
  simp only [Option.bind_some]
  rw [aL_of (stC_at hl f) (by decide)]
  simp only [Option.bind_some]
  rw [hS_p, if_pos (tilt.mpr (by omega)), if_neg (by decide), Text_ask_113_e, Text_ask_114_e, (H.st f).q7]
  simp only [Option.bind_some]
  rw [if_pos trivial, Text_ask_135_e, stk_st hl hs]
  exact Ask_293 k (s + 1) _
theorem ask_word (H : TxA h a n c nC nK al cf kf sf tf mf) (hl : 98 < h.length) (HW : h[wd]? = some (.inl (0, nW, .inl wf))) (hw : wd ≠ 98) (hW : nW < 2 ^ 31) {k s g : Nat} (hk : k < n) (hc : cf k = nI (2 + 16 * g)) (hg : 2 + 16 * g < 2 ^ 31) (hgw : g < nW) (hs : s < 64) (f : Nat → Int32) : AskQ h a wd k s f = AskQ h a wd (k + 1) (s + 1) (upd f s (wf g)) := by
  have ts := tin (show s < 2 ^ 31 by omega)
  have tg := tin (show g < 2 ^ 31 by omega)
  have tW : (Int32.ofNat nW).toInt = nW := tin hW
  have t64 : (Int32.ofNat 64).toInt = 64 := by decide
  have HW2 : (stC h f)[wd]? = some (.inl (0, nW, .inl wf)) := (stC_fr h f wd hw).trans HW
  rw [ask_op H hk hc (by decide) (by decide) hg, if_pos (Or.inr rfl), Text_ask_74_e, (H.st f).q7]
  simp only [Option.bind_some]
  rw [aL_of (stC_at hl f) (by decide)]
  simp only [Option.bind_some]
  rw [hS_p, if_pos (tilt.mpr (by omega)), if_pos (show nI 2 = (2 : Int32) from rfl), if_neg (fun z => by have := tilt.mp z; rw [tg, ti0] at this; omega), aL_of HW2 (by decide)]
  simp only [Option.bind_some]
  rw [if_neg (fun z => by have := tile.mp z; omega), Text_ask_114_e, (H.st f).q7]
  simp only [Option.bind_some]
  rw [if_neg (by decide), aI_at HW2 hgw hW]
  simp only [Option.bind_some]
  rw [Text_ask_135_e, stk_st hl hs]
  exact Ask_293 k (s + 1) _
theorem ask_not (H : TxA h a n c nC nK al cf kf sf tf mf) (hl : 98 < h.length) {k s g : Nat} (hk : k < n) (hc : cf k = nI (11 + 16 * g)) (hg : 11 + 16 * g < 2 ^ 31) (hs : s < 64) (f : Nat → Int32) : AskQ h a wd k (s + 1) f = AskQ h a wd (k + 1) (s + 1) (upd f s (1 - f s)) := by
  have ts := tin (show s < 2 ^ 31 by omega)
  rw [ask_op H hk hc (by decide) (by decide) hg, if_neg (by omega), if_pos ⟨rfl, fun z => by have := tilt.mp z; rw [show hS (s + 1) = nI s from rfl, ts, ti0] at this; omega⟩, show hS (s + 1) = nI s from rfl, stk_ld hl hs]
  simp only [Option.bind_some]
  rw [stk_st hl hs]
  exact Ask_293 k (s + 1) _
theorem ask_jmp (H : TxA h a n c nC nK al cf kf sf tf mf) (hl : 98 < h.length) {k s g o : Nat} (hk : k < n) {y : Int32} (ho : o = 12 ∧ y = 1 ∨ o = 13 ∧ y = 0) (hc : cf k = nI (o + 16 * g)) (hg : o + 16 * g < 2 ^ 31) (hg1 : k < g) (hs : s < 64) (f : Nat → Int32) : AskQ h a wd k (s + 1) f = if f s = y then AskQ h a wd g (s + 1) f else AskQ h a wd (k + 1) s f := by
  have := H.1; have := H.2.2.1
  have ts := tin (show s < 2 ^ 31 by omega)
  have tk := tin (show k < 2 ^ 31 by omega)
  have tg : (nI g - (1 : Int32)) = nI (g - 1) := pk_sub (a := g) (b := 1) (by omega)
  have tg1 := tin (show g - 1 < 2 ^ 31 by omega)
  have hn : ¬ nI s < 0 := fun z => by have := tilt.mp z; rw [ts, ti0] at this; omega
  rw [ask_op H hk hc (by omega) (by omega) hg, if_neg (by omega), if_neg (by omega), Text_ask_167_e, show hS (s + 1) = nI s from rfl]
  have em : (if nI k < nI g - (1 : Int32) then nI g - (1 : Int32) else nI k) = nI (g - 1) := by
    rw [tg]
    by_cases q : k < g - 1
    · rw [if_pos (tilt.mpr (by omega))]
    · rw [if_neg (fun z => by have := tilt.mp z; omega)]; exact congrArg nI (by omega)
  have e203 : ∀ y : Int32, Text_ask_203 a wd (nI s) (nI k) (nI g) y (f s) (stC h f) = if f s = y then AskQ h a wd g (s + 1) f else AskQ h a wd (k + 1) s f := fun y => by
    rw [Text_ask_203_e, em]
    by_cases q : f s = y
    · rw [if_pos q, if_pos q, show nI s = hS (s + 1) from rfl, Ask_293, show g - 1 + 1 = g by omega]
    · rw [if_neg q, if_neg q, hS_m]; exact Ask_293 k s f
  rcases ho with ⟨rfl, rfl⟩ | ⟨rfl, rfl⟩
  · rw [if_pos (show nI 12 = (12 : Int32) from rfl), Text_ask_181_e, if_neg hn, (H.st f).q7]
    simp only [Option.bind_some]
    rw [stk_ld hl hs]
    simp only [Option.bind_some]
    rw [if_pos (show nI 12 = (12 : Int32) from rfl)]
    exact e203 1
  · rw [if_neg (show ¬ nI 13 = (12 : Int32) by decide), if_pos (show nI 13 = (13 : Int32) from rfl), Text_ask_181_e, if_neg hn, (H.st f).q7]
    simp only [Option.bind_some]
    rw [stk_ld hl hs]
    simp only [Option.bind_some]
    rw [if_neg (show ¬ nI 13 = (12 : Int32) by decide)]
    exact e203 0
def joinv (o : Nat) (x y : Int64) : Int64 := if o = 3 then x + y else if o = 4 then x - y else if o = 5 then x * y else if o = 6 then (if y = 0 then -2147483648 else x / y) else if o = 7 then (if y = 0 then -2147483648 else x - x / y * y) else if o = 8 then (if x < y then 1 else 0) else if o = 9 then (if y < x then 1 else 0) else (if x = y then 1 else 0)
theorem cmp0 {x y : Int64} : lg_cmp x y = 0 ↔ x = y := by
  unfold lg_cmp
  by_cases q : x > y
  · rw [if_pos q]; exact ⟨fun z => absurd z (by decide), fun z => by subst z; exact absurd (Int64.lt_iff_toInt_lt.mp q) (by omega)⟩
  · rw [if_neg q]
    by_cases q2 : x = y
    · rw [if_pos q2]; exact ⟨fun _ => q2, fun _ => rfl⟩
    · rw [if_neg q2]; exact ⟨fun z => absurd z (by decide), fun z => absurd z q2⟩
theorem cmpl {x y : Int64} : lg_cmp x y < 0 ↔ x < y := by
  unfold lg_cmp
  rw [Int64.lt_iff_toInt_lt]
  by_cases q : x > y
  · rw [if_pos q]; have := Int64.lt_iff_toInt_lt.mp q; exact ⟨fun z => absurd z (by decide), fun z => by omega⟩
  · rw [if_neg q]
    by_cases q2 : x = y
    · rw [if_pos q2]; subst q2; exact ⟨fun z => absurd z (by decide), fun z => by omega⟩
    · rw [if_neg q2]
      have h1 : ¬ y.toInt < x.toInt := fun z => q (Int64.lt_iff_toInt_lt.mpr z)
      have h2 : ¬ x.toInt = y.toInt := fun z => q2 (Int64.toInt_inj.mp z)
      exact ⟨fun _ => by omega, fun _ => by decide⟩
theorem cmpg {x y : Int64} : lg_cmp x y ≤ 0 ↔ ¬ y < x := by
  unfold lg_cmp
  by_cases q : x > y
  · rw [if_pos q]; exact ⟨fun z => absurd z (by decide), fun z => absurd q z⟩
  · rw [if_neg q]
    refine ⟨fun _ => q, fun _ => ?_⟩
    by_cases q2 : x = y
    · rw [if_pos q2]; decide
    · rw [if_neg q2]; decide
theorem cmpz {x y : Int64} : (0 : Int32) ≤ lg_cmp x y ↔ ¬ x < y := by
  rw [← cmpl, tile, tilt]; omega
theorem Text_join_v {o : Nat} (h3 : 3 ≤ o) (h10 : o ≤ 10) (x y : Int64) (h : am_H) : Text_join (nI o) x y h = some (joinv o x y) := by
  unfold Text_join joinv
  rcases (show o = 3 ∨ o = 4 ∨ o = 5 ∨ o = 6 ∨ o = 7 ∨ o = 8 ∨ o = 9 ∨ o = 10 by omega) with rfl | rfl | rfl | rfl | rfl | rfl | rfl | rfl
  · rfl
  · rfl
  · rfl
  · by_cases q : y = 0
    · simp [cmp0, q, nI, dvJ]
    · simp [cmp0, q, nI, dvJ]
  · by_cases q : y = 0
    · simp [cmp0, q, nI, rmJ]
    · simp [cmp0, q, nI, rmJ]
  · by_cases q : x < y
    · simp [cmpz, q, nI]
    · simp [cmpz, q, nI]
  · by_cases q : y < x
    · simp [cmpg, q, nI]
    · simp [cmpg, q, nI]
  · by_cases q : x = y
    · simp [cmp0, q, nI]
    · simp [cmp0, q, nI]
def farv (v : Int64) : Bool := decide (v < -1000000000) || decide (1000000000 < v)
theorem ask_bin (H : TxA h a n c nC nK al cf kf sf tf mf) (hl : 98 < h.length) {k s g o : Nat} (hk : k < n) (h3 : 3 ≤ o) (h10 : o ≤ 10) (hc : cf k = nI (o + 16 * g)) (hg : o + 16 * g < 2 ^ 31) (hs : s + 1 < 64) (f : Nat → Int32) : AskQ h a wd k (s + 2) f = if farv (joinv o (f s).toInt64 (f (s + 1)).toInt64) = true then some (BRK, stC h f) else AskQ h a wd (k + 1) (s + 1) (upd f s (joinv o (f s).toInt64 (f (s + 1)).toInt64).toInt32) := by
  have ts := tin (show s + 1 < 2 ^ 31 by omega)
  rw [ask_op H hk hc (by omega) (by omega) hg, if_neg (by omega), if_neg (by omega), Text_ask_167_e, show hS (s + 2) = nI (s + 1) from rfl, if_neg (show ¬ nI o = (12 : Int32) from nIne (b := 12) (by omega) (by decide) (by omega)), if_neg (show ¬ nI o = (13 : Int32) from nIne (b := 13) (by omega) (by decide) (by omega)), Text_ask_226_e, (H.st f).q7]
  simp only [Option.bind_some]
  rw [if_neg (fun z => by have := tilt.mp z; rw [ts, ti1] at this; omega), show nI (s + 1) + (-1 : Int32) = nI s from pk_m1 s, stk_ld hl (by omega), nI_p1, stk_ld hl (by omega)]
  simp only [Option.bind_some]
  rw [Text_join_v h3 h10]
  simp only [Option.bind_some]
  generalize joinv o (f s).toInt64 (f (s + 1)).toInt64 = v
  unfold farv
  by_cases q1 : v < -1000000000
  · rw [if_pos (cmpl.mpr q1), if_pos (by simp [q1])]
  · rw [if_neg (fun z => q1 (cmpl.mp z))]
    by_cases q2 : 1000000000 < v
    · rw [if_neg (fun z => cmpg.mp z q2), if_pos (by simp [q2])]
    · rw [if_pos (cmpg.mpr q2), if_neg (by simp [q1, q2]), stk_st hl (by omega)]
      exact Ask_293 k (s + 1) _
end Ask
