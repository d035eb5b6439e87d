/-! PURE: one clause of an order run once -/
/-- whatever heap it lies in, the order's text answers so, the words being ws -/
def TxSemH (n c nC nK : Nat) (al : Int32) (cf kf sf tf mf : Nat → Int32) (R : (Nat → Int32) → Int32 → Int32) : Prop := ∀ (h : am_H) (a : Nat) (wf ws : Nat → Int32), TxA h a n c nC nK al cf kf sf tf mf → 98 < h.length → h[155]? = some (.inl (0, 21, .inl wf)) → (∀ i, i < 21 → wf i = ws i) → ∀ j, j < c → (¬ tf j = -1 → AskV h a 155 (tf j) (R ws (tf j))) ∧ ∀ i, i = 0 ∨ (i = 1 ∧ ¬ kf j = 0) ∨ (i = 2 ∧ kf j = 1) → AskV h a 155 (sf (j * 3 + i)) (R ws (sf (j * 3 + i)))
def enq (n : Nat) (TU SI : Po → Int32) (EN : Po → Bool) (kd a b c dn la : Int32) (t : HSt) : Bool × Int32 × Int32 × HSt := if a = BRK ∨ b = BRK ∨ c = BRK then (false, dn, la, t) else if kd = 0 then (decide (¬ (trq n TU SI EN t a).1 < 0), dn + 1, (trq n TU SI EN t a).1, (trq n TU SI EN t a).2) else if kd = 1 then (decide (¬ (exq n t c a b).1 < 0), dn + 1, la, (exq n t c a b).2) else (decide (¬ (lfq n t b a).1 < 0), dn + 1, la, (lfq n t b a).2)
def onq (n : Nat) (TU SI : Po → Int32) (EN : Po → Bool) (R : Int32 → Int32) (kf sf tf : Nat → Int32) (j : Nat) (dn la : Int32) (t : HSt) : Bool × Int32 × Int32 × HSt := if tf j = -1 ∨ R (tf j) = 1 then enq n TU SI EN (kf j) (R (sf (j * 3 + 0))) (if kf j = 0 then 0 else R (sf (j * 3 + 1))) (if kf j = 1 then R (sf (j * 3 + 2)) else 0) dn la t else (true, dn, la, t)
abbrev bP : Nat → Prop := fun a => aP a ∨ a = 102 ∨ a = 155
section Once
variable {h : am_H} {S : Nat → Int32} {st dn la : Int32} {n s w : Nat} {fo mo ah : Int32} {ss sc : Nat → Int32} {tx : Nat → Option Nat} {TU SI : Po → Int32} {EN : Po → Bool} {t : HSt}
theorem HWo.fr1 {h2 : am_H} {P : Nat → Prop} (H : HWo h st dn la S n s w fo mo ah ss sc tx TU SI EN t) (F : Fr P h h2) {dn2 la2 : Int32} (hp : ∀ x, P x → 98 ≤ x ∧ x ≤ 200 ∧ (x < 99 ∨ 100 < x)) (hh : h2[102]? = some (.inr (1, hanF st dn2 la2))) (hs : ∃ sk, h2[98]? = some (.inl (0, 64, .inl sk))) (hw : ∃ wf, h2[155]? = some (.inl (0, 21, .inl wf))) : HWo h2 st dn2 la2 S n s w fo mo ah ss sc tx TU SI EN t := by
  obtain ⟨a1, ⟨b1, ⟨_, wf, b3⟩, b4, b5, b6⟩, a3, a4, a5, a6, a7⟩ := H
  refine ⟨hh, ⟨(F _ (fun z => ?_)).trans b1, ⟨hs, wf, (F _ (fun z => ?_)).trans b3⟩, b4.fr F (fun x _ _ z => by have := hp x z; omega), b5, b6.fr F (fun x z => (hp x z).2.1)⟩, a3.fr F (fun x _ _ z => by have := hp x z; omega), a4.fr F (fun x _ _ z => by have := hp x z; omega), a5.fr F (fun x _ _ z => by have := hp x z; omega), hw, a7⟩
  · have := hp _ z; omega
  · have := hp _ z; omega
theorem HWo.hv (H : HWo h st dn la S n s w fo mo ah ss sc tx TU SI EN t) (g : Nat → Int32) : HWo (hv h g) st dn la S n s w fo mo ah ss sc tx TU SI EN t := by
  have H0 := H
  obtain ⟨a1, ⟨b1, ⟨⟨sk, b2⟩, _⟩, _⟩, a3, a4, a5, ⟨wf, a6⟩, a7⟩ := H
  exact H0.fr1 (hv_fr h g) (fun x z => by have z : x = 155 := z; omega) ((hv_fr h g 102 (by decide)).trans a1) ⟨sk, (hv_fr h g 98 (by decide)).trans b2⟩ ⟨g, hv_at (len_of a6) g⟩
theorem HWo.stk (H : HWo h st dn la S n s w fo mo ah ss sc tx TU SI EN t) (f : Nat → Int32) : HWo (stC h f) st dn la S n s w fo mo ah ss sc tx TU SI EN t := by
  have H0 := H
  obtain ⟨a1, ⟨b1, ⟨⟨sk, b2⟩, _⟩, _⟩, a3, a4, a5, ⟨wf, a6⟩, a7⟩ := H
  exact H0.fr1 (stC_fr h f) (fun x z => by have z : x = 98 := z; omega) ((stC_fr h f 102 (by decide)).trans a1) ⟨f, stC_at (len_of b2) f⟩ ⟨wf, (stC_fr h f 155 (by decide)).trans a6⟩
theorem HWo.put (H : HWo h st dn la S n s w fo mo ah ss sc tx TU SI EN t) (dn2 la2 : Int32) : HWo (h.set 102 (.inr (1, hanF st dn2 la2))) st dn2 la2 S n s w fo mo ah ss sc tx TU SI EN t := by
  have H0 := H
  obtain ⟨a1, ⟨b1, ⟨⟨sk, b2⟩, _⟩, _⟩, a3, a4, a5, ⟨wf, a6⟩, a7⟩ := H
  have F : Fr (fun a => a = 102) h (h.set 102 (.inr (1, hanF st dn2 la2))) := Fr.set rfl
  exact H0.fr1 F (fun x z => by have z : x = 102 := z; omega) (set_at a1) ⟨sk, (F 98 (by decide)).trans b2⟩ ⟨wf, (F 155 (by decide)).trans a6⟩
theorem Hands_runOnce_149_v (H : HWo h st dn la S n s w fo mo ah ss sc tx TU SI EN t) (v : Int32) : ∃ h2, Hands_runOnce_149 102 v h = some (nI (bN (decide (¬ v < 0) = true)), h2) ∧ HWo h2 st (dn + 1) la S n s w fo mo ah ss sc tx TU SI EN t ∧ Fr (fun a => a = 102) h h2 := by
  have a1 := H.1
  have e7 : gI h 1 102 7 = some dn := by unfold gI; rw [ob_of a1]; rfl
  have ep : pV h 1 102 7 (.int (dn + (1 : Int32))) = some (h.set 102 (.inr (1, hanF st (dn + 1) la))) := by unfold pV; rw [ob_of a1]; rfl
  refine ⟨_, ?_, H.put (dn + 1) la, Fr.set rfl⟩
  unfold Hands_runOnce_149
  rw [e7]
  simp only [Option.bind_some]
  rw [ep]
  simp only [Option.bind_some]
  by_cases q : v < 0
  · rw [if_pos q, decide_eq_false (fun z => z q)]; rfl
  · rw [if_neg q, decide_eq_true q]; rfl
theorem Hands_runOnce_75_v (H : HWo h st dn la S n s w fo mo ah ss sc tx TU SI EN t) {kd : Int32} (a b c : Int32) (hk : kd = 0 ∨ kd = 1 ∨ kd = 2) : ∃ h2 S2, Hands_runOnce_75 102 kd a b c h = some (nI (bN ((enq n TU SI EN kd a b c dn la t).1 = true)), h2) ∧ HWo h2 st (enq n TU SI EN kd a b c dn la t).2.1 (enq n TU SI EN kd a b c dn la t).2.2.1 S2 n s w fo mo ah ss sc tx TU SI EN (enq n TU SI EN kd a b c dn la t).2.2.2 ∧ Fr bP h h2 := by
  unfold Hands_runOnce_75 enq
  by_cases qa : a = BRK
  · rw [if_pos qa, if_pos (Or.inl qa)]; exact ⟨h, S, rfl, H, Fr.rf⟩
  · rw [if_neg qa]
    by_cases qb : b = BRK
    · rw [if_pos qb, if_pos (Or.inr (Or.inl qb))]; exact ⟨h, S, rfl, H, Fr.rf⟩
    · rw [if_neg qb]
      by_cases qc : c = BRK
      · rw [if_pos qc, if_pos (Or.inr (Or.inr qc))]; exact ⟨h, S, rfl, H, Fr.rf⟩
      · rw [if_neg qc, if_neg (show ¬ (a = BRK ∨ b = BRK ∨ c = BRK) from fun z => z.elim qa (fun z => z.elim qb qc))]
        rcases hk with k | k | k
        · rw [if_pos k, if_pos k]
          obtain ⟨h1, S1, e1, H1, F1⟩ := Hands_tread_a H a
          have ep : pV h1 1 102 8 (.int (trq n TU SI EN t a).1) = some (h1.set 102 (.inr (1, hanF st dn (trq n TU SI EN t a).1))) := by unfold pV; rw [ob_of H1.1]; rfl
          have F2 : Fr (fun a => a = 102) h1 (h1.set 102 (.inr (1, hanF st dn (trq n TU SI EN t a).1))) := Fr.set rfl
          obtain ⟨h3, e3, H3, F3⟩ := Hands_runOnce_149_v (H1.put dn (trq n TU SI EN t a).1) (trq n TU SI EN t a).1
          refine ⟨h3, S1, ?_, H3, (F1.mono (fun x z => Or.inl z)).tr ((F2.tr F3).mono (fun x z => Or.inr (Or.inl z)))⟩
          rw [e1]
          simp only [Option.bind_some]
          rw [ep]
          simp only [Option.bind_some]
          exact e3
        · have k0 : ¬ kd = 0 := by rw [k]; decide
          rw [if_neg k0, if_pos k, if_neg k0, if_pos k]
          obtain ⟨h1, e1, H1, F1⟩ := Hands_exchange_a H c a b
          obtain ⟨h3, e3, H3, F3⟩ := Hands_runOnce_149_v H1 (exq n t c a b).1
          refine ⟨h3, S, ?_, H3, (F1.mono (fun x z => Or.inl z)).tr (F3.mono (fun x z => Or.inr (Or.inl z)))⟩
          rw [e1]
          simp only [Option.bind_some]
          exact e3
        · have k0 : ¬ kd = 0 := by rw [k]; decide
          have k1 : ¬ kd = 1 := by rw [k]; decide
          rw [if_neg k0, if_neg k1, if_neg k0, if_neg k1]
          obtain ⟨h1, e1, H1, F1⟩ := Hands_lift_a H b a
          obtain ⟨h3, e3, H3, F3⟩ := Hands_runOnce_149_v H1 (lfq n t b a).1
          refine ⟨h3, S, ?_, H3, (F1.mono (fun x z => Or.inl z)).tr (F3.mono (fun x z => Or.inr (Or.inl z)))⟩
          rw [e1]
          simp only [Option.bind_some]
          exact e3
variable {N c nC nK : Nat} {al : Int32} {cf kf sf tf mf : Nat → Int32} {R : (Nat → Int32) → Int32 → Int32}
theorem Hands_runOnce_v (H : HWo h st dn la S n s w fo mo ah ss sc tx TU SI EN t) (HX : TxA h 92 N c nC nK al cf kf sf tf mf) (HSm : TxSemH N c nC nK al cf kf sf tf mf R) {j : Nat} (hj : j < c) (hk : kf j = 0 ∨ kf j = 1 ∨ kf j = 2) : ∃ h2 S2, Hands_runOnce 102 92 (nI j) h = some (nI (bN ((onq n TU SI EN (R (wrh n dn la t.C t.D)) kf sf tf j dn la t).1 = true)), h2) ∧ HWo h2 st (onq n TU SI EN (R (wrh n dn la t.C t.D)) kf sf tf j dn la t).2.1 (onq n TU SI EN (R (wrh n dn la t.C t.D)) kf sf tf j dn la t).2.2.1 S2 n s w fo mo ah ss sc tx TU SI EN (onq n TU SI EN (R (wrh n dn la t.C t.D)) kf sf tf j dn la t).2.2.2 ∧ Fr bP h h2 := by
  have H0 := H
  obtain ⟨a1, a2, a3, a4, a5, ⟨wf, a6⟩, a7⟩ := H
  obtain ⟨g2, e2, hg⟩ := Hands_fillWords_v a1 a6 a2.2.2.1 a3 (fun j hj => (a7 j hj).1.1)
  have H1 := H0.hv g2
  have F1 : Fr bP h (hv h g2) := (hv_fr h g2).mono (fun x z => Or.inr (Or.inr z))
  have X1 : TxA (hv h g2) 92 N c nC nK al cf kf sf tf mf := HX.fr (hv_fr h g2) (fun x h1 h2 z => by have z : x = 155 := z; omega)
  have A := HSm (hv h g2) 92 g2 (wrh n dn la t.C t.D) X1 (Nat.lt_trans (by decide) (len_of H1.1)) (hv_at (len_of a6) g2) hg j hj
  generalize R (wrh n dn la t.C t.D) = Q at *
  generalize hv h g2 = h1 at *
  obtain ⟨sk, k1⟩ := H1.2.1.2.1.1
  have e0 : stC h1 sk = h1 := set_self k1
  have e6 : ∀ f, gR (stC h1 f) 1 102 6 = some 155 := fun f => by unfold gR; rw [ob_of (H1.stk f).1]; rfl
  have F2 : ∀ f, Fr bP h (stC h1 f) := fun f => F1.tr ((stC_fr h1 f).mono (fun x z => Or.inl (Or.inl (Or.inl z))))
  obtain ⟨f1, i1⟩ := Text_isSo_v X1 hj A.1 sk
  rw [e0] at i1
  have e60 := e6 sk
  rw [e0] at e60
  unfold Hands_runOnce
  rw [if_pos (isO_of a1), e2]
  simp only [Option.bind_some]
  rw [e60]
  simp only [Option.bind_some]
  rw [i1]
  simp only [Option.bind_some]
  unfold onq
  by_cases q : tf j = -1 ∨ Q (tf j) = 1
  · rw [if_pos q, if_pos q, if_neg (show ¬ (1 : Int32) = 0 by decide), Text_kindOf_v (X1.st f1) hj]
    simp only [Option.bind_some]
    rw [e6 f1]
    simp only [Option.bind_some]
    obtain ⟨f2, i2⟩ := Text_sumOf_v X1 hj (i := 0) (by decide) (A.2 0 (Or.inl rfl)) f1
    rw [show Text_sumOf 92 (nI j) (0 : Int32) 155 (stC h1 f1) = some (Q (sf (j * 3 + 0)), stC h1 f2) from i2]
    simp only [Option.bind_some]
    have fin : ∀ f b c, ∃ h2 S2, Hands_runOnce_75 102 (kf j) (Q (sf (j * 3 + 0))) b c (stC h1 f) = some (nI (bN ((enq n TU SI EN (kf j) (Q (sf (j * 3 + 0))) b c dn la t).1 = true)), h2) ∧ HWo h2 st (enq n TU SI EN (kf j) (Q (sf (j * 3 + 0))) b c dn la t).2.1 (enq n TU SI EN (kf j) (Q (sf (j * 3 + 0))) b c dn la t).2.2.1 S2 n s w fo mo ah ss sc tx TU SI EN (enq n TU SI EN (kf j) (Q (sf (j * 3 + 0))) b c dn la t).2.2.2 ∧ Fr bP h h2 := fun f b c => by
      obtain ⟨h2, S2, x1, x2, x3⟩ := Hands_runOnce_75_v (H1.stk f) (Q (sf (j * 3 + 0))) b c hk
      exact ⟨h2, S2, x1, x2, (F2 f).tr x3⟩
    by_cases k0 : kf j = 0
    · have k1 : ¬ kf j = 1 := by rw [k0]; decide
      rw [if_pos k0, if_pos k0, if_neg k1]
      unfold Hands_runOnce_54
      rw [if_neg k1]
      exact fin f2 0 0
    · rw [if_neg k0, if_neg k0, e6 f2]
      simp only [Option.bind_some]
      obtain ⟨f3, i3⟩ := Text_sumOf_v X1 hj (i := 1) (by decide) (A.2 1 (Or.inr (Or.inl ⟨rfl, k0⟩))) f2
      rw [show Text_sumOf 92 (nI j) (1 : Int32) 155 (stC h1 f2) = some (Q (sf (j * 3 + 1)), stC h1 f3) from i3]
      simp only [Option.bind_some]
      unfold Hands_runOnce_54
      by_cases k1 : kf j = 1
      · rw [if_pos k1, if_pos k1, e6 f3]
        simp only [Option.bind_some]
        obtain ⟨f4, i4⟩ := Text_sumOf_v X1 hj (i := 2) (by decide) (A.2 2 (Or.inr (Or.inr ⟨rfl, k1⟩))) f3
        rw [show Text_sumOf 92 (nI j) (2 : Int32) 155 (stC h1 f3) = some (Q (sf (j * 3 + 2)), stC h1 f4) from i4]
        simp only [Option.bind_some]
        exact fin f4 _ _
      · rw [if_neg k1, if_neg k1]
        exact fin f3 _ 0
  · rw [if_neg q, if_neg q, if_pos (by first | rfl | trivial)]
    exact ⟨_, S, rfl, H1.stk f1, F2 f1⟩
end Once
