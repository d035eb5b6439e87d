/-! PURE: the reference: ends, turns, sinks, sticks, a step, how long it goes on; rows taken -/
/-- what has changed of the reference lies in F, R -/
def Lw (F R : List Nat) (b : Nat) (h : am_H) (σ : am_S) (m : Nat) (h2 : am_H) (σ2 : am_S) : Prop := Mo b h2 σ2 ∧ Lk F R σ σ2 ∧ Ps σ2 m ∧ Same b h h2
section Ste
variable {b : Nat} {σ : am_S} {h : am_H} {m : Nat}
theorem hasEnded_p (hw : WK (σ.2.1 1)) (hp : Ps σ m) (M : Mo b h σ) : ∃ h2 σ2, Ref_hasEnded b h = some (bI (endv (σ.2.1 1) (po σ m)), h2) ∧ Lw FT [11] b h σ m h2 σ2 := by
  obtain ⟨⟨v, hh, it⟩, hv⟩ := hw (po σ m) (nI 3) 0 hp.2.1 hp.2.2.1
  obtain ⟨h2, σ2, e2, M2, L2, P2, q25, q26, S2⟩ := tl_p hp hv M
  have ee : endv (σ.2.1 1) (po σ m) = (if hh = true then it else decide (σ.2.1 13 0 = nI 1)) := by unfold endv; rw [hv]; rfl
  refine ⟨h2, σ2, ?_, M2, L2, P2, S2⟩
  unfold Ref_hasEnded
  rw [if_pos M.o, show Ref_tells b (3 : Int32) 0 h = _ from e2]
  simp only [Option.bind_some]
  rw [M2.i25, q25, ee]
  simp only [Option.bind_some]
  by_cases q : hh = true
  · rw [if_neg (fun x => bI_0.mp x q), if_pos q, M2.i26, q26]
    simp only [Option.bind_some]
    rw [bI_z]
    rfl
  · rw [if_pos (bI_0.mpr q), if_neg q, M2.r29]
    simp only [Option.bind_some]
    rw [show aI h2 0 (b + 1 + 13) (0 : Int32) = some (σ.2.1 13 0) from (M2.rd (r := 13) (i := 0) (by decide) (by decide) (by decide)).trans (congrArg (fun z => some (z 0)) (L2.2.1 13 (by decide)))]
    simp only [Option.bind_some]
    by_cases q2 : σ.2.1 13 0 = nI 1
    · rw [if_pos (show σ.2.1 13 0 = (1 : Int32) from q2), decide_eq_true q2]; rfl
    · rw [if_neg (show ¬ σ.2.1 13 0 = (1 : Int32) from q2), decide_eq_false q2]; rfl
theorem sinksBy_p (hw : WK (σ.2.1 1)) (hp : Ps σ m) (M : Mo b h σ) : ∃ h2 σ2, Ref_sinksBy b h = some (snkv (σ.2.1 1) (po σ m), h2) ∧ Lw FT [11] b h σ m h2 σ2 := by
  obtain ⟨⟨v, hh, it⟩, hv⟩ := hw (po σ m) (nI 2) 0 hp.2.1 hp.2.2.1
  obtain ⟨h2, σ2, e2, M2, L2, P2, q25, q26, S2⟩ := tl_p hp hv M
  have ee : snkv (σ.2.1 1) (po σ m) = v := by unfold snkv; rw [hv]
  refine ⟨h2, σ2, ?_, M2, L2, P2, S2⟩
  unfold Ref_sinksBy
  rw [if_pos M.o, show Ref_tells b (2 : Int32) 0 h = _ from e2, ee]
  rfl
theorem turnsBy_p (hw : WK (σ.2.1 1)) (hp : Ps σ m) (M : Mo b h σ) : ∃ h2 σ2, Ref_turnsBy b h = some (trnv (σ.2.1 1) (po σ m), h2) ∧ Lw FT [11] b h σ m h2 σ2 := by
  obtain ⟨⟨v, hh, it⟩, hv⟩ := hw (po σ m) (nI 1) (trnw (po σ m)) hp.2.1 hp.2.2.1
  obtain ⟨h2, σ2, e2, M2, L2, P2, q25, q26, S2⟩ := tl_p hp hv M
  have ee : trnv (σ.2.1 1) (po σ m) = v := by unfold trnv; rw [hv]
  have r0 : aI h 0 (b + 1 + 13) (0 : Int32) = some (σ.2.1 13 0) := M.rd (r := 13) (i := 0) (by decide) (by decide) (by decide)
  refine ⟨h2, σ2, ?_, M2, L2, P2, S2⟩
  unfold Ref_turnsBy Ref_turnsBy_26
  rw [if_pos M.o, M.r29]
  simp only [Option.bind_some]
  rw [r0]
  simp only [Option.bind_some]
  by_cases q : σ.2.1 13 0 = 0
  · rw [if_pos q, M.i32]
    simp only [Option.bind_some]
    rw [show trnw (po σ m) = (σ.1 32).toInt64 from if_pos q] at e2
    rw [show Ref_tells b (1 : Int32) (σ.1 32).toInt64 h = _ from e2, ee]
    rfl
  · rw [if_neg q]
    rw [show trnw (po σ m) = (σ.2.1 13 0).toInt64 from if_neg q] at e2
    rw [show Ref_tells b (1 : Int32) (σ.2.1 13 0).toInt64 h = _ from e2, ee]
    rfl
theorem cannot_p (t : Int64) (h31 : σ.1 31 = nI m) (M : Mo b h σ) : Ref_cannot b t h = some (bI (canv t m)) := by
  unfold Ref_cannot canv
  rw [if_pos M.o]
  by_cases q : t < 0
  · rw [if_pos (cmpl.mpr q), decide_eq_true q]; rfl
  · rw [if_neg (fun z => q (cmpl.mp z)), M.i31, h31, decide_eq_false q, Bool.false_or]
    simp only [Option.bind_some]
    by_cases q2 : (nI m).toInt64 < t
    · rw [if_neg (fun z => cmpg.mp z q2), decide_eq_true q2]; rfl
    · rw [if_pos (cmpg.mpr q2), decide_eq_false q2]; rfl
theorem Lw.tr {F R : List Nat} {h1 h2 : am_H} {σ1 σ2 : am_S} (p : Lw F R b h σ m h1 σ1) (q : Lw F R b h1 σ1 m h2 σ2) : Lw F R b h σ m h2 σ2 := ⟨q.1, p.2.1.tr q.2.1, q.2.2.1, p.2.2.2.tr q.2.2.2⟩
theorem Lw.up {F R F2 R2 : List Nat} {h1 : am_H} {σ1 : am_S} (p : Lw F R b h σ m h1 σ1) (hF : ∀ x ∈ F, x ∈ F2) (hR : ∀ x ∈ R, x ∈ R2) : Lw F2 R2 b h σ m h1 σ1 := ⟨p.1, p.2.1.mono hF hR, p.2.2.1, p.2.2.2⟩
theorem isStuck_p (hw : WK (σ.2.1 1)) (hp : Ps σ m) (M : Mo b h σ) : ∃ h2 σ2, Ref_isStuck b h = some (bI (stkv (σ.2.1 1) (po σ m)), h2) ∧ Lw FT [11] b h σ m h2 σ2 := by
  obtain ⟨h1, σ1, e1, W1⟩ := hasEnded_p hw hp M
  have k1 := kp_eq W1.2.1
  have p1 := po_eq (m := m) W1.2.1
  obtain ⟨h2, σ2, e2, W2⟩ := turnsBy_p (σ := σ1) (by rw [k1]; exact hw) W1.2.2.1 W1.1
  have k2 := kp_eq W2.2.1
  have p2 := po_eq (m := m) W2.2.1
  obtain ⟨h3, σ3, e3, W3⟩ := sinksBy_p (σ := σ2) (by rw [k2, k1]; exact hw) W2.2.2.1 W2.1
  rw [k1, p1] at e2
  rw [k2, k1, p2, p1] at e3
  have c2 := cannot_p (trnv (σ.2.1 1) (po σ m)) W2.2.2.1.1 W2.1
  have c3 := cannot_p (snkv (σ.2.1 1) (po σ m)) W3.2.2.1.1 W3.1
  unfold Ref_isStuck stkv
  rw [if_pos M.o, e1]
  simp only [Option.bind_some]
  have em : (po σ m).2.1 = m := rfl
  rw [em]
  by_cases q : endv (σ.2.1 1) (po σ m) = true
  · rw [if_neg (fun x => bI_0.mp x q), q]
    exact ⟨h1, σ1, rfl, W1⟩
  · have q' : endv (σ.2.1 1) (po σ m) = false := by cases hx : endv (σ.2.1 1) (po σ m) <;> simp_all
    rw [if_pos (bI_0.mpr q), e2, q']
    simp only [Option.bind_some]
    rw [c2]
    simp only [Option.bind_some]
    cases hc : canv (trnv (σ.2.1 1) (po σ m)) m with
    | true => rw [if_neg (by decide)]; exact ⟨h2, σ2, rfl, W1.tr W2⟩
    | false =>
      rw [if_pos (by decide), e3]
      simp only [Option.bind_some]
      rw [c3]
      simp only [Option.bind_some]
      refine ⟨h3, σ3, ?_, W1.tr (W2.tr W3)⟩
      cases canv (snkv (σ.2.1 1) (po σ m)) m with
      | true => rw [if_neg (by decide)]; rfl
      | false => rw [if_pos (by decide)]; rfl
theorem canStep_p (hw : WK (σ.2.1 1)) (hp : Ps σ m) (M : Mo b h σ) : ∃ h2 σ2, Ref_canStep b h = some (bI (cstv (σ.2.1 1) (po σ m)), h2) ∧ Lw FT [11] b h σ m h2 σ2 := by
  obtain ⟨h1, σ1, e1, W1⟩ := hasEnded_p hw hp M
  have k1 := kp_eq W1.2.1
  have p1 := po_eq (m := m) W1.2.1
  obtain ⟨h2, σ2, e2, W2⟩ := isStuck_p (σ := σ1) (by rw [k1]; exact hw) W1.2.2.1 W1.1
  rw [k1, p1] at e2
  unfold Ref_canStep cstv
  rw [if_pos M.o, e1]
  simp only [Option.bind_some]
  cases endv (σ.2.1 1) (po σ m) with
  | true => rw [if_neg (by decide)]; exact ⟨h1, σ1, rfl, W1⟩
  | false =>
    rw [if_pos (by decide), e2]
    simp only [Option.bind_some]
    refine ⟨h2, σ2, ?_, W1.tr W2⟩
    cases stkv (σ.2.1 1) (po σ m) with
    | true => rw [if_neg (by decide)]; rfl
    | false => rw [if_pos (by decide)]; rfl
theorem turns_l {t : Nat} (ht : t ≤ 13) {S : Nat → Int32} {A : Nat → Nat → Int32} {B : Nat → Int64} {c : Nat → Int32} : ∀ (nn k : Nat) (h : am_H), k + nn = t + 1 → 2 * k ≤ t → Mo b h (S, rs A 13 (rvk c t k), B) → ∃ h2, Ref_turns_2 b (nI t) (nI k) h = some h2 ∧ Mo b h2 (S, rs A 13 (rv c t), B) ∧ Same b h h2 := by
  intro nn
  induction nn with
  | zero => intro k h hk h2 M; omega
  | succ nn ih =>
    intro k h hk hk2 M
    have tt := tin (show t < 2 ^ 31 by omega)
    have e2k : (2 : Int32) * nI k + (1 : Int32) = nI (2 * k + 1) := by rw [show (2 : Int32) * nI k = nI (2 * k) from pk_mul 2 k, nI_p1]
    have tk := tin (show 2 * k + 1 < 2 ^ 31 by omega)
    rw [Ref_turns_2_e, e2k]
    by_cases q : t ≤ 2 * k + 1
    · rw [if_pos (tile.mpr (by omega))]
      refine ⟨h, rfl, ?_, Same.rf⟩
      rw [← rvk_e q hk2]; exact M
    · rw [if_neg (fun z => q (by have := tile.mp z; omega)), M.r29]
      simp only [Option.bind_some]
      have r1 : aI h 0 (b + 1 + 13) (nI k) = some (rvk c t k k) := M.rd (r := 13) (by decide) (by decide) (show k < 13 by omega)
      have r2 : aI h 0 (b + 1 + 13) (nI (t - 1 - k)) = some (rvk c t k (t - 1 - k)) := M.rd (r := 13) (by decide) (by decide) (show t - 1 - k < 13 by omega)
      obtain ⟨h1, e1, M1, S1⟩ := M.wrR (i := k) (by decide) (by decide) rfl (show k < 13 by omega) (rvk c t k (t - 1 - k))
      obtain ⟨h3, e3, M3, S3⟩ := M1.wrR (i := t - 1 - k) (by decide) (by decide) rfl (show t - 1 - k < 13 by omega) (rvk c t k k)
      rw [rvk_s (by omega)] at M3
      obtain ⟨h4, e4, M4, S4⟩ := ih (k + 1) h3 (by omega) (by omega) M3
      refine ⟨h4, ?_, M4, S1.tr (S3.tr S4)⟩
      have es : nI t - (1 : Int32) - nI k = nI (t - 1 - k) := by
        rw [show nI t - (1 : Int32) = nI (t - 1) from pk_sub (a := t) (b := 1) (by omega)]
        exact pk_sub (a := t - 1) (b := k) (by omega)
      rw [r1, es, r2]
      simp only [Option.bind_some]
      rw [e1]
      simp only [Option.bind_some]
      rw [M1.r29]
      simp only [Option.bind_some]
      rw [e3]
      simp only [Option.bind_some]
      rw [nI_p1]
      exact e4
theorem turns_p (t : Nat) (ht : t ≤ 13) (M : Mo b h σ) : ∃ h2, Ref_turns b (nI t) h = some h2 ∧ Mo b h2 (σ.1, rs σ.2.1 13 (rv (σ.2.1 13) t), σ.2.2) ∧ Same b h h2 := by
  obtain ⟨h2, e2, M2, S2⟩ := turns_l (b := b) (c := σ.2.1 13) (A := σ.2.1) (S := σ.1) (B := σ.2.2) ht (t + 1) 0 h (by omega) (by omega) (by rw [rvk_0, rs_self]; exact M)
  refine ⟨h2, ?_, M2, S2⟩
  unfold Ref_turns
  rw [if_pos M.o]
  exact e2
theorem sinks_l {p : Nat} (h31 : σ.1 31 = nI m) (hm13 : m ≤ 13) (hp : p ≤ 13) : ∀ (nn k : Nat) (h : am_H), k + nn = m → Mo b h (σ.1, rs σ.2.1 14 (fill (σ.2.1 14) 0 k (fun i => σ.2.1 13 ((i + p) % m))), σ.2.2) → ∃ h2, Ref_sinks_2 b (nI p) (nI k) h = Ref_sinks_37 b (nI 0) h2 ∧ Mo b h2 (σ.1, rs σ.2.1 14 (fill (σ.2.1 14) 0 m (fun i => σ.2.1 13 ((i + p) % m))), σ.2.2) ∧ Same b h h2 := by
  intro nn
  induction nn with
  | zero =>
    intro k h hk M
    have tm := tin (show m < 2 ^ 31 by omega)
    obtain rfl : k = m := by omega
    refine ⟨h, ?_, M, Same.rf⟩
    rw [Ref_sinks_2_e, show gI h 12 b 31 = some (nI k) from M.i31.trans (congrArg some h31)]
    simp only [Option.bind_some]
    rw [if_pos (tile.mpr (by omega))]
    rfl
  | succ nn ih =>
    intro k h hk M
    have tm := tin (show m < 2 ^ 31 by omega)
    have tk := tin (show k < 2 ^ 31 by omega)
    have e31 : gI h 12 b 31 = some (nI m) := M.i31.trans (congrArg some h31)
    obtain ⟨h1, e1, M1, S1⟩ := M.wrR (i := k) (by decide) (by decide) rfl (show k < 13 by omega) (σ.2.1 13 ((k + p) % m))
    rw [fill_s0 (σ.2.1 14) k (fun i => σ.2.1 13 ((i + p) % m))] at M1
    obtain ⟨h2, e2, M2, S2⟩ := ih (k + 1) h1 (by omega) M1
    refine ⟨h2, ?_, M2, S1.tr S2⟩
    have hmod : (k + p) % m < m := Nat.mod_lt _ (by omega)
    have er : rmI (nI k + nI p) (nI m) = some (nI ((k + p) % m)) := by
      rw [nI_add]
      exact rmI_n (by omega) (by omega) (by omega)
    rw [Ref_sinks_2_e, e31]
    simp only [Option.bind_some]
    rw [if_neg (fun z => by have := tile.mp z; omega), M.r30, M.r29]
    simp only [Option.bind_some]
    rw [er]
    simp only [Option.bind_some]
    rw [show aI h 0 (b + 1 + 13) (nI ((k + p) % m)) = some (σ.2.1 13 ((k + p) % m)) from M.rd (r := 13) (by decide) (by decide) (show (k + p) % m < 13 by omega)]
    simp only [Option.bind_some]
    rw [e1]
    simp only [Option.bind_some]
    rw [nI_p1]
    exact e2
theorem sinks_37l (h31 : σ.1 31 = nI m) (hm13 : m ≤ 13) {A : Nat → Nat → Int32} {c s : Nat → Int32} (hs : A 14 = s) : ∀ (nn k : Nat) (h : am_H), k + nn = m → Mo b h (σ.1, rs A 13 (fill c 0 k s), σ.2.2) → ∃ h2, Ref_sinks_37 b (nI k) h = some h2 ∧ Mo b h2 (σ.1, rs A 13 (fill c 0 m s), σ.2.2) ∧ Same b h h2 := by
  intro nn
  induction nn with
  | zero =>
    intro k h hk M
    have tm := tin (show m < 2 ^ 31 by omega)
    obtain rfl : k = m := by omega
    refine ⟨h, ?_, M, Same.rf⟩
    rw [Ref_sinks_37_e, show gI h 12 b 31 = some (nI k) from M.i31.trans (congrArg some h31)]
    simp only [Option.bind_some]
    rw [if_pos (tile.mpr (by omega))]
  | succ nn ih =>
    intro k h hk M
    have tm := tin (show m < 2 ^ 31 by omega)
    have tk := tin (show k < 2 ^ 31 by omega)
    have e31 : gI h 12 b 31 = some (nI m) := M.i31.trans (congrArg some h31)
    obtain ⟨h1, e1, M1, S1⟩ := M.wrR (i := k) (by decide) (by decide) rfl (show k < 13 by omega) (s k)
    rw [fill_s0 c k s] at M1
    obtain ⟨h2, e2, M2, S2⟩ := ih (k + 1) h1 (by omega) M1
    refine ⟨h2, ?_, M2, S1.tr S2⟩
    rw [Ref_sinks_37_e, e31]
    simp only [Option.bind_some]
    rw [if_neg (fun z => by have := tile.mp z; omega), M.r29, M.r30]
    simp only [Option.bind_some]
    rw [show aI h 0 (b + 1 + 14) (nI k) = some (s k) from (M.rd (r := 14) (by decide) (by decide) (show k < 13 by omega)).trans (congrArg some (by show rs A 13 (fill c 0 k s) 14 k = s k; rw [rs_ne (by decide), hs]))]
    simp only [Option.bind_some]
    rw [e1]
    simp only [Option.bind_some]
    rw [nI_p1]
    exact e2
theorem sinks_p (m p : Nat) (h31 : σ.1 31 = nI m) (hm13 : m ≤ 13) (hp : p ≤ 13) (M : Mo b h σ) : ∃ h2, Ref_sinks b (nI p) h = some h2 ∧ Mo b h2 (snk σ m p) ∧ Same b h h2 := by
  obtain ⟨h1, e1, M1, S1⟩ := sinks_l (b := b) (p := p) h31 hm13 hp m 0 h (Nat.zero_add _) (by rw [fill_0, rs_self]; exact M)
  have M1' : Mo b h1 (σ.1, rs (rs σ.2.1 14 (fill (σ.2.1 14) 0 m (fun i => σ.2.1 13 ((i + p) % m)))) 13 (fill (σ.2.1 13) 0 0 (fill (σ.2.1 14) 0 m (fun i => σ.2.1 13 ((i + p) % m)))), σ.2.2) := by
    have e := rs_self (rs σ.2.1 14 (fill (σ.2.1 14) 0 m (fun i => σ.2.1 13 ((i + p) % m)))) 13
    rw [rs_ne (show 13 ≠ 14 by decide)] at e
    rw [fill_0, e]
    exact M1
  obtain ⟨h2, e2, M2, S2⟩ := sinks_37l (σ := σ) (b := b) h31 hm13 (A := rs σ.2.1 14 (fill (σ.2.1 14) 0 m (fun i => σ.2.1 13 ((i + p) % m)))) (rs_at ..) m 0 h1 (Nat.zero_add _) M1'
  refine ⟨h2, ?_, M2, S1.tr S2⟩
  unfold Ref_sinks
  rw [if_pos M.o]
  exact e1.trans e2
theorem snk_po {σ2 : am_S} {m T D : Nat} : (snk (σ2.1, rs σ2.2.1 13 (rv (σ2.2.1 13) T), σ2.2.2) m D).2.1 13 = skc (rv (σ2.2.1 13) T) m D := by
  unfold snk skc
  show rs (rs (rs σ2.2.1 13 (rv (σ2.2.1 13) T)) 14 (fill (rs σ2.2.1 13 (rv (σ2.2.1 13) T) 14) 0 m fun i => rs σ2.2.1 13 (rv (σ2.2.1 13) T) 13 ((i + D) % m))) 13 (fill (rs σ2.2.1 13 (rv (σ2.2.1 13) T) 13) 0 m (fill (rs σ2.2.1 13 (rv (σ2.2.1 13) T) 14) 0 m fun i => rs σ2.2.1 13 (rv (σ2.2.1 13) T) 13 ((i + D) % m))) 13 = _
  rw [rs_at, rs_at, fill_fill]
theorem steps_p (hw : WK (σ.2.1 1)) (hp : Ps σ m) (ht : canv (trnv (σ.2.1 1) (po σ m)) m = false) (hd : canv (snkv (σ.2.1 1) (po σ m)) m = false) (M : Mo b h σ) : ∃ h2 σ2, Ref_steps b h = some h2 ∧ Lw FS [11, 13, 14] b h σ m h2 σ2 ∧ po σ2 m = stp (σ.2.1 1) (po σ m) := by
  obtain ⟨h1, σ1, e1, W1⟩ := turnsBy_p hw hp M
  have k1 := kp_eq W1.2.1
  have p1 := po_eq (m := m) W1.2.1
  obtain ⟨h2, σ2, e2, W2⟩ := sinksBy_p (σ := σ1) (by rw [k1]; exact hw) W1.2.2.1 W1.1
  rw [k1, p1] at e2
  have W12 := W1.tr W2
  have p2 := po_eq (m := m) W12.2.1
  obtain ⟨x1, x2⟩ := tsm ht hp.2.2.1
  obtain ⟨y1, y2⟩ := tsm hd hp.2.2.1
  have hm13 := hp.2.2.1
  obtain ⟨h3, e3, M3, S3⟩ := turns_p (σ := σ2) (trnv (σ.2.1 1) (po σ m)).toInt.toNat (by omega) W12.1
  obtain ⟨h4, e4, M4, S4⟩ := sinks_p (σ := (σ2.1, rs σ2.2.1 13 (rv (σ2.2.1 13) (trnv (σ.2.1 1) (po σ m)).toInt.toNat), σ2.2.2)) m (snkv (σ.2.1 1) (po σ m)).toInt.toNat W12.2.2.1.1 hm13 (by omega) M3
  obtain ⟨h5, e5, M5, S5⟩ := M4.w32 (nI (trnv (σ.2.1 1) (po σ m)).toInt.toNat)
  obtain ⟨q31, qm1, qm13, br, q23⟩ := W12.2.2.1
  have c13 : σ2.2.1 13 = σ.2.1 13 := W12.2.1.2.1 13 (by decide)
  refine ⟨h5, _, ?_, ⟨M5, ⟨fun k hk => ?_, fun k hk => ?_, W12.2.1.2.2⟩, ⟨q31, qm1, qm13, br, q23⟩, W12.2.2.2.tr (S3.tr (S4.tr S5))⟩, ?_⟩
  · unfold Ref_steps
    rw [if_pos M.o, e1]
    simp only [Option.bind_some]
    rw [e2]
    simp only [Option.bind_some]
    rw [x1, e3]
    simp only [Option.bind_some]
    rw [y1, e4]
    simp only [Option.bind_some]
    rw [e5]
    rfl
  · simp only [List.mem_cons, List.not_mem_nil, or_false, not_or] at hk
    show upd σ2.1 32 _ k = σ.1 k
    unfold upd
    rw [if_neg hk.2.2.2.2.2.2]
    exact W12.2.1.1 k (by simp only [List.mem_cons, List.not_mem_nil, or_false, not_or]; exact ⟨hk.1, hk.2.1, hk.2.2.1, hk.2.2.2.1, hk.2.2.2.2.1, hk.2.2.2.2.2.1⟩)
  · simp only [List.mem_cons, List.not_mem_nil, or_false, not_or] at hk
    show (snk _ m _).2.1 k = σ.2.1 k
    unfold snk
    show rs (rs (rs σ2.2.1 13 _) 14 _) 13 _ k = σ.2.1 k
    rw [rs_ne hk.2.1, rs_ne hk.2.2, rs_ne hk.2.1]
    exact W12.2.1.2.1 k (by simp only [List.mem_cons, List.not_mem_nil, or_false]; exact hk.1)
  · have e33 : σ2.1 33 = σ.1 33 := W12.2.1.1 33 (by decide)
    have emin : min 13 (trnv (σ.2.1 1) (po σ m)).toInt.toNat = (trnv (σ.2.1 1) (po σ m)).toInt.toNat := by omega
    unfold stp
    rw [emin]
    refine Prod.ext ?_ (Prod.ext rfl (Prod.ext rfl e33))
    exact (snk_po (σ2 := σ2)).trans (by rw [c13]; rfl)
theorem endsBehind_l {K : Nat → Int32} {L : Nat} (hw : WK K) (hL : K 114 = nI L) (hL3 : L ≤ 300) : ∀ (nn n : Nat) (p : Po) (h : am_H) (σ1 : am_S), n + nn = L → Mo b h σ1 → Ps σ1 m → σ1.2.1 1 = K → po σ1 m = p → ∃ h2 σ2, Ref_endsBehind_2 b (nI n) h = some (oN (ebv K nn n p).1, h2) ∧ Lw FS [11, 13, 14] b h σ1 m h2 σ2 ∧ po σ2 m = (ebv K nn n p).2 := by
  intro nn
  induction nn with
  | zero =>
    intro n p h σ1 hn M hp hK hpo
    have tn := tin (show n < 2 ^ 31 by omega)
    subst hK
    obtain ⟨h1, s1, e1, W1⟩ := hasEnded_p hw hp M
    have k1 := kp_eq W1.2.1
    have p1 := po_eq (m := m) W1.2.1
    obtain ⟨h2, s2, e2, W2⟩ := isStuck_p (σ := s1) (by rw [k1]; exact hw) W1.2.2.1 W1.1
    rw [k1, p1] at e2
    have k2 := kp_eq W2.2.1
    have p2 := po_eq (m := m) W2.2.1
    have r114 : ∀ (h : am_H) (s : am_S), Mo b h s → s.2.1 1 = σ1.2.1 1 → aI h 0 (b + 1 + 1) (114 : Int32) = some (nI L) := fun h s M e => (M.rd (r := 1) (i := 114) (by decide) (by decide) (by decide)).trans (congrArg some (by rw [e]; exact hL))
    have U : ∀ {h2 : am_H} {s2 : am_S}, Lw FT [11] b h σ1 m h2 s2 → Lw FS [11, 13, 14] b h σ1 m h2 s2 := fun w => w.up (by decide) (by decide)
    obtain rfl : n = L := by omega
    unfold ebv
    rw [Ref_endsBehind_2_e, M.r2]
    simp only [Option.bind_some]
    rw [r114 h σ1 M rfl]
    simp only [Option.bind_some]
    rw [if_neg (fun z => by have := tilt.mp z; omega), e1]
    simp only [Option.bind_some]
    rw [hpo] at e2 p1 ⊢
    by_cases q : endv (σ1.2.1 1) p = true
    · rw [if_neg (fun x => bI_0.mp x q), if_pos q]
      exact ⟨h1, s1, rfl, U W1, p1⟩
    · rw [if_pos (bI_0.mpr q), if_neg q, e2]
      simp only [Option.bind_some]
      refine ⟨h2, s2, ?_, U (W1.tr W2), p2.trans p1⟩
      by_cases q2 : stkv (σ1.2.1 1) p = true
      · rw [if_neg (fun x => bI_0.mp x q2)]
        rfl
      · rw [if_pos (bI_0.mpr q2), W2.1.r2]
        simp only [Option.bind_some]
        rw [r114 h2 s2 W2.1 (k2.trans k1)]
        simp only [Option.bind_some]
        rw [if_pos (by first | rfl | trivial)]
        rfl
  | succ nn ih =>
    intro n p h σ1 hn M hp hK hpo
    have tn := tin (show n < 2 ^ 31 by omega)
    have tL := tin (show L < 2 ^ 31 by omega)
    subst hK
    obtain ⟨h1, s1, e1, W1⟩ := hasEnded_p hw hp M
    have k1 := kp_eq W1.2.1
    have p1 := po_eq (m := m) W1.2.1
    obtain ⟨h2, s2, e2, W2⟩ := isStuck_p (σ := s1) (by rw [k1]; exact hw) W1.2.2.1 W1.1
    rw [k1, p1] at e2
    have k2 := (kp_eq W2.2.1).trans k1
    have p2 := (po_eq (m := m) W2.2.1).trans p1
    have r114 : ∀ (h : am_H) (s : am_S), Mo b h s → s.2.1 1 = σ1.2.1 1 → aI h 0 (b + 1 + 1) (114 : Int32) = some (nI L) := fun h s M e => (M.rd (r := 1) (i := 114) (by decide) (by decide) (by decide)).trans (congrArg some (by rw [e]; exact hL))
    have U : ∀ {h2 : am_H} {s2 : am_S}, Lw FT [11] b h σ1 m h2 s2 → Lw FS [11, 13, 14] b h σ1 m h2 s2 := fun w => w.up (by decide) (by decide)
    unfold ebv
    rw [Ref_endsBehind_2_e, M.r2]
    simp only [Option.bind_some]
    rw [r114 h σ1 M rfl]
    simp only [Option.bind_some]
    rw [if_neg (fun z => by have := tilt.mp z; omega), e1]
    simp only [Option.bind_some]
    rw [hpo] at e2 p1 p2 ⊢
    by_cases q : endv (σ1.2.1 1) p = true
    · rw [if_neg (fun x => bI_0.mp x q), if_pos q]
      exact ⟨h1, s1, rfl, U W1, p1⟩
    · rw [if_pos (bI_0.mpr q), if_neg q, e2]
      simp only [Option.bind_some]
      by_cases q2 : stkv (σ1.2.1 1) p = true
      · rw [if_neg (fun x => bI_0.mp x q2), if_pos q2]
        exact ⟨h2, s2, rfl, U (W1.tr W2), p2⟩
      · rw [if_pos (bI_0.mpr q2), if_neg q2, W2.1.r2]
        simp only [Option.bind_some]
        rw [r114 h2 s2 W2.1 k2]
        simp only [Option.bind_some]
        rw [if_neg (fun z => by have := (nI_eq (by omega) (by omega)).mp z; omega)]
        have q' : endv (σ1.2.1 1) p = false := by cases hx : endv (σ1.2.1 1) p <;> simp_all
        have q2' : stkv (σ1.2.1 1) p = false := by cases hx : stkv (σ1.2.1 1) p <;> simp_all
        obtain ⟨c1, c2⟩ := stk_no q' q2'
        have em : p.2.1 = m := by rw [← hpo]; rfl
        rw [em] at c1 c2
        obtain ⟨h3, s3, e3, W3, p3⟩ := steps_p (σ := s2) (by rw [k2]; exact hw) W2.2.2.1 (by rw [k2, p2]; exact c1) (by rw [k2, p2]; exact c2) W2.1
        rw [k2, p2] at p3
        have k3 : s3.2.1 1 = σ1.2.1 1 := (W3.2.1.2.1 1 (by decide)).trans k2
        rw [e3]
        simp only [Option.bind_some]
        obtain ⟨h4, s4, e4, W4, p4⟩ := ih (n + 1) (stp (σ1.2.1 1) p) h3 s3 (by omega) W3.1 W3.2.2.1 k3 p3
        refine ⟨h4, s4, ?_, (U (W1.tr W2)).tr (W3.tr W4), p4⟩
        rw [nI_p1]
        exact e4
theorem endsBehind_p {L : Nat} (hw : WK (σ.2.1 1)) (hL : σ.2.1 1 114 = nI L) (hL3 : L ≤ 300) (hp : Ps σ m) (M : Mo b h σ) : ∃ h2 σ2, Ref_endsBehind b h = some (oN (ebv (σ.2.1 1) L 0 (po σ m)).1, h2) ∧ Lw FS [11, 13, 14] b h σ m h2 σ2 ∧ po σ2 m = (ebv (σ.2.1 1) L 0 (po σ m)).2 := by
  obtain ⟨h2, s2, e2, W2⟩ := endsBehind_l (b := b) (m := m) hw hL hL3 L 0 (po σ m) h σ (Nat.zero_add _) M hp rfl rfl
  refine ⟨h2, s2, ?_, W2⟩
  unfold Ref_endsBehind
  rw [if_pos M.o]
  exact e2
end Ste
