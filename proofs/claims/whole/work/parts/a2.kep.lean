/-! PURE: the reference's changes by hand, with what can be undone -/
section Kep
variable {b : Nat} {h : am_H} {σ : am_S} {S : Nat → Int32} {A : Nat → Nat → Int32} {B : Nat → Int64} {m : Nat}
theorem keeps_54l {u : Nat} (hu : u < 16) (h39 : S 39 = nI u) {K l : Nat → Int32} (hK : A 1 = K) (x : Int32) : ∀ (nn k : Nat) (h : am_H), k + nn = 97 → Mo b h (S, rs A 16 (fill l (98 * u) k K), B) → ∃ h2, Ref_keeps_54 b x (nI 98) (nI k) h = some h2 ∧ Mo b h2 (upd S 39 (nI (u + 1)), rs A 16 (upd (fill l (98 * u) 97 K) (98 * u + 97) x), B) ∧ Same b h h2 := by
  intro nn
  have t97 : (97 : Int32).toInt = 97 := by decide
  induction nn with
  | zero =>
    intro k h hk M
    obtain rfl : k = 97 := by omega
    obtain ⟨h1, e1, M1, S1⟩ := M.wrR (i := 98 * u + 97) (by decide) (by decide) rfl (show 98 * u + 97 < 1568 by omega) x
    obtain ⟨h2, e2, M2, S2⟩ := M1.w39 (nI (u + 1))
    refine ⟨h2, ?_, M2, S1.tr S2⟩
    rw [Ref_keeps_54_e, if_pos (by decide), M.r37, show gI h 12 b 39 = some (nI u) from M.i39.trans (congrArg some h39)]
    simp only [Option.bind_some]
    rw [show nI 98 * nI u = nI (98 * u) from pk_mul 98 u, show nI (98 * u) + (97 : Int32) = nI (98 * u + 97) from nI_add _ 97, e1]
    simp only [Option.bind_some]
    rw [show gI h1 12 b 39 = some (nI u) from M1.i39.trans (congrArg some h39)]
    simp only [Option.bind_some]
    rw [nI_p1, e2]
    rfl
  | succ nn ih =>
    intro k h hk M
    have tk := tin (show k < 2 ^ 31 by omega)
    obtain ⟨h1, e1, M1, S1⟩ := M.wrR (i := 98 * u + k) (by decide) (by decide) rfl (show 98 * u + k < 1568 by omega) (K k)
    rw [fill_s l (98 * u) k K] at M1
    obtain ⟨h2, e2, M2, S2⟩ := ih (k + 1) h1 (by omega) M1
    refine ⟨h2, ?_, M2, S1.tr S2⟩
    rw [Ref_keeps_54_e, if_neg (fun z => by have := tile.mp z; omega), M.r37, M.r2, show gI h 12 b 39 = some (nI u) from M.i39.trans (congrArg some h39)]
    simp only [Option.bind_some]
    rw [show aI h 0 (b + 1 + 1) (nI k) = some (K k) from (M.rd (r := 1) (by decide) (by decide) (show k < 5725 by omega)).trans (congrArg some (show rs A 16 (fill l (98 * u) k K) 1 k = K k by rw [rs_ne (by decide), hK]))]
    simp only [Option.bind_some]
    rw [show nI 98 * nI u = nI (98 * u) from pk_mul 98 u, nI_add, e1]
    simp only [Option.bind_some]
    rw [nI_p1]
    exact e2
theorem keeps_14l {l : Nat → Int32} (x : Int32) (h39 : S 39 = nI 16) : ∀ (nn k : Nat) (h : am_H), k + nn = 1470 → Mo b h (S, rs A 16 (fill l 0 k (fun i => l (i + 98))), B) → ∃ h2, Ref_keeps_14 b x (nI 98) (nI k) h = Ref_keeps_54 b x (nI 98) (nI 0) h2 ∧ Mo b h2 (upd S 39 (nI 15), rs A 16 (fill l 0 1470 (fun i => l (i + 98))), B) ∧ Same b h h2 := by
  intro nn
  have e15 : (15 : Int32) * nI 98 = nI 1470 := pk_mul 15 98
  have t := tin (show 1470 < 2 ^ 31 by decide)
  induction nn with
  | zero =>
    intro k h hk M
    obtain rfl : k = 1470 := by omega
    obtain ⟨h2, e2, M2, S2⟩ := M.w39 (nI 15)
    refine ⟨h2, ?_, M2, S2⟩
    rw [Ref_keeps_14_e, e15, if_pos (tile.mpr (Int.le_refl _)), show gI h 12 b 39 = some (nI 16) from M.i39.trans (congrArg some h39)]
    simp only [Option.bind_some]
    rw [show nI 16 - (1 : Int32) = nI 15 from rfl, e2]
    rfl
  | succ nn ih =>
    intro k h hk M
    have tk := tin (show k < 2 ^ 31 by omega)
    obtain ⟨h1, e1, M1, S1⟩ := M.wrR (i := k) (by decide) (by decide) rfl (show k < 1568 by omega) (l (k + 98))
    rw [fill_s0 l k (fun i => l (i + 98))] at M1
    obtain ⟨h2, e2, M2, S2⟩ := ih (k + 1) h1 (by omega) M1
    refine ⟨h2, ?_, M2, S1.tr S2⟩
    rw [Ref_keeps_14_e, e15, if_neg (fun z => by have := tile.mp z; omega), M.r37]
    simp only [Option.bind_some]
    rw [nI_add, show aI h 0 (b + 1 + 16) (nI (k + 98)) = some (l (k + 98)) from (M.rd (r := 16) (by decide) (by decide) (show k + 98 < 1568 by omega)).trans (congrArg some (show rs A 16 (fill l 0 k (fun i => l (i + 98))) 16 (k + 98) = l (k + 98) by rw [rs_at, fill_out (by omega)]))]
    simp only [Option.bind_some]
    rw [e1]
    simp only [Option.bind_some]
    rw [nI_p1]
    exact e2
theorem keeps_p (x : Int32) {u : Nat} (hu : u ≤ 16) (h39 : σ.1 39 = nI u) (M : Mo b h σ) : ∃ h2, Ref_keeps b x h = some h2 ∧ Mo b h2 (kps σ u x) ∧ Same b h h2 := by
  unfold Ref_keeps kps kpu kpl
  rw [if_pos M.o, M.i39, h39]
  simp only [Option.bind_some]
  by_cases q : u < 16
  · rw [if_neg (show ¬ nI u = (16 : Int32) from nIne (b := 16) (by omega) (by decide) (by omega)), if_pos q, if_pos q]
    obtain ⟨h2, e2, M2, S2⟩ := keeps_54l (b := b) (S := σ.1) (A := σ.2.1) (B := σ.2.2) (l := σ.2.1 16) q h39 rfl x 97 0 h rfl (by rw [fill_0, rs_self]; exact M)
    exact ⟨h2, e2, M2, S2⟩
  · obtain rfl : u = 16 := by omega
    rw [if_pos (by first | rfl | trivial), if_neg q, if_neg q]
    obtain ⟨h1, e1, M1, S1⟩ := keeps_14l (b := b) (S := σ.1) (A := σ.2.1) (B := σ.2.2) (l := σ.2.1 16) x h39 1470 0 h rfl (by rw [fill_0, rs_self]; exact M)
    obtain ⟨h2, e2, M2, S2⟩ := keeps_54l (b := b) (S := upd σ.1 39 (nI 15)) (A := σ.2.1) (B := σ.2.2) (u := 15) (l := fill (σ.2.1 16) 0 1470 (fun i => σ.2.1 16 (i + 98))) (by decide) rfl rfl x 97 0 h1 rfl (by rw [fill_0]; exact M1)
    refine ⟨h2, e1.trans e2, ?_, S1.tr S2⟩
    rw [upd_upd] at M2
    exact M2
theorem puts_l {j : Nat} (hj : j < 6) {K c : Nat → Int32} (hc : A 13 = c) : ∀ (nn k : Nat) (h : am_H), k + nn = 13 → Mo b h (S, rs A 1 (fill K (16 * j + 3) k c), B) → ∃ h2, Ref_puts_2 b (nI j) (nI k) h = some h2 ∧ Mo b h2 (S, rs A 1 (upd (fill K (16 * j + 3) 13 c) (16 * j + 2) (S 32)), B) ∧ Same b h h2 := by
  intro nn
  have t13 : (13 : Int32).toInt = 13 := by decide
  induction nn with
  | zero =>
    intro k h hk M
    obtain rfl : k = 13 := by omega
    obtain ⟨h1, e1, M1, S1⟩ := M.wrR (i := 16 * j + 2) (by decide) (by decide) rfl (show 16 * j + 2 < 5725 by omega) (S 32)
    refine ⟨h1, ?_, M1, S1⟩
    rw [Ref_puts_2_e, if_pos (by decide), M.r2, place_p, show gI h 12 b 32 = some (S 32) from M.i32]
    simp only [Option.bind_some]
    rw [show nI (16 * j) + (2 : Int32) = nI (16 * j + 2) from nI_add _ 2, e1]
    rfl
  | succ nn ih =>
    intro k h hk M
    have tk := tin (show k < 2 ^ 31 by omega)
    obtain ⟨h1, e1, M1, S1⟩ := M.wrR (i := 16 * j + 3 + k) (by decide) (by decide) rfl (show 16 * j + 3 + k < 5725 by omega) (c k)
    rw [fill_s K (16 * j + 3) k c] at M1
    obtain ⟨h2, e2, M2, S2⟩ := ih (k + 1) h1 (by omega) M1
    refine ⟨h2, ?_, M2, S1.tr S2⟩
    rw [Ref_puts_2_e, if_neg (fun z => by have := tile.mp z; omega), M.r2, place_p, M.r29]
    simp only [Option.bind_some]
    rw [show aI h 0 (b + 1 + 13) (nI k) = some (c k) from (M.rd (r := 13) (by decide) (by decide) (show k < 13 by omega)).trans (congrArg some (show rs A 1 (fill K (16 * j + 3) k c) 13 k = c k by rw [rs_ne (by decide), hc]))]
    simp only [Option.bind_some]
    rw [show nI (16 * j) + (3 : Int32) = nI (16 * j + 3) from nI_add _ 3, nI_add, e1]
    simp only [Option.bind_some]
    rw [nI_p1]
    exact e2
theorem puts_p {j : Nat} (hj : j < 6) (M : Mo b h σ) : ∃ h2, Ref_puts b (nI j) h = some h2 ∧ Mo b h2 (pts σ j) ∧ Same b h h2 := by
  obtain ⟨h2, e2, M2, S2⟩ := puts_l (b := b) (S := σ.1) (A := σ.2.1) (B := σ.2.2) (K := σ.2.1 1) hj rfl 13 0 h rfl (by rw [fill_0, rs_self]; exact M)
  refine ⟨h2, ?_, M2, S2⟩
  unfold Ref_puts
  rw [if_pos M.o]
  exact e2
theorem lesser_p (x y : Int32) (h : am_H) : Ref_lesser x y h = some (if x < y then x else y) := by
  unfold Ref_lesser
  by_cases q : x < y
  · rw [if_pos q]; first | rw [if_neg (fun z => by have := tile.mp z; have := tilt.mp q; omega)] | rw [if_pos q]
  · rw [if_neg q]; first | rw [if_pos (tile.mpr (by have := mt tilt.mpr q; omega))] | rw [if_neg q]
theorem stepsKept_p {n j : Nat} (hn : σ.2.1 1 96 = nI n) (hn6 : n ≤ 6) (hj : j < n) (hmj : σ.2.1 1 (16 * j) = nI m) (hm1 : 1 ≤ m) (hm13 : m ≤ 13) (hw : WK (σ.2.1 1)) (hb : Bo σ) {u : Nat} (hu : u ≤ 16) (h39 : σ.1 39 = nI u) (hc : cstv (σ.2.1 1) (hpo (σ.2.1 1) j m) = true) (M : Mo b h σ) : ∃ h2 σ2, Ref_stepsKept b (nI j) h = some (clp (σ.2.1 1 (16 * j + 1)), h2) ∧ Mo b h2 σ2 ∧ Lk FX RX ((kps σ u (nI 0)).1, rs (kps σ u (nI 0)).2.1 1 (stK (σ.2.1 1) j m), σ.2.2) σ2 ∧ Bo σ2 ∧ Same b h h2 := by
  have hcs : canv (trnv (σ.2.1 1) (hpo (σ.2.1 1) j m)) m = false ∧ canv (snkv (σ.2.1 1) (hpo (σ.2.1 1) j m)) m = false := by
    have hc2 := Bool.and_eq_true_iff.mp hc
    exact stk_no (p := (hpo (σ.2.1 1) j m)) (by simpa using hc2.1) (by simpa using hc2.2)
  obtain ⟨h1, σ1, e1, ⟨M1, L1, P1, S1⟩, eq1⟩ := takes2_p (by omega) hmj hm1 hm13 hb M
  have eK1 : σ1.2.1 1 = σ.2.1 1 := L1.2.1 1 (by decide)
  obtain ⟨h2, σ2, e2, M2, L2, P2, S2⟩ := canStep_p (by rw [eK1]; exact hw) P1 M1
  rw [eK1, cstv_q eq1, hc] at e2
  have eK2 : σ2.2.1 1 = σ.2.1 1 := (kp_eq L2).trans eK1
  have eq2 : eqp (po σ2 m) (hpo (σ.2.1 1) j m) := by rw [po_eq L2]; exact eq1
  have hl : Lk FX RX σ σ2 := (L1.mono (by decide) (by decide)).tr (L2.mono (by decide) (by decide))
  obtain ⟨h3, e3, M3, S3⟩ := keeps_p (nI 0) hu ((hl.1 39 (by decide)).trans h39) M2
  have q31 := P2.1
  have hp3 : Ps (kps σ2 u (nI 0)) m := ⟨q31, P2.2.1, P2.2.2.1, P2.2.2.2⟩
  have eK3 : (kps σ2 u (nI 0)).2.1 1 = σ.2.1 1 := eK2
  have eP : po (kps σ2 u (nI 0)) m = po σ2 m := rfl
  obtain ⟨h4, σ4, e4, ⟨M4, L4, P4, S4⟩, eP4⟩ := steps_p (σ := kps σ2 u (nI 0)) (by rw [eK3]; exact hw) hp3 (by rw [eK3, eP, trnv_q eq2]; exact hcs.1) (by rw [eK3, eP, snkv_q eq2]; exact hcs.2) M3
  rw [eK3, eP] at eP4
  have eq4 : eqp (po σ4 m) (stp (σ.2.1 1) (hpo (σ.2.1 1) j m)) := by rw [eP4]; exact stp_q eq2
  have eK4 : σ4.2.1 1 = σ.2.1 1 := (wk_eq L4 (by decide)).trans eK3
  obtain ⟨h5, e5, M5, S5⟩ := puts_p (show j < 6 by omega) M4
  have M5 : Mo b h5 (σ4.1, rs σ4.2.1 1 (upd (fill (σ.2.1 1) (16 * j + 3) 13 (stp (σ.2.1 1) (hpo (σ.2.1 1) j m)).1) (16 * j + 2) (stp (σ.2.1 1) (hpo (σ.2.1 1) j m)).2.2.1), σ4.2.2) := by
    unfold pts at M5
    rw [eK4, show σ4.1 32 = (stp (σ.2.1 1) (hpo (σ.2.1 1) j m)).2.2.1 from congrArg (fun z => z.2.1) eq4.2.1, fill_q (s := σ4.2.1 13) (s2 := (stp (σ.2.1 1) (hpo (σ.2.1 1) j m)).1) eq4.1] at M5
    exact M5
  obtain ⟨h6, e6, M6, S6⟩ := M5.wrR (i := 16 * j + 1) (by decide) (by decide) rfl (show 16 * j + 1 < 5725 by omega) (clp (σ.2.1 1 (16 * j + 1)))
  have r5 : aI h5 0 (b + 1 + 1) (nI (16 * j + 1)) = some (σ.2.1 1 (16 * j + 1)) := (M5.rd (r := 1) (by decide) (by decide) (show 16 * j + 1 < 5725 by omega)).trans (congrArg some (by
    show rs σ4.2.1 1 (upd (fill (σ.2.1 1) (16 * j + 3) 13 (stp (σ.2.1 1) (hpo (σ.2.1 1) j m)).1) (16 * j + 2) (stp (σ.2.1 1) (hpo (σ.2.1 1) j m)).2.2.1) 1 (16 * j + 1) = _
    rw [rs_at, pk_un (by omega), fill_out (by omega)]))
  have r6 : aI h6 0 (b + 1 + 1) (nI (16 * j + 1)) = some (clp (σ.2.1 1 (16 * j + 1))) := (M6.rd (r := 1) (by decide) (by decide) (show 16 * j + 1 < 5725 by omega)).trans (congrArg some (by
    show rs σ4.2.1 1 (upd (upd (fill (σ.2.1 1) (16 * j + 3) 13 (stp (σ.2.1 1) (hpo (σ.2.1 1) j m)).1) (16 * j + 2) (stp (σ.2.1 1) (hpo (σ.2.1 1) j m)).2.2.1) (16 * j + 1) (clp (σ.2.1 1 (16 * j + 1)))) 1 (16 * j + 1) = _
    rw [rs_at]; exact if_pos rfl))
  refine ⟨h6, _, ?_, M6, ?_, ?_, S1.tr (S2.tr (S3.tr (S4.tr (S5.tr S6))))⟩
  · unfold Ref_stepsKept
    rw [if_pos M.o, isHeap_p (nI j) hn hn6 M]
    simp only [Option.bind_some]
    rw [if_neg (fun x => bI_0.mp x (decide_eq_true (show inN (nI j) n by unfold inN; rw [tin (show j < 2 ^ 31 by omega)]; omega))), e1]
    simp only [Option.bind_some]
    rw [e2]
    simp only [Option.bind_some]
    rw [if_neg (by decide), show Ref_keeps b (0 : Int32) h2 = _ from e3]
    simp only [Option.bind_some]
    rw [e4]
    simp only [Option.bind_some]
    rw [e5]
    simp only [Option.bind_some]
    rw [place_p, M5.r2]
    simp only [Option.bind_some]
    rw [show nI (16 * j) + (1 : Int32) = nI (16 * j + 1) from nI_add _ 1, r5]
    simp only [Option.bind_some]
    rw [lesser_p]
    simp only [Option.bind_some]
    rw [show (if (9999 : Int32) < σ.2.1 1 (16 * j + 1) + 1 then (9999 : Int32) else σ.2.1 1 (16 * j + 1) + 1) = clp (σ.2.1 1 (16 * j + 1)) from rfl, e6]
    simp only [Option.bind_some]
    rw [M6.r2]
    simp only [Option.bind_some]
    rw [r6]
    rfl
  · have hk : Lk FX RX (kps σ u (nI 0)) (kps σ2 u (nI 0)) := by
      have k1 := hl.bu 39 (nI (kpu u + 1))
      unfold kps
      rw [eK2, show σ2.2.1 16 = σ.2.1 16 from hl.2.1 16 (by decide)]
      exact ⟨k1.1, fun q hq => by
        show rs σ2.2.1 16 _ q = rs σ.2.1 16 _ q
        by_cases e : q = 16
        · subst e; rw [rs_at, rs_at]
        · rw [rs_ne e, rs_ne e]; exact hl.2.1 q hq, hl.2.2⟩
    have h4 : Lk FX RX (kps σ u (nI 0)) σ4 := hk.tr (L4.mono (by decide) (by decide))
    have := h4.br 1 (stK (σ.2.1 1) j m)
    exact this
  · exact P4.bo
theorem stepsKept_no {n j : Nat} (hn : σ.2.1 1 96 = nI n) (hn6 : n ≤ 6) (hj : j < n) (hmj : σ.2.1 1 (16 * j) = nI m) (hm1 : 1 ≤ m) (hm13 : m ≤ 13) (hw : WK (σ.2.1 1)) (hb : Bo σ) (hc : cstv (σ.2.1 1) (hpo (σ.2.1 1) j m) = false) (M : Mo b h σ) : ∃ h2 σ2, Ref_stepsKept b (nI j) h = some (-3, h2) ∧ Mo b h2 σ2 ∧ Lk FX RX σ σ2 ∧ Bo σ2 ∧ Same b h h2 := by
  obtain ⟨h1, σ1, e1, ⟨M1, L1, P1, S1⟩, eq1⟩ := takes2_p (by omega) hmj hm1 hm13 hb M
  have eK1 : σ1.2.1 1 = σ.2.1 1 := L1.2.1 1 (by decide)
  obtain ⟨h2, σ2, e2, M2, L2, P2, S2⟩ := canStep_p (by rw [eK1]; exact hw) P1 M1
  rw [eK1, cstv_q eq1, hc] at e2
  refine ⟨h2, σ2, ?_, M2, (L1.mono (by decide) (by decide)).tr (L2.mono (by decide) (by decide)), P2.bo, S1.tr S2⟩
  unfold Ref_stepsKept
  rw [if_pos M.o, isHeap_p (nI j) hn hn6 M]
  simp only [Option.bind_some]
  rw [if_neg (fun x => bI_0.mp x (decide_eq_true (show inN (nI j) n by unfold inN; rw [tin (show j < 2 ^ 31 by omega)]; omega))), e1]
  simp only [Option.bind_some]
  rw [e2]
  simp only [Option.bind_some]
  rw [if_pos (by decide)]
theorem noHeap_p {n : Nat} {x : Int32} (hn : σ.2.1 1 96 = nI n) (hn6 : n ≤ 6) (hx : ¬ inN x n) (M : Mo b h σ) : Ref_stepsKept b x h = some (-2, h) ∧ (∀ y z, Ref_swapsKept b x y z h = some (-2, h)) ∧ (∀ y, Ref_cutsKept b x y h = some (-2, h)) := by
  refine ⟨?_, fun y z => ?_, fun y => ?_⟩
  · unfold Ref_stepsKept
    rw [if_pos M.o, isHeap_p x hn hn6 M]
    simp only [Option.bind_some]
    rw [if_pos (bI_0.mpr (fun z => hx (of_decide_eq_true z)))]
  · unfold Ref_swapsKept
    rw [if_pos M.o, isHeap_p x hn hn6 M]
    simp only [Option.bind_some]
    rw [if_pos (bI_0.mpr (fun z => hx (of_decide_eq_true z)))]
  · unfold Ref_cutsKept
    rw [if_pos M.o, isHeap_p x hn hn6 M]
    simp only [Option.bind_some]
    rw [if_pos (bI_0.mpr (fun z => hx (of_decide_eq_true z)))]
theorem inNj {j n : Nat} (hj : j < n) (hn : n < 2 ^ 31) : inN (nI j) n := by unfold inN; rw [tin (show j < 2 ^ 31 by omega)]; omega
theorem kps_1 {u : Nat} {x : Int32} : (kps σ u x).2.1 1 = σ.2.1 1 := rfl
/-- what is kept behind two cards of heap j changed -/
def swK (K : Nat → Int32) (j p q : Nat) : Nat → Int32 := upd (upd K (16 * j + 3 + p) (K (16 * j + 3 + q))) (16 * j + 3 + q) (K (16 * j + 3 + p))
theorem swapsKept_p {n j u : Nat} (hn : σ.2.1 1 96 = nI n) (hn6 : n ≤ 6) (hj : j < n) {p q : Nat} (hmj : (σ.2.1 1) (16 * j) = nI m) (hm13 : m ≤ 13) (hp : p < m) (hq : q < m) (hpq : p ≠ q) (hu : u ≤ 16) (h39 : σ.1 39 = nI u) (M : Mo b h σ) : ∃ h2, Ref_swapsKept b (nI j) (nI p) (nI q) h = some (swK (σ.2.1 1) j p q (16 * j + 3), h2) ∧ Mo b h2 ((kps σ u (nI 1)).1, rs (kps σ u (nI 1)).2.1 1 (swK (σ.2.1 1) j p q), σ.2.2) ∧ Same b h h2 := by
  have tm := tin (show m < 2 ^ 31 by omega)
  have tp := tin (show p < 2 ^ 31 by omega)
  have tq := tin (show q < 2 ^ 31 by omega)
  have es : (nI m - (1 : Int32)).toInt = (m : Int) - 1 := by
    rw [show nI m - (1 : Int32) = nI m + (-1 : Int32) by rw [Int32.sub_eq_add_neg], hS_m, hS_t (by omega)]
  obtain ⟨h1, e1, M1, S1⟩ := keeps_p (nI 1) hu h39 M
  have M1 : Mo b h1 ((kps σ u (nI 1)).1, rs (kps σ u (nI 1)).2.1 1 (σ.2.1 1), σ.2.2) := by
    have e := rs_self (kps σ u (nI 1)).2.1 1
    rw [kps_1] at e
    rw [e]; exact M1
  have rd1 : ∀ (h : am_H) (S : Nat → Int32) (A : Nat → Nat → Int32) (B : Nat → Int64) (K : Nat → Int32), Mo b h (S, rs A 1 K, B) → ∀ i, i < 5725 → aI h 0 (b + 1 + 1) (nI i) = some (K i) := fun h S A B K M i hi => (M.rd (r := 1) (by decide) (by decide) hi).trans (congrArg some (show rs A 1 K 1 i = K i by rw [rs_at]))
  obtain ⟨h2, e2, M2, S2⟩ := M1.wrR (i := 16 * j + 3 + p) (by decide) (by decide) rfl (show 16 * j + 3 + p < 5725 by omega) (σ.2.1 1 (16 * j + 3 + q))
  obtain ⟨h3, e3, M3, S3⟩ := M2.wrR (i := 16 * j + 3 + q) (by decide) (by decide) rfl (show 16 * j + 3 + q < 5725 by omega) (σ.2.1 1 (16 * j + 3 + p))
  refine ⟨h3, ?_, M3, S1.tr (S2.tr S3)⟩
  unfold Ref_swapsKept
  rw [if_pos M.o, isHeap_p (nI j) hn hn6 M]
  simp only [Option.bind_some]
  rw [if_neg (fun x => bI_0.mp x (decide_eq_true (inNj hj (by omega)))), manyIn_p (show j < 6 by omega) M, hmj]
  simp only [Option.bind_some]
  rw [lies_p, lies_p]
  simp only [Option.bind_some]
  rw [if_neg (fun x => bI_0.mp x (decide_eq_true (by rw [tp, es, ti0]; omega))), if_neg (fun x => bI_0.mp x (decide_eq_true (by rw [tq, es, ti0]; omega))), if_neg (fun z => hpq ((nI_eq (by omega) (by omega)).mp z)), show Ref_keeps b (1 : Int32) h = _ from e1]
  simp only [Option.bind_some]
  rw [place_p, M1.r2]
  simp only [Option.bind_some]
  rw [show nI (16 * j) + (3 : Int32) = nI (16 * j + 3) from nI_add _ 3, nI_add, nI_add, rd1 h1 _ _ _ _ M1 _ (by omega), rd1 h1 _ _ _ _ M1 _ (by omega)]
  simp only [Option.bind_some]
  rw [e2]
  simp only [Option.bind_some]
  rw [M2.r2]
  simp only [Option.bind_some]
  rw [e3]
  simp only [Option.bind_some]
  rw [M3.r2]
  simp only [Option.bind_some]
  rw [rd1 h3 _ _ _ _ M3 _ (by omega)]
  rfl
theorem swapsKept_no {n j : Nat} {y z : Int32} (hn : σ.2.1 1 96 = nI n) (hn6 : n ≤ 6) (hj : j < n) (hmj : (σ.2.1 1) (16 * j) = nI m) (hm13 : m ≤ 13) (hyz : ¬ (inN y m ∧ inN z m ∧ y ≠ z)) (M : Mo b h σ) : Ref_swapsKept b (nI j) y z h = some (-1, h) := by
  have es : (nI m - (1 : Int32)).toInt = (m : Int) - 1 := by
    rw [show nI m - (1 : Int32) = nI m + (-1 : Int32) by rw [Int32.sub_eq_add_neg], hS_m, hS_t (by omega)]
  unfold Ref_swapsKept
  rw [if_pos M.o, isHeap_p (nI j) hn hn6 M]
  simp only [Option.bind_some]
  rw [if_neg (fun x => bI_0.mp x (decide_eq_true (inNj hj (by omega)))), manyIn_p (show j < 6 by omega) M, hmj]
  simp only [Option.bind_some]
  rw [lies_p, lies_p]
  simp only [Option.bind_some]
  rw [es, ti0]
  unfold inN at hyz
  by_cases q1 : 0 ≤ y.toInt ∧ y.toInt ≤ (m : Int) - 1
  · rw [if_neg (fun x => bI_0.mp x (decide_eq_true q1))]
    by_cases q2 : 0 ≤ z.toInt ∧ z.toInt ≤ (m : Int) - 1
    · rw [if_neg (fun x => bI_0.mp x (decide_eq_true q2))]
      by_cases q3 : y = z
      · rw [if_pos q3]
      · exact absurd ⟨by omega, by omega, q3⟩ hyz
    · rw [if_pos (bI_0.mpr (fun x => q2 (of_decide_eq_true x)))]
  · rw [if_pos (bI_0.mpr (fun x => q1 (of_decide_eq_true x)))]
theorem cutsKept_p {n j u : Nat} (hn : σ.2.1 1 96 = nI n) (hn6 : n ≤ 6) (hj : j < n) {p : Nat} (hmj : (σ.2.1 1) (16 * j) = nI m) (hm13 : m ≤ 13) (hp1 : 1 ≤ p) (hp : p ≤ m) (hu : u ≤ 16) (h39 : σ.1 39 = nI u) (M : Mo b h σ) : ∃ h2, Ref_cutsKept b (nI j) (nI p) h = some ((pts (snk (tks (kps σ u (nI 2)) j) m p) j).2.1 13 0, h2) ∧ Mo b h2 (pts (snk (tks (kps σ u (nI 2)) j) m p) j) ∧ Same b h h2 := by
  have tm := tin (show m < 2 ^ 31 by omega)
  have tp := tin (show p < 2 ^ 31 by omega)
  obtain ⟨h1, e1, M1, S1⟩ := keeps_p (nI 2) hu h39 M
  obtain ⟨h2, e2, M2, S2⟩ := takes_p (show j < 6 by omega) M1
  have q31 : (tks (kps σ u (nI 2)) j).1 31 = nI m := by
    show (kps σ u (nI 2)).2.1 1 (16 * j) = nI m
    rw [kps_1]; exact hmj
  obtain ⟨h3, e3, M3, S3⟩ := sinks_p m p q31 hm13 (by omega) M2
  obtain ⟨h4, e4, M4, S4⟩ := puts_p (show j < 6 by omega) M3
  refine ⟨h4, ?_, M4, S1.tr (S2.tr (S3.tr S4))⟩
  unfold Ref_cutsKept
  rw [if_pos M.o, isHeap_p (nI j) hn hn6 M]
  simp only [Option.bind_some]
  rw [if_neg (fun x => bI_0.mp x (decide_eq_true (inNj hj (by omega)))), manyIn_p (show j < 6 by omega) M, hmj]
  simp only [Option.bind_some]
  rw [lies_p]
  simp only [Option.bind_some]
  rw [if_neg (fun x => bI_0.mp x (decide_eq_true (by rw [tp, tm, ti1]; omega))), show Ref_keeps b (2 : Int32) h = _ from e1]
  simp only [Option.bind_some]
  rw [e2]
  simp only [Option.bind_some]
  rw [e3]
  simp only [Option.bind_some]
  rw [e4]
  simp only [Option.bind_some]
  rw [M4.r29]
  simp only [Option.bind_some]
  rw [show aI h4 0 (b + 1 + 13) (0 : Int32) = some ((pts (snk (tks (kps σ u (nI 2)) j) m p) j).2.1 13 0) from M4.rd (r := 13) (i := 0) (by decide) (by decide) (by decide)]
  rfl
theorem cutsKept_no {n j : Nat} {y : Int32} (hn : σ.2.1 1 96 = nI n) (hn6 : n ≤ 6) (hj : j < n) (hmj : (σ.2.1 1) (16 * j) = nI m) (hm13 : m ≤ 13) (hy : ¬ (1 ≤ y.toInt ∧ y.toInt ≤ m)) (M : Mo b h σ) : Ref_cutsKept b (nI j) y h = some (-1, h) := by
  have tm := tin (show m < 2 ^ 31 by omega)
  unfold Ref_cutsKept
  rw [if_pos M.o, isHeap_p (nI j) hn hn6 M]
  simp only [Option.bind_some]
  rw [if_neg (fun x => bI_0.mp x (decide_eq_true (inNj hj (by omega)))), manyIn_p (show j < 6 by omega) M, hmj]
  simp only [Option.bind_some]
  rw [lies_p]
  simp only [Option.bind_some]
  rw [if_pos (bI_0.mpr (fun x => by have := of_decide_eq_true x; rw [tm, ti1] at this; exact hy this))]
end Kep
