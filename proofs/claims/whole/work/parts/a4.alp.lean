/-! PURE: the reference goes along a clause of orders: what it tells is what the clause means -/
section Alp
variable {b : Nat} {f : Nat → Int32} {t n nh : Nat} {A : Nat → Nat → Int32} {ws : Nat → Int32} {live : Bool}
theorem osum_e (E : EvE f t n 2400 A) (HW : HWs A nh 1 ws) {s : PSt} {i : Nat} (hg : (smd f t 1 8 s).1 = true) (a : AtE f t n i s) : ∃ i2 v b2, i < i2 ∧ AtE f t n i2 (smd f t 1 8 s).2 ∧ sumv A (2400 + n) nh true live (2400 + i) false = some (v, 2400 + i2, b2) ∧ (live = true → (smV ws f t 1 8 s = none → b2 = true) ∧ ∀ x, smV ws f t 1 8 s = some x → b2 = false ∧ v = x.toInt64) := by
  have e : decide (¬ (1 : Int32) = 0) = true := by decide
  have H := sumv_e (live := live) (o := 1) E HW (Nat.le_refl 8)
  rw [e] at H
  obtain ⟨i2, hi2, a2, D2, V2⟩ := H s i hg a
  cases live with
  | false =>
    obtain ⟨v, ev⟩ := D2 false (Or.inl rfl)
    exact ⟨i2, v, false, hi2, a2, ev, fun z => absurd z (by decide)⟩
  | true =>
    obtain ⟨v, b2, ev, r⟩ := V2 rfl
    exact ⟨i2, v, b2, hi2, a2, ev, fun _ => r⟩
theorem otest_e (E : EvE f t n 2400 A) (HW : HWs A nh 1 ws) {S : CSt} {i : Nat} (hg : wdp f t 6 (ozT f t S) → (tss f t 1 8 (gow f t (ozT f t S))).1 = true) (a : AtE f t n i (ozT f t S)) : ∃ i2 tv b2, i ≤ i2 ∧ AtE f t n i2 (ozF f t S) ∧ (if cdA A (2400 + n) (2400 + i) = nI 4 then tsv (fun l => sumv A (2400 + n) nh true l) A (2400 + n) 9 live (2400 + i + 1) false else some (true, 2400 + i, false)) = some (tv, 2400 + i2, b2) ∧ (live = true → (tv && !b2) = decide (otV ws f t S = some true)) := by
  obtain ⟨d1, d2, d3, d4⟩ := E.cd a
  have hb1 := cdN_b (f := f) (t := t) (y := (ozT f t S).1)
  have dw : wdp f t 6 (ozT f t S) ↔ cdN f t (ozT f t S).1 = 4 := wdp_iff d3 (by decide) rfl
  unfold ozF otV
  by_cases q : wdp f t 6 (ozT f t S)
  · have hs1 : (ozT f t S).1 < t := tkd_y (f := f) (by have := q.1; omega)
    have e : decide (¬ (1 : Int32) = 0) = true := by decide
    have HT := tsv_e (o := 1) E HW (S := fun l => sumv A (2400 + n) nh true l) (fun d hd l => by
      have H := sumv_e (live := l) (o := 1) E HW (D := 8) hd
      rw [e] at H
      exact H) 8 (Nat.le_refl _)
    obtain ⟨i2, hi2, a2, D2, v, b2, ev, N2, Y2⟩ := HT (gow f t (ozT f t S)) (i + 1) (hg q) (E.nx a hs1)
    rw [if_pos q, if_pos (by rw [d1, dw.mp q]), show 2400 + i + 1 = 2400 + (i + 1) by omega]
    cases live with
    | false =>
      obtain ⟨w, ew⟩ := D2 false false (Or.inl rfl)
      exact ⟨i2, w, false, by omega, a2, ew, fun z => absurd z (by decide)⟩
    | true =>
      refine ⟨i2, v, b2, by omega, a2, ev, fun _ => ?_⟩
      rw [if_pos q]
      cases hv : tsV ws f t 1 8 (gow f t (ozT f t S)) with
      | none => rw [N2 hv]; simp
      | some x =>
        obtain ⟨y1, y2⟩ := Y2 x hv
        rw [y1, y2]
        cases x <;> simp
  · rw [if_neg q, if_neg (fun z => by rw [d1] at z; exact q (dw.mpr ((nI_eq (by omega) (by decide)).mp z)))]
    refine ⟨i, true, false, Nat.le_refl _, a, rfl, fun _ => ?_⟩
    rw [if_neg q]; rfl
abbrev FA : List Nat := [21, 22, 23, 24, 48, 49, 50, 51]
/-- what is told of the sums so far -/
def Sgd (ws f : Nat → Int32) (t : Nat) (S : CSt) (live : Bool) (k : Nat) (sa : Bool) (B : Nat → Int64) : Prop := live = true → (sa = true ↔ ∀ i, i < k → ¬ osV ws f t S i = none) ∧ ∀ i x, i < k → osV ws f t S i = some x → B i = x.toInt64
theorem Sgd.s {S : CSt} {k : Nat} {sa b2 : Bool} {B : Nat → Int64} {v : Int64} (H : Sgd ws f t S live k sa B) (hv : live = true → (osV ws f t S k = none → b2 = true) ∧ ∀ x, osV ws f t S k = some x → b2 = false ∧ v = x.toInt64) : Sgd ws f t S live (k + 1) (sa && !b2) (vp_updL B k v) := by
  intro hl
  obtain ⟨h1, h2⟩ := H hl
  obtain ⟨v1, v2⟩ := hv hl
  constructor
  · constructor
    · intro z i hi
      obtain ⟨z1, z2⟩ := (Bool.and_eq_true _ _).mp z
      by_cases e : i = k
      · subst e
        intro y
        rw [v1 y] at z2
        exact absurd z2 (by decide)
      · exact h1.mp z1 i (by omega)
    · intro z
      rw [Bool.and_eq_true]
      refine ⟨h1.mpr (fun i hi => z i (by omega)), ?_⟩
      cases hx : osV ws f t S k with
      | none => exact absurd hx (z k (by omega))
      | some x => rw [(v2 x hx).1]; rfl
  · intro i x hi hx
    by_cases e : i = k
    · subst e
      show vp_updL B i v i = x.toInt64
      unfold vp_updL
      rw [if_pos rfl]
      exact (v2 x hx).2
    · show vp_updL B k v i = x.toInt64
      unfold vp_updL
      rw [if_neg e]
      exact h2 i x (by omega) hx
theorem along_p {S0 : Nat → Int32} {B : Nat → Int64} {h : am_H} (E : EvE f t n 2400 A) (HW : HWs A nh 1 ws) (hn : A 1 96 = nI nh) (hn6 : nh ≤ 6) {S : CSt} {i : Nat} (hg : (rcl f t 1 S).1 = true) (a : AtE f t n i S.1) (h47 : S0 47 = nI (2400 + i)) (hb : ∃ br : Bool, S0 23 = nI (bN (br = true))) (M : Mo b h (S0, A, B)) : ∃ h2 S2 B2 i2 kd, Ref_goesAlong b (nI (2400 + n)) (bI live) h = some h2 ∧ Mo b h2 (S2, A, B2) ∧ Same b h h2 ∧ (∀ k, k ∉ FA → S2 k = S0 k) ∧ (∃ br : Bool, S2 23 = nI (bN (br = true))) ∧ S2 48 = nI (otm f t S) ∧ kd < 3 ∧ amg f t 0 S.1 = nI kd ∧ S2 49 = nI (pmw 0 kd) ∧ i < i2 ∧ AtE f t n i2 (rcl f t 1 S).2.1 ∧ S2 21 = nI (2400 + i2 + 1) ∧ (live = true → S2 51 = bI (decide (otV ws f t S = some true))) ∧ ∃ sa, S2 50 = bI sa ∧ Sgd ws f t S live (if kd = 0 then 1 else if kd = 1 then 3 else 2) sa B2 := by
  have er : rcl f t 1 S = ror f t 1 S := if_neg (by decide)
  rw [er] at hg ⊢
  obtain ⟨⟨r1, r2, r3, r4, r5, r6, r7, r8, r9⟩, rF⟩ := ror_good hg
  rw [rF]
  obtain ⟨br0, h23⟩ := hb
  obtain ⟨c1, c2, c3, c4⟩ := E.cd a
  have hcb := cdN_b (f := f) (t := t) (y := S.1.1)
  obtain ⟨kd, hkd, ek, ec⟩ := amg_ex c3 (w := 0) (by decide) r2
  have hkd : kd < 3 := hkd
  have hst : S.1.1 < t := by
    refine Nat.lt_of_not_le (fun y => ?_)
    have := cdN_t (f := f) y
    have : 1 ≤ pmw 0 kd := (wd_lk 0 (by decide) kd hkd).2.2.1
    omega
  have a1 := E.nx a hst
  have hn4 := E.1
  have hnG := E.2.1
  -- the head
  obtain ⟨k1, e1, M1, T1⟩ := M.w24 (bI true)
  obtain ⟨k2, e2, M2, T2⟩ := M1.w22 (nI (2400 + n))
  obtain ⟨k3, e3, M3, T3⟩ := M2.w21 (nI (2400 + i))
  have M3' : Mo b k3 (evS (upd (upd S0 24 (bI true)) 22 (nI (2400 + n)), A, B) (2400 + i) br0) := by
    have e : evS (upd (upd S0 24 (bI true)) 22 (nI (2400 + n)), A, B) (2400 + i) br0 = (upd (upd (upd S0 24 (bI true)) 22 (nI (2400 + n))) 21 (nI (2400 + i)), A, B) := by
      unfold evS
      refine Prod.ext ?_ rfl
      show upd (upd (upd (upd S0 24 (bI true)) 22 (nI (2400 + n))) 21 (nI (2400 + i))) 23 (nI (bN (br0 = true))) = upd (upd (upd S0 24 (bI true)) 22 (nI (2400 + n))) 21 (nI (2400 + i))
      rw [← show upd (upd (upd S0 24 (bI true)) 22 (nI (2400 + n))) 21 (nI (2400 + i)) 23 = nI (bN (br0 = true)) from h23, upd_self]
    rw [e]; exact M3
  obtain ⟨k4, e4, M4, T4⟩ := ev_up (x := nI (pmw 0 kd)) (by decide) (by decide) (M3'.w49 (nI (pmw 0 kd)))
  obtain ⟨k5, e5, M5, T5⟩ := ev_go M4 (2400 + (i + 1))
  obtain ⟨k6, e6, M6, T6⟩ := ev_up (x := bI true) (by decide) (by decide) (M5.w50 (bI true))
  have T := T1.tr (T2.tr (T3.tr (T4.tr (T5.tr T6))))
  generalize hSS : upd (upd (upd S0 24 (bI true)) 22 (nI (2400 + n))) 49 (nI (pmw 0 kd)) = SS at M6
  have q22 : SS 22 = nI (2400 + n) := by rw [← hSS]; rfl
  have q24 : SS 24 = bI true := by rw [← hSS]; rfl
  have q49 : SS 49 = nI (pmw 0 kd) := by rw [← hSS]; rfl
  have qo : ∀ k, k ∉ FA → SS k = S0 k := fun k hk => by
    simp only [List.mem_cons, List.not_mem_nil, or_false, not_or] at hk
    rw [← hSS]
    unfold upd
    rw [if_neg hk.2.2.2.2.2.1, if_neg hk.2.1, if_neg hk.2.2.2.1]
  -- all of it, from the number of sums on
  have head : ∀ r, Ref_goesAlong_76 b (bI live) (nI (if kd = 0 then 1 else if kd = 1 then 3 else 2)) (nI 0) k6 = r → Ref_goesAlong b (nI (2400 + n)) (bI live) h = r := fun r hr => by
    unfold Ref_goesAlong Ref_goesAlong_72
    rw [if_pos M.o, show pV h 12 b 24 (.int (1 : Int32)) = _ from e1]
    simp only [Option.bind_some]
    rw [e2]
    simp only [Option.bind_some]
    rw [show gI k2 12 b 47 = some (nI (2400 + i)) from M2.i47.trans (congrArg some h47)]
    simp only [Option.bind_some]
    rw [e3]
    simp only [Option.bind_some]
    rw [ev21 M3']
    simp only [Option.bind_some]
    rw [show Ref_codeAt b (nI (2400 + i)) k3 = some (nI (pmw 0 kd)) from (codeAt_p (σ := (upd (upd S0 24 (bI true)) 22 (nI (2400 + n)), A, B)) (ge := 2400 + n) rfl (by omega) (by omega) (2400 + i) (by omega) M3').trans (congrArg some (by rw [show cdA (upd (upd S0 24 (bI true)) 22 (nI (2400 + n)), A, B).2.1 (2400 + n) (2400 + i) = nI (cdN f t S.1.1) from c1, ec]))]
    simp only [Option.bind_some]
    rw [e4]
    simp only [Option.bind_some]
    rw [ev21 M4]
    simp only [Option.bind_some]
    rw [nI_p1, show 2400 + i + 1 = 2400 + (i + 1) by omega, e5]
    simp only [Option.bind_some]
    rw [show pV k5 12 b 50 (.int (1 : Int32)) = _ from e6]
    simp only [Option.bind_some]
    rw [show gI k6 12 b 49 = some (nI (pmw 0 kd)) from M6.i49.trans (congrArg some q49)]
    simp only [Option.bind_some]
    rw [← hr]
    rcases (show kd = 0 ∨ kd = 1 ∨ kd = 2 by omega) with rfl | rfl | rfl
    · rw [if_pos (by decide)]; rfl
    · rw [if_neg (by decide), if_neg (by decide)]; rfl
    · rw [if_neg (by decide), if_pos (by decide)]; rfl
  -- from the end of the sums on
  have tail : ∀ (h3 : am_H) (B3 : Nat → Int64) (sa br : Bool) (iE cnt : Nat), cnt = (if kd = 0 then 1 else if kd = 1 then 3 else 2) → i < iE → AtE f t n iE (ozE f t S) → Mo b h3 (evS (upd SS 50 (bI sa), A, B3) (2400 + iE) br) → Same b h h3 → Sgd ws f t S live cnt sa B3 → Ref_goesAlong b (nI (2400 + n)) (bI live) h = Ref_goesAlong_76 b (bI live) (nI cnt) (nI cnt) h3 → ∃ h2 S2 B2 i2 kd, Ref_goesAlong b (nI (2400 + n)) (bI live) h = some h2 ∧ Mo b h2 (S2, A, B2) ∧ Same b h h2 ∧ (∀ k, k ∉ FA → S2 k = S0 k) ∧ (∃ br : Bool, S2 23 = nI (bN (br = true))) ∧ S2 48 = nI (otm f t S) ∧ kd < 3 ∧ amg f t 0 S.1 = nI kd ∧ S2 49 = nI (pmw 0 kd) ∧ i < i2 ∧ AtE f t n i2 (ozF f t S) ∧ S2 21 = nI (2400 + i2 + 1) ∧ (live = true → S2 51 = bI (decide (otV ws f t S = some true))) ∧ ∃ sa, S2 50 = bI sa ∧ Sgd ws f t S live (if kd = 0 then 1 else if kd = 1 then 3 else 2) sa B2 := fun h3 B3 sa br iE cnt hc hiE aE M3 S3 G3 hh => by
    obtain ⟨d1, d2, d3, d4⟩ := E.cd aE
    have hb1 := cdN_b (f := f) (t := t) (y := (ozE f t S).1)
    have dw : wdp f t 5 (ozE f t S) ↔ cdN f t (ozE f t S).1 = 25 := wdp_iff d3 (by decide) rfl
    have hT : ∃ iT, iE ≤ iT ∧ AtE f t n iT (ozT f t S) ∧ ((cdA A (2400 + n) (2400 + iE) = nI 25 ∧ 2400 + iT = 2400 + iE + 2 ∧ A 1 (2925 + (2400 + iE + 1)) = nI (otm f t S)) ∨ (¬ cdA A (2400 + n) (2400 + iE) = nI 25 ∧ 2400 + iT = 2400 + iE ∧ otm f t S = 1)) := by
      unfold ozT otm
      by_cases q : wdp f t 5 (ozE f t S)
      · have hs1 : (ozE f t S).1 < t := tkd_y (f := f) (by have := q.1; omega)
        have b1 := E.nx aE hs1
        obtain ⟨x1, x2, x3⟩ := r4 q
        have hs2 : (gow f t (ozE f t S)).1 < t := tkd_y (f := f) (by omega)
        refine ⟨iE + 1 + 1, by omega, by rw [if_pos q]; exact E.nx b1 hs2, Or.inl ⟨by rw [d1, dw.mp q], by omega, ?_⟩⟩
        rw [if_pos q, show 2400 + iE + 1 = 2400 + (iE + 1) by omega, E.vl b1 hs2]
        have := nmv_r (s := gow f t (ozE f t S)) x1
        exact congrArg nI (by omega)
      · refine ⟨iE, Nat.le_refl _, by rw [if_neg q]; exact aE, Or.inr ⟨fun z => by rw [d1] at z; exact q (dw.mpr ((nI_eq (by omega) (by decide)).mp z)), rfl, by rw [if_neg q]⟩⟩
    obtain ⟨iT, hiT, aT, hT⟩ := hT
    obtain ⟨i2, tv, b2, hi2, a2, ev, ht⟩ := otest_e (live := live) E HW (fun z => (r6 z).1) aT
    obtain ⟨h4, e4, M4, S4⟩ := along_end (live := live) (cnt := cnt) (S := upd SS 50 (bI sa)) q22 (by omega) q24 hn hn6 d4 M3 (E.cd aT).2.2.2 hT ev
    refine ⟨h4, _, B3, i2, kd, hh.trans e4, M4, S3.tr S4, fun k hk => ?_, ⟨b2, rfl⟩, rfl, hkd, ek, q49, by omega, a2, rfl, fun hl => ?_, sa, rfl, by rw [← hc]; exact G3⟩
    · rw [← qo k hk]
      simp only [List.mem_cons, List.not_mem_nil, or_false, not_or] at hk
      show upd (upd (upd (upd (upd SS 50 _) 48 _) 51 _) 21 _) 23 _ k = SS k
      unfold upd
      rw [if_neg hk.2.2.1, if_neg hk.1, if_neg hk.2.2.2.2.2.2.2, if_neg hk.2.2.2.2.1, if_neg hk.2.2.2.2.2.2.1]
    · rw [← ht hl]; rfl
  -- the sums
  have G0 : Sgd ws f t S live 0 true B := fun _ => ⟨⟨fun _ i hi => absurd hi (Nat.not_lt_zero i), fun _ => rfl⟩, fun i x hi => absurd hi (Nat.not_lt_zero i)⟩
  obtain ⟨i0, v0, b0, hi0, ai0, es0, r0⟩ := osum_e (live := live) E HW (r3 0 (Or.inl rfl)).1 a1
  obtain ⟨m0, x0, N0, U0⟩ := along_97 (live := live) (k := 0) (cnt := if kd = 0 then 1 else if kd = 1 then 3 else 2) (S := SS) q22 (by omega) q24 hn hn6 (by decide) M6 es0
  have Z0 : Ref_goesAlong_76 b (bI live) (nI (if kd = 0 then 1 else if kd = 1 then 3 else 2)) (nI 0) k6 = Ref_goesAlong_97 b (bI live) (nI (if kd = 0 then 1 else if kd = 1 then 3 else 2)) (nI 0) k6 := by
    rw [Ref_goesAlong_76_e]
    rcases (show kd = 0 ∨ kd = 1 ∨ kd = 2 by omega) with rfl | rfl | rfl
    · rw [if_neg (by decide), if_pos (by decide)]
    · rw [if_neg (by decide), if_pos (by decide)]
    · rw [if_neg (by decide), if_pos (by decide)]
  have G1 := G0.s (k := 0) r0
  by_cases q0 : kd = 0
  · subst q0
    have eE : ozE f t S = oz0 f t S := by unfold ozE; rw [ek, if_neg (by decide), if_neg (by decide)]
    exact tail m0 _ _ _ i0 1 rfl (by omega) (by rw [eE]; exact ai0) N0 (T.tr U0) G1 (head _ (Z0.trans x0))
  · have n0 : ¬ amg f t 0 S.1 = 0 := fun z => q0 ((nI_eq (b := 0) (by omega) (by decide)).mp (ek.symm.trans z))
    have hz0 : (oz0 f t S).1 < t := by
      by_cases q1 : kd = 1
      · have := (r8 (by rw [ek, q1]; rfl)).1.1
        exact tkd_y (f := f) (by omega)
      · have := (r9 (by rw [ek, show kd = 2 by omega]; rfl)).1
        exact tkd_y (f := f) (by omega)
    have ai0 : AtE f t n i0 (oz0 f t S) := ai0
    have b1 := E.nx ai0 hz0
    obtain ⟨i1, v1, b1', hi1, ai1, es1, r1'⟩ := osum_e (live := live) E HW (r3 1 (Or.inr (Or.inl ⟨rfl, n0⟩))).1 b1
    obtain ⟨w0, y0, W0, V0⟩ := ev_go N0 (2400 + (i0 + 1))
    obtain ⟨m1, x1, N1, U1⟩ := along_97 (live := live) (k := 1) (cnt := if kd = 0 then 1 else if kd = 1 then 3 else 2) (S := SS) q22 (by omega) q24 hn hn6 (by decide) W0 es1
    have Z1 : Ref_goesAlong_76 b (bI live) (nI (if kd = 0 then 1 else if kd = 1 then 3 else 2)) (nI 1) m0 = Ref_goesAlong_97 b (bI live) (nI (if kd = 0 then 1 else if kd = 1 then 3 else 2)) (nI 1) w0 := by
      rw [Ref_goesAlong_76_e]
      have e1 : ¬ nI (if kd = 0 then 1 else if kd = 1 then 3 else 2) ≤ nI 1 := by
        rcases (show kd = 1 ∨ kd = 2 by omega) with rfl | rfl <;> decide
      rw [if_neg e1, if_neg (by decide), ev21 N0]
      simp only [Option.bind_some]
      rw [nI_p1, show 2400 + i0 + 1 = 2400 + (i0 + 1) by omega, y0]
      rfl
    have G2 := G1.s (k := 1) r1'
    by_cases q1 : kd = 1
    · subst q1
      have n1 : amg f t 0 S.1 = 1 := ek
      have hz1 : (oz1 f t S).1 < t := tkd_y (f := f) (by have := (r8 n1).2.1; omega)
      have ai1 : AtE f t n i1 (oz1 f t S) := ai1
      have b2 := E.nx ai1 hz1
      obtain ⟨i2, v2, b2', hi2, ai2, es2, r2'⟩ := osum_e (live := live) E HW (r3 2 (Or.inr (Or.inr ⟨rfl, n1⟩))).1 b2
      obtain ⟨w1, y1, W1, V1⟩ := ev_go N1 (2400 + (i1 + 1))
      obtain ⟨m2, x2, N2, U2⟩ := along_97 (live := live) (k := 2) (cnt := 3) (S := SS) q22 (by omega) q24 hn hn6 (by decide) W1 es2
      have Z2 : Ref_goesAlong_76 b (bI live) (nI 3) (nI 2) m1 = Ref_goesAlong_97 b (bI live) (nI 3) (nI 2) w1 := by
        rw [Ref_goesAlong_76_e, if_neg (by decide), if_neg (by decide), ev21 N1]
        simp only [Option.bind_some]
        rw [nI_p1, show 2400 + i1 + 1 = 2400 + (i1 + 1) by omega, y1]
        rfl
      have G3 := G2.s (k := 2) r2'
      have eE : ozE f t S = oz2 f t S := by unfold ozE; rw [if_pos n1]
      exact tail m2 _ _ _ i2 3 rfl (by omega) (by rw [eE]; exact ai2) N2 (T.tr (U0.tr (V0.tr (U1.tr (V1.tr U2))))) G3 (head _ (Z0.trans (x0.trans (Z1.trans (x1.trans (Z2.trans x2))))))
    · obtain rfl : kd = 2 := by omega
      have n2 : amg f t 0 S.1 = 2 := ek
      have eE : ozE f t S = oz1 f t S := by unfold ozE; rw [if_neg (by rw [n2]; decide), if_pos n2]
      exact tail m1 _ _ _ i1 2 rfl (by omega) (by rw [eE]; exact ai1) N1 (T.tr (U0.tr (V0.tr U1))) G2 (head _ (Z0.trans (x0.trans (Z1.trans x1))))
end Alp
