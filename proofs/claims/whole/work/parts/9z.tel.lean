/-! PURE: the reference tells, ends, turns, sinks, sticks -/
section Tel
variable {b : Nat} {σ : am_S}
theorem ev25 {h : am_H} {g : Nat} {br hh it : Bool} (M : Mo b h (evS (tS σ hh it) g br)) : gI h 12 b 25 = some (bI hh) := by rw [M.i25, ← nbI]; rfl
theorem ev_hh {h : am_H} {g : Nat} {br hh it : Bool} (M : Mo b h (evS (tS σ hh it) g br)) (x : Bool) : ∃ h2, pV h 12 b 25 (.int (bI x)) = some h2 ∧ Mo b h2 (evS (tS σ x it) g br) ∧ Same b h h2 := by
  obtain ⟨h2, e, M2, S2⟩ := M.w25 (bI x)
  rw [← nbI, tS_hh] at M2
  exact ⟨h2, e, M2, S2⟩
theorem ev_it {h : am_H} {g : Nat} {br hh it : Bool} (M : Mo b h (evS (tS σ hh it) g br)) (x : Bool) : ∃ h2, pV h 12 b 26 (.int (bI x)) = some h2 ∧ Mo b h2 (evS (tS σ hh x) g br) ∧ Same b h h2 := by
  obtain ⟨h2, e, M2, S2⟩ := M.w26 (bI x)
  rw [← nbI, tS_it] at M2
  exact ⟨h2, e, M2, S2⟩
/-- one clause told, then the next -/
theorem tells_301 {h : am_H} {g : Nat} {br hh it ho : Bool} {hd0 c : Int32} {told s : Int64} (M : Mo b h (evS (tS σ hh it) g br)) : ∃ h2, Ref_tells_301 b hd0 told c s (bI ho) h = Ref_tells_192 b hd0 (if c = hd0 ∧ ho = true then s else told) h2 ∧ Mo b h2 (evS (tS σ (hh || decide (c = hd0)) (it || (decide (c = hd0) && ho))) (g + 1) br) ∧ Same b h h2 := by
  obtain ⟨h1, e1, M1, S1⟩ := ev_hh M (hh || decide (c = hd0))
  have e322 : Ref_tells_301 b hd0 told c s (bI ho) h = if c = hd0 then (if bI ho = (0 : Int32) then Ref_tells_345 b hd0 told h1 else (pV h1 12 b 26 (.int (1 : Int32))).bind fun h62 => Ref_tells_345 b hd0 s h62) else Ref_tells_345 b hd0 told h1 := by
    have e : ∀ s0, s0 = bI (hh || decide (c = hd0)) → Ref_tells_322 b hd0 told c s (bI ho) s0 b h = if c = hd0 then (if bI ho = (0 : Int32) then Ref_tells_345 b hd0 told h1 else (pV h1 12 b 26 (.int (1 : Int32))).bind fun h62 => Ref_tells_345 b hd0 s h62) else Ref_tells_345 b hd0 told h1 := fun s0 hs => by
      rw [hs, Ref_tells_322_e, bI_z]
      simp only [Option.bind_some]
      rw [e1]
      rfl
    rw [Ref_tells_301_e, ev25 M]
    simp only [Option.bind_some]
    cases hh with
    | true => rw [if_neg (by decide), Ref_tells_317_e]; exact e 1 (by simp)
    | false =>
      rw [if_pos (by decide)]
      by_cases q : c = hd0
      · rw [if_pos q, Ref_tells_317_e]; exact e 1 (by simp [q])
      · rw [if_neg q]; exact e 0 (by simp [q])
  have e345 : ∀ (h3 : am_H) (t3 : Int64) (i3 : Bool), Mo b h3 (evS (tS σ (hh || decide (c = hd0)) i3) g br) → ∃ h4, Ref_tells_345 b hd0 t3 h3 = Ref_tells_192 b hd0 t3 h4 ∧ Mo b h4 (evS (tS σ (hh || decide (c = hd0)) i3) (g + 1) br) ∧ Same b h3 h4 := fun h3 t3 i3 M3 => by
    obtain ⟨h4, e4, M4, S4⟩ := ev_go M3 (g + 1)
    refine ⟨h4, ?_, M4, S4⟩
    rw [Ref_tells_345_e, ev21 M3]
    simp only [Option.bind_some]
    rw [nI_p1, e4]
    rfl
  rw [e322]
  by_cases q : c = hd0
  · rw [if_pos q]
    cases ho with
    | false =>
      obtain ⟨h4, e4, M4, S4⟩ := e345 h1 told it M1
      refine ⟨h4, ?_, by rw [Bool.and_false, Bool.or_false]; exact M4, S1.tr S4⟩
      rw [if_pos (by decide), if_neg (fun z => Bool.false_ne_true z.2)]
      exact e4
    | true =>
      obtain ⟨h2, e2, M2, S2⟩ := ev_it M1 true
      obtain ⟨h4, e4, M4, S4⟩ := e345 h2 s true M2
      refine ⟨h4, ?_, ?_, S1.tr (S2.tr S4)⟩
      · rw [if_neg (by decide), show pV h1 12 b 26 (.int (1 : Int32)) = _ from e2, if_pos ⟨q, rfl⟩]
        exact e4
      · rw [show (it || (decide (c = hd0) && true)) = true by simp [q]]; exact M4
  · rw [if_neg q, if_neg (fun z => q z.1)]
    obtain ⟨h4, e4, M4, S4⟩ := e345 h1 told it M1
    refine ⟨h4, e4, ?_, S1.tr S4⟩
    rw [show (it || (decide (c = hd0) && ho)) = it by simp [q]]; exact M4
theorem tells_l {ge : Nat} {hd0 : Int32} {S : Nat → Bool → EvR} {T : Bool → Nat → Bool → EvB} (hge : σ.1 22 = nI ge) (hge2 : ge ≤ 2800) (hS : ∀ hh it, OkF b (tS σ hh it) (Ref_sumOf 40 b 1) S) (hT : ∀ hh it, OkG b (tS σ hh it) (Ref_testOf 40 b) T) {vr : Int64} {hr ir br2 : Bool} {gr : Nat} : ∀ (f : Nat) (told : Int64) (hh it : Bool) (g : Nat) (br : Bool) (h : am_H), tlv S (T true) σ.2.1 ge hd0 f told hh it g br = some (vr, hr, ir, gr, br2) → Mo b h (evS (tS σ hh it) g br) → ∃ h2, Ref_tells_192 b hd0 told h = some (vr, h2) ∧ Mo b h2 (evS (tS σ hr ir) gr br2) ∧ Same b h h2 := by
  intro f
  induction f with
  | zero => intro told hh it g br h hv; exact absurd hv (by simp [tlv])
  | succ f ih =>
    intro told hh it g br h hv M
    simp only [tlv] at hv
    by_cases hg4 : g < 4000
    · rw [if_pos hg4] at hv
      have tg := tin (show g < 2 ^ 31 by omega)
      have te := tin (show ge < 2 ^ 31 by omega)
      have e22 : gI h 12 b 22 = some (nI ge) := by rw [M.i22]; exact congrArg some hge
      by_cases hgg : g < ge
      · rw [if_pos hgg] at hv
        unfold clv at hv
        by_cases hg : g < 2799
        · rw [if_pos hg] at hv
          obtain ⟨h1, e1, M1, S1⟩ := ev_br M false
          obtain ⟨h2, e2, M2, S2⟩ := ev_go M1 (g + 1)
          have e0 : Ref_tells_192 b hd0 told h = if cdA σ.2.1 ge g = (3 : Int32) then Ref_tells_243 b hd0 told (cdA σ.2.1 ge g) (1 : Int64) h2 else (Ref_sumOf 40 b (1 : Int32) h2).bind fun r21 => Ref_tells_243 b hd0 told (cdA σ.2.1 ge g) r21.1 r21.2 := by
            rw [Ref_tells_192_e, ev21 M, e22]
            simp only [Option.bind_some]
            rw [if_neg (fun z => by have := tile.mp z; omega), show Ref_codeAt b (nI g) h = _ from codeAt_p (σ := tS σ hh it) hge hge2 (by omega) g (by omega) M]
            simp only [Option.bind_some]
            rw [show pV h 12 b 23 (.int (0 : Int32)) = _ from e1]
            simp only [Option.bind_some]
            rw [ev21 M1]
            simp only [Option.bind_some]
            rw [nI_p1, e2]
            rfl
          -- behind the sum
          have aft : ∀ (s : Int64) (g1 : Nat) (sb : Bool) (h3 : am_H), Mo b h3 (evS (tS σ hh it) g1 sb) → Same b h h3 → g1 < 2799 → ∀ (t : Bool) (g2 : Nat) (b2 : Bool), (if cdA σ.2.1 ge g1 = nI 4 then T true (g1 + 1) false else some (true, g1, false)) = some (t, g2, b2) → tlv S (T true) σ.2.1 ge hd0 f (if cdA σ.2.1 ge g = hd0 ∧ (t && (!b2 && !sb)) = true then s else told) (hh || decide (cdA σ.2.1 ge g = hd0)) (it || (decide (cdA σ.2.1 ge g = hd0) && (t && (!b2 && !sb)))) (g2 + 1) b2 = some (vr, hr, ir, gr, br2) → ∃ h5, Ref_tells_243 b hd0 told (cdA σ.2.1 ge g) s h3 = some (vr, h5) ∧ Mo b h5 (evS (tS σ hr ir) gr br2) ∧ Same b h h5 := fun s g1 sb h3 M3 S3 hg1 t g2 b2 ht hv => by
            obtain ⟨h4, e4, M4, S4⟩ := ev_br M3 false
            obtain ⟨h5, x5, S5, y5, n5⟩ := passes_p (σ := tS σ hh it) hge hge2 (by omega) M4 (nI 4)
            have e243 : Ref_tells_243 b hd0 told (cdA σ.2.1 ge g) s h3 = if bI (decide (cdA σ.2.1 ge g1 = nI 4)) = (0 : Int32) then Ref_tells_272 b hd0 told (cdA σ.2.1 ge g) s (bI sb) h5 else (Ref_testOf 40 b (1 : Int32) h5).bind fun r34 => if r34.1 = (0 : Int32) then Ref_tells_277 b hd0 told (cdA σ.2.1 ge g) s (bI sb) (0 : Int32) r34.2 else Ref_tells_272 b hd0 told (cdA σ.2.1 ge g) s (bI sb) r34.2 := by
              rw [Ref_tells_243_e, ev23 M3]
              simp only [Option.bind_some]
              rw [show pV h3 12 b 23 (.int (0 : Int32)) = _ from e4]
              simp only [Option.bind_some]
              rw [show Ref_passes0 b (4 : Int32) h4 = _ from x5]
              rfl
            have e277 : ∀ (h6 : am_H), Mo b h6 (evS (tS σ hh it) g2 b2) → Same b h h6 → ∃ h7, Ref_tells_277 b hd0 told (cdA σ.2.1 ge g) s (bI sb) (bI t) h6 = some (vr, h7) ∧ Mo b h7 (evS (tS σ hr ir) gr br2) ∧ Same b h h7 := fun h6 M6 S6 => by
              obtain ⟨h7, e7, M7, S7⟩ := tells_301 (hd0 := hd0) (c := cdA σ.2.1 ge g) (told := told) (s := s) (ho := t && (!b2 && !sb)) M6
              obtain ⟨h8, e8, M8, S8⟩ := ih _ _ _ _ _ h7 hv M7
              refine ⟨h8, ?_, M8, S6.tr (S7.tr S8)⟩
              rw [← e8, ← e7, Ref_tells_277_e]
              cases t with
              | false => rw [if_pos (by decide), Ref_tells_300_e]; rfl
              | true =>
                rw [if_neg (by decide), ev23 M6]
                simp only [Option.bind_some]
                cases b2 with
                | true => rw [if_neg (by decide), Ref_tells_300_e]; rfl
                | false =>
                  rw [if_pos (by decide)]
                  cases sb with
                  | true => rw [if_neg (by decide), Ref_tells_300_e]; rfl
                  | false => rw [if_pos (by decide)]; rfl
            rw [e243]
            by_cases q4 : cdA σ.2.1 ge g1 = nI 4
            · rw [if_pos q4] at ht
              rw [if_neg (fun x => bI_0.mp x (decide_eq_true q4))]
              obtain ⟨h6, e6, M6, S6⟩ := hT hh it true _ _ _ _ _ h5 ht (y5 q4)
              rw [show Ref_testOf 40 b (1 : Int32) h5 = _ from e6]
              simp only [Option.bind_some]
              obtain ⟨h7, e7, r7⟩ := e277 h6 M6 (S3.tr (S4.tr (S5.tr S6)))
              refine ⟨h7, ?_, r7⟩
              rw [← e7]
              cases t with
              | false => rw [if_pos (by decide)]; rfl
              | true => rw [if_neg (by decide), Ref_tells_272_e]; rfl
            · rw [if_neg q4] at ht
              have ht := Option.some.inj ht
              have z1 : true = t := congrArg Prod.fst ht
              have z2 : g1 = g2 := congrArg (fun z => z.2.1) ht
              have z3 : false = b2 := congrArg (fun z => z.2.2) ht
              subst z1; subst z2; subst z3
              rw [if_pos (bI_0.mpr (fun z => q4 (of_decide_eq_true z))), n5 q4, Ref_tells_272_e]
              exact e277 h4 M4 (S3.tr S4)
          rw [e0]
          by_cases q3 : cdA σ.2.1 ge g = nI 3
          · rw [if_pos q3] at hv
            rw [if_pos (show cdA σ.2.1 ge g = (3 : Int32) from q3)]
            dsimp only at hv
            by_cases hg1 : g + 1 < 2799
            · rw [if_pos hg1] at hv
              cases hT2 : (if cdA σ.2.1 ge (g + 1) = nI 4 then T true (g + 1 + 1) false else some (true, g + 1, false)) with
              | none => rw [hT2] at hv; exact absurd hv (by simp)
              | some r =>
                obtain ⟨t, g2, b2⟩ := r
                rw [hT2] at hv
                dsimp only at hv
                exact aft 1 (g + 1) false h2 M2 (S1.tr S2) hg1 t g2 b2 hT2 hv
            · rw [if_neg hg1] at hv; exact absurd hv (by simp)
          · rw [if_neg q3] at hv
            rw [if_neg (show ¬ cdA σ.2.1 ge g = (3 : Int32) from q3)]
            cases hS2 : S (g + 1) false with
            | none => rw [hS2] at hv; exact absurd hv (by simp)
            | some r =>
              obtain ⟨s, g1, sb⟩ := r
              rw [hS2] at hv
              dsimp only at hv
              obtain ⟨h3, e3, M3, S3⟩ := hS hh it _ _ _ _ _ h2 hS2 M2
              rw [e3]
              simp only [Option.bind_some]
              by_cases hg1 : g1 < 2799
              · rw [if_pos hg1] at hv
                cases hT2 : (if cdA σ.2.1 ge g1 = nI 4 then T true (g1 + 1) false else some (true, g1, false)) with
                | none => rw [hT2] at hv; exact absurd hv (by simp)
                | some r =>
                  obtain ⟨t, g2, b2⟩ := r
                  rw [hT2] at hv
                  dsimp only at hv
                  exact aft s g1 sb h3 M3 (S1.tr (S2.tr S3)) hg1 t g2 b2 hT2 hv
              · rw [if_neg hg1] at hv; exact absurd hv (by simp)
        · rw [if_neg hg] at hv; exact absurd hv (by simp)
      · rw [if_neg hgg] at hv
        have hv := Option.some.inj hv
        have z1 : told = vr := congrArg Prod.fst hv
        have z2 : hh = hr := congrArg (fun z => z.2.1) hv
        have z3 : it = ir := congrArg (fun z => z.2.2.1) hv
        have z4 : g = gr := congrArg (fun z => z.2.2.2.1) hv
        have z5 : br = br2 := congrArg (fun z => z.2.2.2.2) hv
        subst z1; subst z2; subst z3; subst z4; subst z5
        refine ⟨h, ?_, M, Same.rf⟩
        rw [Ref_tells_192_e, ev21 M, e22]
        simp only [Option.bind_some]
        rw [if_pos (tile.mpr (by omega))]
    · rw [if_neg hg4] at hv; exact absurd hv (by simp)
theorem Mo.wrR {h : am_H} {S : Nat → Int32} {A : Nat → Nat → Int32} {B : Nat → Int64} {f : Nat → Int32} {r i : Nat} (M : Mo b h (S, rs A r f, B)) (hr : r < 23) (h21 : r ≠ 21) (h0 : mty r = 0) (hi : i < mlen r) (x : Int32) : ∃ h2, sI h (b + 1 + r) (nI i) x = some h2 ∧ Mo b h2 (S, rs A r (upd f i x), B) ∧ Same b h h2 := by
  obtain ⟨h2, e, M2, S2⟩ := M.wr hr h21 h0 hi x
  rw [show ((S, rs A r f, B) : am_S).2.1 = rs A r f from rfl, u2_rs] at M2
  exact ⟨h2, e, M2, S2⟩
set_option maxHeartbeats 1000000 in
theorem tells_p {h : am_H} {l sz m n : Nat} {br0 : Bool} (hf : σ.2.1 1 117 = nI l) (hl : l < 6) (hsz : σ.2.1 1 (118 + l) = nI sz) (hsz2 : sz ≤ 400) (h31 : σ.1 31 = nI m) (hm1 : 1 ≤ m) (hm13 : m ≤ 13) (h23 : σ.1 23 = nI (bN (br0 = true))) (hn : σ.2.1 1 96 = nI n) (hn6 : n ≤ 6) {vr : Int64} {hr ir br2 : Bool} {gr : Nat} {hd0 : Int32} {w0 : Int64} (htv : tellv (rs σ.2.1 11 (askr σ.2.1 m (σ.1 32) (σ.1 33))) (400 * l + sz) n hd0 w0 (400 * l) br0 = some (vr, hr, ir, gr, br2)) (M : Mo b h σ) : ∃ h2, Ref_tells b hd0 w0 h = some (vr, h2) ∧ Mo b h2 (evS (tS (upd (upd σ.1 24 (nI 0)) 22 (nI (400 * l + sz)), (rs σ.2.1 11 (askr σ.2.1 m (σ.1 32) (σ.1 33))), σ.2.2) hr ir) gr br2) ∧ Same b h h2 := by
  have tm := tin (show m < 2 ^ 31 by omega)
  have t1 : (1 : Int32).toInt = 1 := by decide
  have t2 : (2 : Int32).toInt = 2 := by decide
  have tl := tin (show l < 2 ^ 31 by omega)
  obtain ⟨h1, e1, M1, S1⟩ := M.w25 (nI 0)
  obtain ⟨h2, e2, M2, S2⟩ := M1.w26 (nI 0)
  have M2 : Mo b h2 (upd (upd σ.1 25 (nI 0)) 26 (nI 0), rs σ.2.1 11 (σ.2.1 11), σ.2.2) := by rw [rs_self]; exact M2
  obtain ⟨h3, e3, M3, S3⟩ := M2.wrR (i := 0) (by decide) (by decide) rfl (by decide) (if m ≤ 1 then -1 else σ.2.1 13 1)
  obtain ⟨h4, e4, M4, S4⟩ := M3.wrR (i := 1) (by decide) (by decide) rfl (by decide) (if m ≤ 2 then -1 else σ.2.1 13 2)
  obtain ⟨h5, e5, M5, S5⟩ := M4.wrR (i := 2) (by decide) (by decide) rfl (by decide) (σ.2.1 13 (m - 1))
  obtain ⟨h6, e6, M6, S6⟩ := M5.wrR (i := 3) (by decide) (by decide) rfl (by decide) (σ.1 32)
  obtain ⟨h7, e7, M7, S7⟩ := M6.wrR (i := 4) (by decide) (by decide) rfl (by decide) (σ.1 33)
  obtain ⟨h8, e8, M8, S8⟩ := M7.wrR (i := 5) (by decide) (by decide) rfl (by decide) (σ.2.1 1 113)
  obtain ⟨h9, e9, M9, S9⟩ := M8.wrR (i := 6) (by decide) (by decide) rfl (by decide) (σ.2.1 13 0)
  obtain ⟨h10, e10, M10, S10⟩ := M9.wrR (i := 7) (by decide) (by decide) rfl (by decide) (nI m)
  obtain ⟨h11, e11, M11, S11⟩ := M10.w24 (nI 0)
  obtain ⟨h12, e12, M12, S12⟩ := M11.w21 (nI (400 * l))
  obtain ⟨h13, e13, M13, S13⟩ := M12.w22 (nI (400 * l + sz))
  have M14 : Mo b h13 (evS (tS (upd (upd σ.1 24 (nI 0)) 22 (nI (400 * l + sz)), (rs σ.2.1 11 (askr σ.2.1 m (σ.1 32) (σ.1 33))), σ.2.2) false false) (400 * l) br0) := te_mo h23 M13
  have HS : ∀ live hh it, OkF b (tS (upd (upd σ.1 24 (nI 0)) 22 (nI (400 * l + sz)), (rs σ.2.1 11 (askr σ.2.1 m (σ.1 32) (σ.1 33))), σ.2.2) hh it) (Ref_sumOf 40 b (bI live)) (tsumv (rs σ.2.1 11 (askr σ.2.1 m (σ.1 32) (σ.1 33))) (400 * l + sz) n live) := fun live hh it => sumv_p (inO := false) rfl (by omega) rfl hn hn6
  obtain ⟨h14, e14, M15, S14⟩ := tells_l (σ := (upd (upd σ.1 24 (nI 0)) 22 (nI (400 * l + sz)), (rs σ.2.1 11 (askr σ.2.1 m (σ.1 32) (σ.1 33))), σ.2.2)) rfl (by omega) (fun hh it => HS true hh it) (fun hh it => test_p (σ := tS (upd (upd σ.1 24 (nI 0)) 22 (nI (400 * l + sz)), (rs σ.2.1 11 (askr σ.2.1 m (σ.1 32) (σ.1 33))), σ.2.2) hh it) rfl (by omega) (fun live => HS live hh it) 9 40 (by decide)) 402 w0 false false (400 * l) br0 h13 htv M14
  refine ⟨h14, ?_, M15, S1.tr (S2.tr (S3.tr (S4.tr (S5.tr (S6.tr (S7.tr (S8.tr (S9.tr (S10.tr (S11.tr (S12.tr (S13.tr S14))))))))))))⟩
  have g70 : Ref_tells_70 b hd0 w0 (if m ≤ 2 then -1 else σ.2.1 13 2) 1 (b + 1 + 11) h3 = some (vr, h14) := by
    unfold Ref_tells_70
    rw [show sI h3 (b + 1 + 11) (1 : Int32) _ = _ from e4]
    simp only [Option.bind_some]
    rw [M4.r27, M4.r29, show gI h4 12 b 31 = some (nI m) from M4.i31.trans (congrArg some h31)]
    simp only [Option.bind_some]
    rw [show nI m - (1 : Int32) = nI (m - 1) from pk_sub (a := m) (b := 1) (by omega), show aI h4 0 (b + 1 + 13) (nI (m - 1)) = some (σ.2.1 13 (m - 1)) from M4.rd (r := 13) (by decide) (by decide) (show m - 1 < 13 by omega)]
    simp only [Option.bind_some]
    rw [show sI h4 (b + 1 + 11) (2 : Int32) _ = _ from e5]
    simp only [Option.bind_some]
    rw [M5.r27, show gI h5 12 b 32 = some (σ.1 32) from M5.i32]
    simp only [Option.bind_some]
    rw [show sI h5 (b + 1 + 11) (3 : Int32) _ = _ from e6]
    simp only [Option.bind_some]
    rw [M6.r27, show gI h6 12 b 33 = some (σ.1 33) from M6.i33]
    simp only [Option.bind_some]
    rw [show sI h6 (b + 1 + 11) (4 : Int32) _ = _ from e7]
    simp only [Option.bind_some]
    rw [M7.r27, M7.r2]
    simp only [Option.bind_some]
    rw [show aI h7 0 (b + 1 + 1) (113 : Int32) = some (σ.2.1 1 113) from M7.rd (r := 1) (i := 113) (by decide) (by decide) (by decide)]
    simp only [Option.bind_some]
    rw [show sI h7 (b + 1 + 11) (5 : Int32) _ = _ from e8]
    simp only [Option.bind_some]
    rw [M8.r27, M8.r29]
    simp only [Option.bind_some]
    rw [show aI h8 0 (b + 1 + 13) (0 : Int32) = some (σ.2.1 13 0) from M8.rd (r := 13) (i := 0) (by decide) (by decide) (by decide)]
    simp only [Option.bind_some]
    rw [show sI h8 (b + 1 + 11) (6 : Int32) _ = _ from e9]
    simp only [Option.bind_some]
    rw [M9.r27, show gI h9 12 b 31 = some (nI m) from M9.i31.trans (congrArg some h31)]
    simp only [Option.bind_some]
    rw [show sI h9 (b + 1 + 11) (7 : Int32) _ = _ from e10]
    simp only [Option.bind_some]
    rw [show pV h10 12 b 24 (.int (0 : Int32)) = _ from e11]
    simp only [Option.bind_some]
    rw [M11.r2]
    simp only [Option.bind_some]
    rw [show aI h11 0 (b + 1 + 1) (117 : Int32) = some (nI l) from (M11.rd (r := 1) (i := 117) (by decide) (by decide) (by decide)).trans (congrArg some hf)]
    simp only [Option.bind_some]
    rw [show (400 : Int32) * nI l = nI (400 * l) from pk_mul 400 l, e12]
    simp only [Option.bind_some]
    rw [show gI h12 12 b 21 = some (nI (400 * l)) from M12.i21, M12.r2]
    simp only [Option.bind_some]
    rw [show aI h12 0 (b + 1 + 1) (117 : Int32) = some (nI l) from (M12.rd (r := 1) (i := 117) (by decide) (by decide) (by decide)).trans (congrArg some hf)]
    simp only [Option.bind_some]
    rw [show (118 : Int32) + nI l = nI (118 + l) from nI_add 118 l, show aI h12 0 (b + 1 + 1) (nI (118 + l)) = some (nI sz) from (M12.rd (r := 1) (by decide) (by decide) (show 118 + l < 5725 by omega)).trans (congrArg some hsz)]
    simp only [Option.bind_some]
    rw [nI_add, e13]
    exact e14
  have g46 : Ref_tells_46 b hd0 w0 (if m ≤ 1 then -1 else σ.2.1 13 1) 0 (b + 1 + 11) h2 = some (vr, h14) := by
    unfold Ref_tells_46
    rw [show sI h2 (b + 1 + 11) (0 : Int32) _ = _ from e3]
    simp only [Option.bind_some]
    rw [M3.r27, show gI h3 12 b 31 = some (nI m) from M3.i31.trans (congrArg some h31)]
    simp only [Option.bind_some]
    by_cases q : m ≤ 2
    · rw [if_pos (tile.mpr (by omega))]
      rw [if_pos q] at g70
      exact g70
    · rw [if_neg (fun z => q (by have := tile.mp z; omega)), M3.r29]
      simp only [Option.bind_some]
      rw [show aI h3 0 (b + 1 + 13) (2 : Int32) = some (σ.2.1 13 2) from M3.rd (r := 13) (i := 2) (by decide) (by decide) (by decide)]
      rw [if_neg q] at g70
      exact g70
  unfold Ref_tells
  rw [if_pos M.o, show pV h 12 b 25 (.int (0 : Int32)) = _ from e1]
  simp only [Option.bind_some]
  rw [show pV h1 12 b 26 (.int (0 : Int32)) = _ from e2]
  simp only [Option.bind_some]
  rw [M2.r2]
  simp only [Option.bind_some]
  rw [show aI h2 0 (b + 1 + 1) (117 : Int32) = some (nI l) from (M2.rd (r := 1) (i := 117) (by decide) (by decide) (by decide)).trans (congrArg some hf)]
  simp only [Option.bind_some]
  rw [if_neg (fun z => by have := congrArg Int32.toInt z; rw [tim1, tl] at this; omega), M2.r27, show gI h2 12 b 31 = some (nI m) from M2.i31.trans (congrArg some h31)]
  simp only [Option.bind_some]
  by_cases q : m ≤ 1
  · rw [if_pos (tile.mpr (by omega))]
    rw [if_pos q] at g46
    exact g46
  · rw [if_neg (fun z => q (by have := tile.mp z; omega)), M2.r29]
    simp only [Option.bind_some]
    rw [show aI h2 0 (b + 1 + 13) (1 : Int32) = some (σ.2.1 13 1) from M2.rd (r := 13) (i := 1) (by decide) (by decide) (by decide)]
    rw [if_neg q] at g46
    exact g46
theorem tl_p {h : am_H} {m : Nat} {hd : Int32} {w v : Int64} {hh it : Bool} (hp : Ps σ m) (hv : sayv (σ.2.1 1) (po σ m) hd w = some (v, hh, it)) (M : Mo b h σ) : ∃ h2 σ2, Ref_tells b hd w h = some (v, h2) ∧ Mo b h2 σ2 ∧ Lk FT [11] σ σ2 ∧ Ps σ2 m ∧ σ2.1 25 = bI hh ∧ σ2.1 26 = bI it ∧ Same b h h2 := by
  obtain ⟨h31, hm1, hm13, br0, h23⟩ := hp
  unfold sayv at hv
  by_cases c1 : σ.2.1 1 117 = -1
  · rw [if_pos c1] at hv
    cases hv
    obtain ⟨h1, e1, M1, S1⟩ := M.w25 (nI 0)
    obtain ⟨h2, e2, M2, S2⟩ := M1.w26 (nI 0)
    refine ⟨h2, _, ?_, M2, ⟨fun k hk => ?_, fun _ _ => rfl, rfl⟩, ⟨h31, hm1, hm13, br0, h23⟩, rfl, rfl, S1.tr S2⟩
    · unfold Ref_tells
      rw [if_pos M.o, show pV h 12 b 25 (.int (0 : Int32)) = _ from e1]
      simp only [Option.bind_some]
      rw [show pV h1 12 b 26 (.int (0 : Int32)) = _ from e2]
      simp only [Option.bind_some]
      rw [M2.r2]
      simp only [Option.bind_some]
      rw [show aI h2 0 (b + 1 + 1) (117 : Int32) = some (-1) from (M2.rd (r := 1) (i := 117) (by decide) (by decide) (by decide)).trans (congrArg some c1)]
      simp only [Option.bind_some]
      rw [if_pos (by first | rfl | trivial)]
    · simp only [List.mem_cons, List.not_mem_nil, or_false, not_or] at hk
      simp [upd, hk]
  · rw [if_neg c1] at hv
    generalize kN (σ.2.1 1) 117 = l at hv
    generalize kN (σ.2.1 1) (118 + l) = sz at hv
    generalize kN (σ.2.1 1) 96 = n at hv
    by_cases c2 : σ.2.1 1 117 = nI l ∧ l < 6 ∧ σ.2.1 1 (118 + l) = nI sz ∧ sz ≤ 400 ∧ σ.2.1 1 96 = nI n ∧ n ≤ 6
    · rw [if_pos c2] at hv
      obtain ⟨f1, f2, f3, f4, f5, f6⟩ := c2
      cases e : tellv (cn (σ.2.1 1) (aq (σ.2.1 1) (po σ m)) (fun _ => 0)) (400 * l + sz) n hd w (400 * l) false with
      | none => rw [e] at hv; cases hv
      | some x =>
        obtain ⟨v1, h1, i1, g1, b1⟩ := x
        rw [e] at hv
        cases hv
        have e0 : tellv (rs σ.2.1 11 (askr σ.2.1 m (σ.1 32) (σ.1 33))) (400 * l + sz) n hd w (400 * l) false = some (v, hh, it, g1, b1) := (tellv_c EqA_ask).trans e
        obtain ⟨b2, e2⟩ := tlv_br e0 br0
        obtain ⟨h2, x2, M2, S2⟩ := tells_p f1 f2 f3 f4 h31 hm1 hm13 h23 f5 f6 e2 M
        exact ⟨h2, _, x2, M2, Lk.ev rfl, ⟨h31, hm1, hm13, b2, rfl⟩, (nbI hh), (nbI it), S2⟩
    · rw [if_neg c2] at hv
      cases hv
end Tel
