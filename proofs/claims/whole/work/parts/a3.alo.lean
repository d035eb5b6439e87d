/-! PURE: the reference goes along a clause of orders -/
theorem evS_up {S : Nat → Int32} {A : Nat → Nat → Int32} {B : Nat → Int64} {g k : Nat} {br : Bool} {x : Int32} (h1 : k ≠ 21) (h2 : k ≠ 23) : ((upd (evS (S, A, B) g br).1 k x, (evS (S, A, B) g br).2) : am_S) = evS (upd S k x, A, B) g br := by
  unfold evS
  refine Prod.ext ?_ rfl
  show upd (upd (upd S 21 _) 23 _) k x = upd (upd (upd S k x) 21 _) 23 _
  rw [upd_cm (fun z => h2 z.symm), upd_cm (fun z => h1 z.symm)]
theorem evS_id {σ : am_S} {g : Nat} {br : Bool} (h1 : σ.1 21 = nI g) (h2 : σ.1 23 = nI (bN (br = true))) : evS σ g br = σ := by
  unfold evS
  refine Prod.ext ?_ rfl
  show upd (upd σ.1 21 (nI g)) 23 _ = σ.1
  rw [← h1, upd_self, ← h2, upd_self]
section Alo
variable {b : Nat} {S : Nat → Int32} {A : Nat → Nat → Int32} {B : Nat → Int64} {ge nh : Nat} {live : Bool}
theorem ev_up {h : am_H} {g k : Nat} {br : Bool} {x : Int32} (h1 : k ≠ 21) (h2 : k ≠ 23) (H : ∃ h2, pV h 12 b k (.int x) = some h2 ∧ Mo b h2 (upd (evS (S, A, B) g br).1 k x, (evS (S, A, B) g br).2) ∧ Same b h h2) : ∃ h2, pV h 12 b k (.int x) = some h2 ∧ Mo b h2 (evS (upd S k x, A, B) g br) ∧ Same b h h2 := by
  obtain ⟨h3, e, M, S3⟩ := H
  rw [evS_up h1 h2] at M
  exact ⟨h3, e, M, S3⟩
/-- one sum of the clause -/
theorem along_97 (hge : S 22 = nI ge) (hge2 : ge ≤ 2800) (h24 : S 24 = bI true) (hn : A 1 96 = nI nh) (hn6 : nh ≤ 6) {h : am_H} {g k cnt : Nat} {br sa : Bool} (hk : k < 3) (M : Mo b h (evS (upd S 50 (bI sa), A, B) g br)) {v : Int64} {g2 : Nat} {b2 : Bool} (hv : sumv A ge nh true live g false = some (v, g2, b2)) : ∃ h2, Ref_goesAlong_97 b (bI live) (nI cnt) (nI k) h = Ref_goesAlong_76 b (bI live) (nI cnt) (nI (k + 1)) h2 ∧ Mo b h2 (evS (upd S 50 (bI (sa && !b2)), A, vp_updL B k v) g2 b2) ∧ Same b h h2 := by
  obtain ⟨h1, e1, M1, S1⟩ := ev_br M false
  have HS : OkF b (upd S 50 (bI sa), A, B) (Ref_sumOf 40 b (bI live)) (sumv A ge nh true live) := sumv_p (σ := (upd S 50 (bI sa), A, B)) (inO := true) hge hge2 h24 hn hn6
  obtain ⟨h2, e2, M2, S2⟩ := HS _ _ _ _ _ h1 hv M1
  have M3 := M2.lg (i := k) (x := v)
  have e3 : sJ h2 (b + 1 + 21) (nI k) v = some (h2.set (b + 1 + 21) (.inl (3, 3, .inr (.inl (vp_updL B k v))))) := by
    unfold sJ
    rw [arJ_of M2.2.2]
    simp only [Option.bind_some]
    have tk := tin (show k < 2 ^ 31 by omega)
    rw [if_pos (by unfold inN; rw [tk]; omega), tk]
    rfl
  have S3 : Same b h2 (h2.set (b + 1 + 21) (.inl (3, 3, .inr (.inl (vp_updL B k v))))) := Same.rf.set (by omega) (by omega)
  have M3 : Mo b (h2.set (b + 1 + 21) (.inl (3, 3, .inr (.inl (vp_updL B k v))))) (evS (upd S 50 (bI sa), A, vp_updL B k v) g2 b2) := M3
  generalize h2.set (b + 1 + 21) (.inl (3, 3, .inr (.inl (vp_updL B k v)))) = h3 at *
  obtain ⟨h4, e4, M4, S4⟩ := ev_up (x := bI (sa && !b2)) (by decide) (by decide) (M3.w50 (bI (sa && !b2)))
  rw [upd_upd] at M4
  refine ⟨h4, ?_, M4, S1.tr (S2.tr (S3.tr S4))⟩
  have e134 : ∀ s0, s0 = bI (sa && !b2) → Ref_goesAlong_134 b (bI live) (nI cnt) (nI k) s0 b h3 = Ref_goesAlong_76 b (bI live) (nI cnt) (nI (k + 1)) h4 := fun s0 hs => by
    rw [hs, Ref_goesAlong_134_e, bI_z]
    simp only [Option.bind_some]
    rw [e4]
    simp only [Option.bind_some]
    rw [nI_p1]
  rw [Ref_goesAlong_97_e, show pV h 12 b 23 (.int (0 : Int32)) = _ from e1]
  simp only [Option.bind_some]
  rw [M1.r52]
  simp only [Option.bind_some]
  rw [e2]
  simp only [Option.bind_some]
  rw [e3]
  simp only [Option.bind_some]
  rw [show gI h3 12 b 50 = some (bI sa) from M3.i50]
  simp only [Option.bind_some]
  cases sa with
  | false => rw [if_pos (by decide), Ref_goesAlong_133_e]; exact e134 0 rfl
  | true =>
    rw [if_neg (by decide), ev23 M3]
    simp only [Option.bind_some]
    cases b2 with
    | false => rw [if_pos (by decide)]; exact e134 1 rfl
    | true => rw [if_neg (by decide), Ref_goesAlong_133_e]; exact e134 0 rfl
/-- the end of the clause: its test, and what is told -/
theorem along_184 (hge : S 22 = nI ge) (hge2 : ge ≤ 2800) (h24 : S 24 = bI true) (hn : A 1 96 = nI nh) (hn6 : nh ≤ 6) {h : am_H} {g : Nat} {br : Bool} (hg : g < 2799) (M : Mo b h (evS (S, A, B) g br)) {tv : Bool} {g2 : Nat} {b2 : Bool} (hv : (if cdA A ge g = nI 4 then tsv (fun l => sumv A ge nh true l) A ge 9 live (g + 1) false else some (true, g, false)) = some (tv, g2, b2)) : ∃ h2, Ref_goesAlong_184 b (bI live) h = some h2 ∧ Mo b h2 (evS (upd S 51 (bI (tv && !b2)), A, B) (g2 + 1) b2) ∧ Same b h h2 := by
  obtain ⟨h1, e1, M1, S1⟩ := ev_br M false
  obtain ⟨h3, e3, S3, y3, n3⟩ := passes_p (σ := (S, A, B)) hge hge2 (by omega) M1 (nI 4)
  have fin : ∀ (h4 : am_H), Mo b h4 (evS (S, A, B) g2 b2) → Same b h h4 → ∃ h5, Ref_goesAlong_211 b (bI tv) b h4 = some h5 ∧ Mo b h5 (evS (upd S 51 (bI (tv && !b2)), A, B) (g2 + 1) b2) ∧ Same b h h5 := fun h4 M4 S4 => by
    obtain ⟨h5, e5, M5, S5⟩ := ev_up (x := bI tv) (by decide) (by decide) (M4.w51 (bI tv))
    obtain ⟨h6, e6, M6, S6⟩ := ev_up (x := bI (tv && !b2)) (by decide) (by decide) (M5.w51 (bI (tv && !b2)))
    rw [upd_upd] at M6
    obtain ⟨h7, e7, M7, S7⟩ := ev_go M6 (g2 + 1)
    refine ⟨h7, ?_, M7, S4.tr (S5.tr (S6.tr S7))⟩
    have e234 : ∀ s0, s0 = bI (tv && !b2) → Ref_goesAlong_234 b s0 b h5 = some h7 := fun s0 hs => by
      unfold Ref_goesAlong_234
      rw [hs, bI_z]
      simp only [Option.bind_some]
      rw [e6]
      simp only [Option.bind_some]
      rw [ev21 M6]
      simp only [Option.bind_some]
      rw [nI_p1, e7]
      rfl
    unfold Ref_goesAlong_211 Ref_goesAlong_233
    rw [bI_z]
    simp only [Option.bind_some]
    rw [e5]
    simp only [Option.bind_some]
    rw [show gI h5 12 b 51 = some (bI tv) from M5.i51]
    simp only [Option.bind_some]
    cases tv with
    | false => rw [if_pos (by decide)]; exact e234 0 rfl
    | true =>
      rw [if_neg (by decide), ev23 M5]
      simp only [Option.bind_some]
      cases b2 with
      | false => rw [if_pos (by decide)]; exact e234 1 rfl
      | true => rw [if_neg (by decide)]; exact e234 0 rfl
  unfold Ref_goesAlong_184 Ref_goesAlong_206
  rw [show pV h 12 b 23 (.int (0 : Int32)) = _ from e1]
  simp only [Option.bind_some]
  rw [show Ref_passes0 b (4 : Int32) h1 = _ from e3]
  simp only [Option.bind_some]
  by_cases q : cdA A ge g = nI 4
  · rw [if_pos q] at hv
    rw [if_neg (fun x => bI_0.mp x (decide_eq_true q))]
    have HT : OkG b (S, A, B) (Ref_testOf 40 b) (tsv (fun l => sumv A ge nh true l) A ge 9) := test_p (σ := (S, A, B)) hge hge2 (fun l => sumv_p (σ := (S, A, B)) (inO := true) hge hge2 h24 hn hn6) 9 40 (by decide)
    obtain ⟨h4, e4, M4, S4⟩ := HT _ _ _ _ _ _ h3 hv (y3 q)
    rw [e4]
    simp only [Option.bind_some]
    obtain ⟨h5, e5, r5⟩ := fin h4 M4 (S1.tr (S3.tr S4))
    refine ⟨h5, ?_, r5⟩
    rw [← e5]
    cases tv with
    | false => rw [if_pos (by decide)]; rfl
    | true => rw [if_neg (by decide)]; rfl
  · rw [if_neg q] at hv
    have hv := Option.some.inj hv
    have z1 : true = tv := congrArg Prod.fst hv
    have z2 : g = g2 := congrArg (fun z => z.2.1) hv
    have z3 : false = b2 := congrArg (fun z => z.2.2) hv
    subst z1; subst z2; subst z3
    rw [if_pos (bI_0.mpr (fun z => q (of_decide_eq_true z))), n3 q]
    exact fin h1 M1 S1
theorem along_end (hge : S 22 = nI ge) (hge2 : ge ≤ 2800) (h24 : S 24 = bI true) (hn : A 1 96 = nI nh) (hn6 : nh ≤ 6) {h : am_H} {g cnt : Nat} {br : Bool} (hg : g < 2799) (M : Mo b h (evS (S, A, B) g br)) {gT tm : Nat} (hgT : gT < 2799) (hT : (cdA A ge g = nI 25 ∧ gT = g + 2 ∧ A 1 (2925 + (g + 1)) = nI tm) ∨ (¬ cdA A ge g = nI 25 ∧ gT = g ∧ tm = 1)) {tv : Bool} {g2 : Nat} {b2 : Bool} (hv : (if cdA A ge gT = nI 4 then tsv (fun l => sumv A ge nh true l) A ge 9 live (gT + 1) false else some (true, gT, false)) = some (tv, g2, b2)) : ∃ h2, Ref_goesAlong_76 b (bI live) (nI cnt) (nI cnt) h = some h2 ∧ Mo b h2 (evS (upd (upd S 48 (nI tm)) 51 (bI (tv && !b2)), A, B) (g2 + 1) b2) ∧ Same b h h2 := by
  obtain ⟨h1, e1, M1, S1⟩ := ev_up (x := nI 1) (by decide) (by decide) (M.w48 (nI 1))
  obtain ⟨h3, e3, S3, y3, n3⟩ := passes_p (σ := (upd S 48 (nI 1), A, B)) hge hge2 (by omega) M1 (nI 25)
  rw [Ref_goesAlong_76_e, if_pos (tile.mpr (Int.le_refl _)), show pV h 12 b 48 (.int (1 : Int32)) = _ from e1]
  simp only [Option.bind_some]
  rw [show Ref_passes0 b (25 : Int32) h1 = _ from e3]
  simp only [Option.bind_some]
  rcases hT with ⟨q, rfl, hv5⟩ | ⟨q, rfl, rfl⟩
  · rw [if_neg (fun x => bI_0.mp x (decide_eq_true q))]
    have M3 := y3 q
    obtain ⟨h4, e4, M4, S4⟩ := ev_up (x := nI tm) (by decide) (by decide) (M3.w48 (nI tm))
    rw [upd_upd] at M4
    obtain ⟨h5, e5, M5, S5⟩ := ev_go M4 (g + 1 + 1)
    obtain ⟨h6, e6, M6, S6⟩ := along_184 (live := live) (S := upd S 48 (nI tm)) hge hge2 h24 hn hn6 (by omega) M5 hv
    refine ⟨h6, ?_, M6, S1.tr (S3.tr (S4.tr (S5.tr S6)))⟩
    rw [M3.r2, ev21 M3]
    simp only [Option.bind_some]
    rw [show (2925 : Int32) + nI (g + 1) = nI (2925 + (g + 1)) from nI_add 2925 _, show aI h3 0 (b + 1 + 1) (nI (2925 + (g + 1))) = some (nI tm) from (M3.rd (r := 1) (by decide) (by decide) (show 2925 + (g + 1) < 5725 by omega)).trans (congrArg some hv5)]
    simp only [Option.bind_some]
    rw [e4]
    simp only [Option.bind_some]
    rw [ev21 M4]
    simp only [Option.bind_some]
    rw [nI_p1, e5]
    exact e6
  · rw [if_pos (bI_0.mpr (fun z => q (of_decide_eq_true z))), n3 q]
    obtain ⟨h6, e6, M6, S6⟩ := along_184 (live := live) (S := upd S 48 (nI 1)) hge hge2 h24 hn hn6 (by omega) M1 hv
    exact ⟨h6, e6, M6, S1.tr S6⟩
end Alo
