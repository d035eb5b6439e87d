/-! PURE: the reference's evaluation: terms, sums, tests -/
theorem lcmp0 {w : Int64} : lg_cmp w 0 = 0 ↔ w = 0 := cmp0
section EvY
variable {b : Nat} {σ : am_S} {ge n : Nat} {live : Bool}
theorem term121_p {h : am_H} {g2 : Nat} {b1 : Bool} {v w : Int64} {c : Int32} {dd : Nat} (hw : ¬ c = nI 142 → ¬ w = 0) (M : Mo b h (evS σ g2 b1)) : ∃ h2, Ref_termOf_121 dd b (bI live) v c w h = Ref_termOf_6 dd b (bI live) (bdv (tx c v w) live b1) h2 ∧ Mo b h2 (evS σ g2 (bdb (tx c v w) live b1)) ∧ Same b h h2 := by
  obtain ⟨h2, e2, M2, S2⟩ := bounded_p M (tx c v w) live
  refine ⟨h2, ?_, M2, S2⟩
  have e160 : Ref_termOf_160 dd b (bI live) (tx c v w) b h = Ref_termOf_6 dd b (bI live) (bdv (tx c v w) live b1) h2 := by
    rw [Ref_termOf_160_e, e2]; rfl
  rw [← e160, Ref_termOf_121_e]
  unfold Ref_sign
  simp only [Option.bind_some]
  unfold tx
  by_cases q1 : c = nI 142
  · rw [if_pos (show c = (100 : Int32) + 42 from q1), if_pos q1]
  · rw [if_neg (show ¬ c = (100 : Int32) + 42 from q1), if_neg q1]
    by_cases q2 : c = nI 147
    · rw [if_pos (show c = (100 : Int32) + 47 from q2), if_pos q2]
      unfold dvJ
      rw [if_neg (hw q1)]
      rfl
    · rw [if_neg (show ¬ c = (100 : Int32) + 47 from q2), if_neg q2]
      unfold rmJ
      rw [if_neg (hw q1)]
      rfl
theorem term_l (hge : σ.1 22 = nI ge) (hge2 : ge ≤ 2800) {dd : Nat} {P : Nat → Bool → EvR} (HP : OkF b σ (Ref_partOf dd b (bI live)) P) {vr : Int64} {gr : Nat} {br2 : Bool} : ∀ (f : Nat) (v : Int64) (g : Nat) (br : Bool) (h : am_H), tlp P σ.2.1 ge live f v g br = some (vr, gr, br2) → Mo b h (evS σ g br) → ∃ h2, Ref_termOf_6 (dd + 1) b (bI live) v h = some (vr, h2) ∧ Mo b h2 (evS σ gr br2) ∧ Same b h h2 := by
  intro f
  induction f with
  | zero => intro v g br h hv; exact absurd hv (by simp [tlp])
  | succ f ih =>
    intro v g br h hv M
    unfold tlp at hv
    by_cases hg : g < 2799
    · rw [if_pos hg] at hv
      have ec : Ref_codeAt b (nI g) h = some (cdA σ.2.1 ge g) := codeAt_p hge hge2 (by omega) g (by omega) M
      have e6 : Ref_termOf_6 (dd + 1) b (bI live) v h = if cdA σ.2.1 ge g = nI 142 ∨ cdA σ.2.1 ge g = nI 147 ∨ cdA σ.2.1 ge g = nI 137 then Ref_termOf_54 (dd + 1) b (bI live) v h else some (v, h) := by
        rw [Ref_termOf_6_e, ev21 M]
        unfold Ref_sign
        simp only [Option.bind_some]
        rw [ec]
        simp only [Option.bind_some]
        by_cases q1 : cdA σ.2.1 ge g = nI 142
        · rw [if_pos (show cdA σ.2.1 ge g = (100 : Int32) + 42 from q1), if_pos (Or.inl q1)]
        · rw [if_neg (show ¬ cdA σ.2.1 ge g = (100 : Int32) + 42 from q1)]
          by_cases q2 : cdA σ.2.1 ge g = nI 147
          · rw [if_pos (show cdA σ.2.1 ge g = (100 : Int32) + 47 from q2), if_pos (Or.inr (Or.inl q2))]
          · rw [if_neg (show ¬ cdA σ.2.1 ge g = (100 : Int32) + 47 from q2)]
            by_cases q3 : cdA σ.2.1 ge g = nI 137
            · rw [if_pos (show cdA σ.2.1 ge g = (100 : Int32) + 37 from q3), if_pos (Or.inr (Or.inr q3))]
            · rw [if_neg (show ¬ cdA σ.2.1 ge g = (100 : Int32) + 37 from q3), if_neg (fun z => z.elim q1 (fun z => z.elim q2 q3))]
      rw [e6]
      by_cases qc : cdA σ.2.1 ge g = nI 142 ∨ cdA σ.2.1 ge g = nI 147 ∨ cdA σ.2.1 ge g = nI 137
      · rw [if_pos qc] at hv ⊢
        cases hP : P (g + 1) br with
        | none => rw [hP] at hv; exact absurd hv (by simp)
        | some r =>
          obtain ⟨w, g2, b1⟩ := r
          rw [hP] at hv
          dsimp only at hv
          obtain ⟨h1, e1, M1, S1⟩ := ev_go M (g + 1)
          obtain ⟨h2, e2, M2, S2⟩ := HP _ _ _ _ _ h1 hP M1
          have e54 : Ref_termOf_54 (dd + 1) b (bI live) v h = if cdA σ.2.1 ge g = nI 142 then Ref_termOf_121 (dd + 1) b (bI live) v (cdA σ.2.1 ge g) w h2 else if w = 0 then (if bI b1 = (0 : Int32) then (if bI live = (0 : Int32) then Ref_termOf_115 (dd + 1) b (bI live) v (cdA σ.2.1 ge g) (0 : Int32) b h2 else Ref_termOf_110 (dd + 1) b (bI live) v (cdA σ.2.1 ge g) b h2) else Ref_termOf_110 (dd + 1) b (bI live) v (cdA σ.2.1 ge g) b h2) else Ref_termOf_121 (dd + 1) b (bI live) v (cdA σ.2.1 ge g) w h2 := by
            rw [Ref_termOf_54_e, ev21 M]
            simp only [Option.bind_some]
            rw [ec]
            simp only [Option.bind_some]
            rw [nI_p1, e1]
            simp only [Option.bind_some]
            rw [if_pos (Nat.succ_pos dd), show dd + 1 - 1 = dd from rfl, e2]
            unfold Ref_sign
            simp only [Option.bind_some]
            by_cases q1 : cdA σ.2.1 ge g = nI 142
            · rw [if_pos (show cdA σ.2.1 ge g = (100 : Int32) + 42 from q1), if_pos q1]
            · rw [if_neg (show ¬ cdA σ.2.1 ge g = (100 : Int32) + 42 from q1), if_neg q1]
              by_cases q2 : w = 0
              · rw [if_pos (lcmp0.mpr q2), if_pos q2, ev23 M2]
                rfl
              · rw [if_neg (fun z => q2 (lcmp0.mp z)), if_neg q2]
          have fin : ∀ (h3 : am_H), Mo b h3 (evS σ g2 (tb (cdA σ.2.1 ge g) w live b1)) → Same b h2 h3 → (¬ cdA σ.2.1 ge g = nI 142 → ¬ tw (cdA σ.2.1 ge g) w = 0) → ∃ h4, Ref_termOf_121 (dd + 1) b (bI live) v (cdA σ.2.1 ge g) (tw (cdA σ.2.1 ge g) w) h3 = some (vr, h4) ∧ Mo b h4 (evS σ gr br2) ∧ Same b h h4 := fun h3 M3 S3 hw => by
            obtain ⟨h4, e4, M4, S4⟩ := term121_p (live := live) (v := v) (dd := dd + 1) hw M3
            obtain ⟨h5, e5, M5, S5⟩ := ih _ _ _ h4 hv M4
            exact ⟨h5, e4.trans e5, M5, S1.tr (S2.tr (S3.tr (S4.tr S5)))⟩
          rw [e54]
          by_cases q1 : cdA σ.2.1 ge g = nI 142
          · have ez : tz (cdA σ.2.1 ge g) w = false := by unfold tz; simp [q1]
            have et : tw (cdA σ.2.1 ge g) w = w := by unfold tw; rw [ez]; rfl
            have eb : tb (cdA σ.2.1 ge g) w live b1 = b1 := by unfold tb; rw [ez]; rfl
            rw [if_pos q1]
            rw [et, eb] at fin
            exact fin h2 M2 Same.rf (fun z => absurd q1 z)
          · rw [if_neg q1]
            by_cases q2 : w = 0
            · have ez : tz (cdA σ.2.1 ge g) w = true := by unfold tz; simp [q1, q2]
              have et : tw (cdA σ.2.1 ge g) w = 1 := by unfold tw; rw [ez]; rfl
              have eb : tb (cdA σ.2.1 ge g) w live b1 = (b1 || live) := by unfold tb; rw [ez]; rfl
              rw [et, eb] at fin
              rw [if_pos q2]
              obtain ⟨h3, e3, M3, S3⟩ := ev_br M2 (b1 || live)
              obtain ⟨h4, e4, r4⟩ := fin h3 M3 S3 (fun _ => by decide)
              have e115 : ∀ s0, s0 = bI (b1 || live) → Ref_termOf_115 (dd + 1) b (bI live) v (cdA σ.2.1 ge g) s0 b h2 = some (vr, h4) := fun s0 hs => by
                rw [hs, Ref_termOf_115_e, bI_z]
                simp only [Option.bind_some]
                rw [e3]
                exact e4
              refine ⟨h4, ?_, r4⟩
              cases b1 with
              | true => rw [if_neg (by decide), Ref_termOf_110_e]; exact e115 1 rfl
              | false =>
                rw [if_pos (by decide)]
                cases live with
                | true => rw [if_neg (by decide), Ref_termOf_110_e]; exact e115 1 rfl
                | false => rw [if_pos (by decide)]; exact e115 0 rfl
            · have ez : tz (cdA σ.2.1 ge g) w = false := by unfold tz; simp [q2]
              have et : tw (cdA σ.2.1 ge g) w = w := by unfold tw; rw [ez]; rfl
              have eb : tb (cdA σ.2.1 ge g) w live b1 = b1 := by unfold tb; rw [ez]; rfl
              rw [if_neg q2]
              rw [et, eb] at fin
              exact fin h2 M2 Same.rf (fun _ => q2)
      · rw [if_neg qc] at hv ⊢
        have hv := Option.some.inj hv
        have e1 : v = vr := congrArg Prod.fst hv
        have e2 : g = gr := congrArg (fun z => z.2.1) hv
        have e3 : br = br2 := congrArg (fun z => z.2.2) hv
        subst e1; subst e2; subst e3
        exact ⟨h, rfl, M, Same.rf⟩
    · rw [if_neg hg] at hv; exact absurd hv (by simp)
theorem term_p (hge : σ.1 22 = nI ge) (hge2 : ge ≤ 2800) {dd : Nat} {P : Nat → Bool → EvR} (HP : OkF b σ (Ref_partOf dd b (bI live)) P) : OkF b σ (Ref_termOf (dd + 1) b (bI live)) (tmv P σ.2.1 ge live) := by
  intro g br v g2 b2 h hv M
  unfold tmv at hv
  cases hP : P g br with
  | none => rw [hP] at hv; exact absurd hv (by simp)
  | some r =>
    obtain ⟨w, g1, b1⟩ := r
    rw [hP] at hv
    dsimp only at hv
    obtain ⟨h1, e1, M1, S1⟩ := HP _ _ _ _ _ h hP M
    obtain ⟨h2, e2, M2, S2⟩ := term_l hge hge2 HP _ _ _ _ h1 hv M1
    refine ⟨h2, ?_, M2, S1.tr S2⟩
    rw [Ref_termOf_e, if_pos M.o, if_pos (Nat.succ_pos dd), show dd + 1 - 1 = dd from rfl, e1]
    exact e2
theorem sum_l (hge : σ.1 22 = nI ge) (hge2 : ge ≤ 2800) {dd : Nat} {P : Nat → Bool → EvR} (HT : OkF b σ (Ref_termOf dd b (bI live)) (tmv P σ.2.1 ge live)) {vr : Int64} {gr : Nat} {br2 : Bool} : ∀ (f : Nat) (v : Int64) (g : Nat) (br : Bool) (h : am_H), slp P σ.2.1 ge live f v g br = some (vr, gr, br2) → Mo b h (evS σ g br) → ∃ h2, Ref_sumOf_6 (dd + 1) b (bI live) v h = some (vr, h2) ∧ Mo b h2 (evS σ gr br2) ∧ Same b h h2 := by
  intro f
  induction f with
  | zero => intro v g br h hv; exact absurd hv (by simp [slp])
  | succ f ih =>
    intro v g br h hv M
    unfold slp at hv
    by_cases hg : g < 2799
    · rw [if_pos hg] at hv
      have ec : Ref_codeAt b (nI g) h = some (cdA σ.2.1 ge g) := codeAt_p hge hge2 (by omega) g (by omega) M
      have e6 : Ref_sumOf_6 (dd + 1) b (bI live) v h = if cdA σ.2.1 ge g = nI 143 ∨ cdA σ.2.1 ge g = nI 145 then Ref_sumOf_38 (dd + 1) b (bI live) v h else some (v, h) := by
        rw [Ref_sumOf_6_e, ev21 M]
        unfold Ref_sign
        simp only [Option.bind_some]
        rw [ec]
        simp only [Option.bind_some]
        by_cases q1 : cdA σ.2.1 ge g = nI 143
        · rw [if_pos (show cdA σ.2.1 ge g = (100 : Int32) + 43 from q1), if_pos (Or.inl q1)]
        · rw [if_neg (show ¬ cdA σ.2.1 ge g = (100 : Int32) + 43 from q1)]
          by_cases q2 : cdA σ.2.1 ge g = nI 145
          · rw [if_pos (show cdA σ.2.1 ge g = (100 : Int32) + 45 from q2), if_pos (Or.inr q2)]
          · rw [if_neg (show ¬ cdA σ.2.1 ge g = (100 : Int32) + 45 from q2), if_neg (fun z => z.elim q1 q2)]
      rw [e6]
      by_cases qc : cdA σ.2.1 ge g = nI 143 ∨ cdA σ.2.1 ge g = nI 145
      · rw [if_pos qc] at hv ⊢
        cases hP : tmv P σ.2.1 ge live (g + 1) br with
        | none => rw [hP] at hv; exact absurd hv (by simp)
        | some r =>
          obtain ⟨w, g2, b1⟩ := r
          rw [hP] at hv
          dsimp only at hv
          obtain ⟨h1, e1, M1, S1⟩ := ev_go M (g + 1)
          obtain ⟨h2, e2, M2, S2⟩ := HT _ _ _ _ _ h1 hP M1
          obtain ⟨h3, e3, M3, S3⟩ := bounded_p M2 (sx (cdA σ.2.1 ge g) v w) live
          obtain ⟨h4, e4, M4, S4⟩ := ih _ _ _ h3 hv M3
          refine ⟨h4, ?_, M4, S1.tr (S2.tr (S3.tr S4))⟩
          have e59 : ∀ s0, (Ref_sumOf_59 (dd + 1) b (bI live) v s0 h) = if s0 = (0 : Int32) then Ref_sumOf_95 (dd + 1) b (bI live) (v - w) b h2 else Ref_sumOf_95 (dd + 1) b (bI live) (v + w) b h2 := fun s0 => by
            rw [Ref_sumOf_59_e, ev21 M]
            simp only [Option.bind_some]
            rw [nI_p1, e1]
            simp only [Option.bind_some]
            rw [if_pos (Nat.succ_pos dd), show dd + 1 - 1 = dd from rfl, e2]
            rfl
          have e95 : Ref_sumOf_95 (dd + 1) b (bI live) (sx (cdA σ.2.1 ge g) v w) b h2 = some (vr, h4) := by
            rw [Ref_sumOf_95_e, e3]; exact e4
          rw [Ref_sumOf_38_e, ev21 M]
          unfold Ref_sign
          simp only [Option.bind_some]
          rw [ec]
          simp only [Option.bind_some]
          by_cases q1 : cdA σ.2.1 ge g = nI 143
          · rw [if_pos (show cdA σ.2.1 ge g = (100 : Int32) + 43 from q1), e59, if_neg (by decide)]
            rw [show sx (cdA σ.2.1 ge g) v w = v + w from if_pos q1] at e95
            exact e95
          · rw [if_neg (show ¬ cdA σ.2.1 ge g = (100 : Int32) + 43 from q1), e59, if_pos rfl]
            rw [show sx (cdA σ.2.1 ge g) v w = v - w from if_neg q1] at e95
            exact e95
      · rw [if_neg qc] at hv ⊢
        have hv := Option.some.inj hv
        have e1 : v = vr := congrArg Prod.fst hv
        have e2 : g = gr := congrArg (fun z => z.2.1) hv
        have e3 : br = br2 := congrArg (fun z => z.2.2) hv
        subst e1; subst e2; subst e3
        exact ⟨h, rfl, M, Same.rf⟩
    · rw [if_neg hg] at hv; exact absurd hv (by simp)
theorem sum_p (hge : σ.1 22 = nI ge) (hge2 : ge ≤ 2800) {dd : Nat} {P : Nat → Bool → EvR} (HT : OkF b σ (Ref_termOf dd b (bI live)) (tmv P σ.2.1 ge live)) : OkF b σ (Ref_sumOf (dd + 1) b (bI live)) (smv P σ.2.1 ge live) := by
  intro g br v g2 b2 h hv M
  unfold smv at hv
  cases hP : tmv P σ.2.1 ge live g br with
  | none => rw [hP] at hv; exact absurd hv (by simp)
  | some r =>
    obtain ⟨w, g1, b1⟩ := r
    rw [hP] at hv
    dsimp only at hv
    obtain ⟨h1, e1, M1, S1⟩ := HT _ _ _ _ _ h hP M
    obtain ⟨h2, e2, M2, S2⟩ := sum_l hge hge2 HT _ _ _ _ h1 hv M1
    refine ⟨h2, ?_, M2, S1.tr S2⟩
    rw [Ref_sumOf_e, if_pos M.o, if_pos (Nat.succ_pos dd), show dd + 1 - 1 = dd from rfl, e1]
    exact e2
theorem leafv_191 {A : Nat → Nat → Int32} {inO : Bool} {g : Nat} {br : Bool} {r : Int64 × Nat × Bool} (h : leafv A ge n inO live g br = some r) : ¬ cdA A ge g = nI 191 := fun z => by
  unfold leafv at h
  rw [z, if_neg (by decide)] at h
  by_cases q : inO = false
  · rw [if_pos q, if_neg (by decide)] at h; exact absurd h (by simp)
  · rw [if_neg q, if_neg (by decide), if_neg (by decide)] at h; exact absurd h (by simp)
theorem part_p (hge : σ.1 22 = nI ge) (hge2 : ge ≤ 2800) {inO : Bool} (h24 : σ.1 24 = bI inO) (hn : σ.2.1 1 96 = nI n) (hn6 : n ≤ 6) : ∀ (D dd : Nat), 3 * D ≤ dd → OkF b σ (Ref_partOf dd b (bI live)) (ptv σ.2.1 ge n inO live D)
  | 0, dd, _ => by
    intro g br v g2 b2 h hv M
    unfold ptv at hv
    by_cases hg : g < 2799
    · rw [if_pos hg] at hv
      exact leaf_p hge hge2 hg h24 hn hn6 (leafv_191 hv) hv M
    · rw [if_neg hg] at hv; exact absurd hv (by simp)
  | D + 1, dd, hdd => by
    obtain ⟨e, rfl⟩ : ∃ e, dd = e + 1 + 1 + 1 := ⟨dd - 3, by omega⟩
    have HS := sum_p hge hge2 (term_p hge hge2 (part_p hge hge2 h24 hn hn6 D e (by omega)))
    intro g br v g2 b2 h hv M
    unfold ptv at hv
    by_cases hg : g < 2799
    · rw [if_pos hg] at hv
      by_cases qc : cdA σ.2.1 ge g = nI 191
      · rw [if_pos qc] at hv
        cases hP : smv (ptv σ.2.1 ge n inO live D) σ.2.1 ge live (g + 1) br with
        | none => rw [hP] at hv; exact absurd hv (by simp)
        | some r =>
          obtain ⟨w, g1, b1⟩ := r
          rw [hP] at hv
          dsimp only at hv
          have hv := Option.some.inj hv
          have e1 : w = v := congrArg Prod.fst hv
          have e2 : g1 + 1 = g2 := congrArg (fun z => z.2.1) hv
          have e3 : b1 = b2 := congrArg (fun z => z.2.2) hv
          subst e1; subst e2; subst e3
          obtain ⟨h1, x1, S1, y1, _⟩ := passes_p hge hge2 (by omega) M (nI 191)
          obtain ⟨h2, x2, M2, S2⟩ := HS _ _ _ _ _ h1 hP (y1 qc)
          obtain ⟨h3, x3, M3, S3⟩ := ev_go M2 (g1 + 1)
          refine ⟨h3, ?_, M3, S1.tr (S2.tr S3)⟩
          rw [Ref_partOf_e, if_pos M.o]
          unfold Ref_sign
          simp only [Option.bind_some]
          rw [show Ref_passes0 b ((100 : Int32) + 91) h = _ from x1]
          simp only [Option.bind_some]
          rw [if_neg (fun x => bI_0.mp x (decide_eq_true qc)), if_pos (Nat.succ_pos _), show e + 1 + 1 + 1 - 1 = e + 1 + 1 from rfl, x2]
          simp only [Option.bind_some]
          rw [ev21 M2]
          simp only [Option.bind_some]
          rw [nI_p1, x3]
          rfl
      · rw [if_neg qc] at hv
        exact leaf_p hge hge2 hg h24 hn hn6 qc hv M
    · rw [if_neg hg] at hv; exact absurd hv (by simp)
theorem sumv_p (hge : σ.1 22 = nI ge) (hge2 : ge ≤ 2800) {inO : Bool} (h24 : σ.1 24 = bI inO) (hn : σ.2.1 1 96 = nI n) (hn6 : n ≤ 6) : OkF b σ (Ref_sumOf 40 b (bI live)) (sumv σ.2.1 ge n inO live) := sum_p hge hge2 (term_p hge hge2 (part_p hge hge2 h24 hn hn6 8 38 (by decide)))
end EvY
section EvZ
variable {b : Nat} {σ : am_S} {ge n : Nat}

theorem bothOf_l (hge : σ.1 22 = nI ge) (hge2 : ge ≤ 2800) {dd : Nat} {P : Bool → Nat → Bool → EvB} (HP : OkG b σ (Ref_plainOf dd b) P) {live vr : Bool} {gr : Nat} {br2 : Bool} : ∀ (f : Nat) (v : Bool) (g : Nat) (br : Bool) (h : am_H), blp P σ.2.1 ge live f v g br = some (vr, gr, br2) → Mo b h (evS σ g br) → ∃ h2, Ref_bothOf_6 (dd + 1) b (bI live) (bI v) h = some (bI vr, h2) ∧ Mo b h2 (evS σ gr br2) ∧ Same b h h2 := by
  intro f
  induction f with
  | zero => intro v g br h hv; exact absurd hv (by simp [blp])
  | succ f ih =>
    intro v g br h hv M
    unfold blp at hv
    by_cases hg : g < 2799
    · rw [if_pos hg] at hv
      obtain ⟨h1, x1, S1, y1, n1⟩ := passes_p hge hge2 (by omega) M (nI 6)
      rw [Ref_bothOf_6_e, show Ref_passes0 b (6 : Int32) h = _ from x1]
      simp only [Option.bind_some]
      by_cases qc : cdA σ.2.1 ge g = nI 6
      · rw [if_pos qc] at hv
        rw [if_neg (fun x => bI_0.mp x (decide_eq_true qc))]
        have M1 := y1 qc
        cases hP : P (live && v) (g + 1) br with
        | none => rw [hP] at hv; exact absurd hv (by simp)
        | some r =>
          obtain ⟨w, g2, b1⟩ := r
          rw [hP] at hv
          dsimp only at hv
          obtain ⟨h2, x2, M2, S2⟩ := HP _ _ _ _ _ _ h1 hP M1
          obtain ⟨h3, x3, M3, S3⟩ := ih _ _ _ h2 hv M2
          refine ⟨h3, ?_, M3, S1.tr (S2.tr S3)⟩
          have e29 : ∀ s0, s0 = bI (live && v) → Ref_bothOf_29 (dd + 1) b (bI live) (bI v) s0 b h1 = some (bI vr, h3) := fun s0 hs => by
            rw [hs, Ref_bothOf_29_e, if_pos (Nat.succ_pos dd), show dd + 1 - 1 = dd from rfl, x2]
            simp only [Option.bind_some]
            rw [← x3]
            cases v with
            | false => rw [if_pos (by decide), Ref_bothOf_45_e, Ref_bothOf_46_e]; rfl
            | true =>
              rw [if_neg (by decide)]
              cases w with
              | false => rw [if_pos (by decide), Ref_bothOf_45_e, Ref_bothOf_46_e]; rfl
              | true => rw [if_neg (by decide), Ref_bothOf_46_e]; rfl
          cases live with
          | false => rw [if_pos (by decide), Ref_bothOf_28_e]; exact e29 0 (by cases v <;> rfl)
          | true =>
            rw [if_neg (by decide)]
            cases v with
            | false => rw [if_pos (by decide), Ref_bothOf_28_e]; exact e29 0 rfl
            | true => rw [if_neg (by decide)]; exact e29 1 rfl
      · rw [if_neg qc] at hv
        rw [if_pos (bI_0.mpr (fun z => qc (of_decide_eq_true z))), n1 qc, bI_z]
        have hv := Option.some.inj hv
        have e1 : v = vr := congrArg Prod.fst hv
        have e2 : g = gr := congrArg (fun z => z.2.1) hv
        have e3 : br = br2 := congrArg (fun z => z.2.2) hv
        subst e1; subst e2; subst e3
        exact ⟨h, rfl, M, Same.rf⟩
    · rw [if_neg hg] at hv; exact absurd hv (by simp)
theorem bothOf_p (hge : σ.1 22 = nI ge) (hge2 : ge ≤ 2800) {dd : Nat} {P : Bool → Nat → Bool → EvB} (HP : OkG b σ (Ref_plainOf dd b) P) : OkG b σ (Ref_bothOf (dd + 1) b) (bov P σ.2.1 ge) := by
  intro live g br v g2 b2 h hv M
  unfold bov at hv
  cases hP : P live g br with
  | none => rw [hP] at hv; exact absurd hv (by simp)
  | some r =>
    obtain ⟨w, g1, b1⟩ := r
    rw [hP] at hv
    dsimp only at hv
    obtain ⟨h1, e1, M1, S1⟩ := HP _ _ _ _ _ _ h hP M
    obtain ⟨h2, e2, M2, S2⟩ := bothOf_l hge hge2 HP _ _ _ _ h1 hv M1
    refine ⟨h2, ?_, M2, S1.tr S2⟩
    rw [Ref_bothOf_e, if_pos M.o, if_pos (Nat.succ_pos dd), show dd + 1 - 1 = dd from rfl, e1]
    exact e2
theorem testOf_l (hge : σ.1 22 = nI ge) (hge2 : ge ≤ 2800) {dd : Nat} {P : Bool → Nat → Bool → EvB} (HP : OkG b σ (Ref_bothOf dd b) P) {live vr : Bool} {gr : Nat} {br2 : Bool} : ∀ (f : Nat) (v : Bool) (g : Nat) (br : Bool) (h : am_H), olp P σ.2.1 ge live f v g br = some (vr, gr, br2) → Mo b h (evS σ g br) → ∃ h2, Ref_testOf_6 (dd + 1) b (bI live) (bI v) h = some (bI vr, h2) ∧ Mo b h2 (evS σ gr br2) ∧ Same b h h2 := by
  intro f
  induction f with
  | zero => intro v g br h hv; exact absurd hv (by simp [olp])
  | succ f ih =>
    intro v g br h hv M
    unfold olp at hv
    by_cases hg : g < 2799
    · rw [if_pos hg] at hv
      obtain ⟨h1, x1, S1, y1, n1⟩ := passes_p hge hge2 (by omega) M (nI 5)
      rw [Ref_testOf_6_e, show Ref_passes0 b (5 : Int32) h = _ from x1]
      simp only [Option.bind_some]
      by_cases qc : cdA σ.2.1 ge g = nI 5
      · rw [if_pos qc] at hv
        rw [if_neg (fun x => bI_0.mp x (decide_eq_true qc))]
        have M1 := y1 qc
        cases hP : P (live && !v) (g + 1) br with
        | none => rw [hP] at hv; exact absurd hv (by simp)
        | some r =>
          obtain ⟨w, g2, b1⟩ := r
          rw [hP] at hv
          dsimp only at hv
          obtain ⟨h2, x2, M2, S2⟩ := HP _ _ _ _ _ _ h1 hP M1
          obtain ⟨h3, x3, M3, S3⟩ := ih _ _ _ h2 hv M2
          refine ⟨h3, ?_, M3, S1.tr (S2.tr S3)⟩
          have e28 : ∀ s0, s0 = bI (live && !v) → Ref_testOf_28 (dd + 1) b (bI live) (bI v) s0 b h1 = some (bI vr, h3) := fun s0 hs => by
            rw [hs, Ref_testOf_28_e, if_pos (Nat.succ_pos dd), show dd + 1 - 1 = dd from rfl, x2]
            simp only [Option.bind_some]
            rw [← x3]
            cases v with
            | true => rw [if_neg (by decide), Ref_testOf_40_e, Ref_testOf_45_e]; rfl
            | false =>
              rw [if_pos (by decide)]
              cases w with
              | false => rw [if_pos (by decide), Ref_testOf_45_e]; rfl
              | true => rw [if_neg (by decide), Ref_testOf_40_e, Ref_testOf_45_e]; rfl
          cases live with
          | false => rw [if_pos (by decide), Ref_testOf_27_e]; exact e28 0 (by cases v <;> rfl)
          | true =>
            rw [if_neg (by decide)]
            cases v with
            | false => rw [if_pos (by decide)]; exact e28 1 rfl
            | true => rw [if_neg (by decide), Ref_testOf_27_e]; exact e28 0 rfl
      · rw [if_neg qc] at hv
        rw [if_pos (bI_0.mpr (fun z => qc (of_decide_eq_true z))), n1 qc, bI_z]
        have hv := Option.some.inj hv
        have e1 : v = vr := congrArg Prod.fst hv
        have e2 : g = gr := congrArg (fun z => z.2.1) hv
        have e3 : br = br2 := congrArg (fun z => z.2.2) hv
        subst e1; subst e2; subst e3
        exact ⟨h, rfl, M, Same.rf⟩
    · rw [if_neg hg] at hv; exact absurd hv (by simp)
theorem testOf_p (hge : σ.1 22 = nI ge) (hge2 : ge ≤ 2800) {dd : Nat} {P : Bool → Nat → Bool → EvB} (HP : OkG b σ (Ref_bothOf dd b) P) : OkG b σ (Ref_testOf (dd + 1) b) (tev P σ.2.1 ge) := by
  intro live g br v g2 b2 h hv M
  unfold tev at hv
  cases hP : P live g br with
  | none => rw [hP] at hv; exact absurd hv (by simp)
  | some r =>
    obtain ⟨w, g1, b1⟩ := r
    rw [hP] at hv
    dsimp only at hv
    obtain ⟨h1, e1, M1, S1⟩ := HP _ _ _ _ _ _ h hP M
    obtain ⟨h2, e2, M2, S2⟩ := testOf_l hge hge2 HP _ _ _ _ h1 hv M1
    refine ⟨h2, ?_, M2, S1.tr S2⟩
    rw [Ref_testOf_e, if_pos M.o, if_pos (Nat.succ_pos dd), show dd + 1 - 1 = dd from rfl, e1]
    exact e2
theorem plain_l (hge : σ.1 22 = nI ge) (hge2 : ge ≤ 2800) {dd : Nat} {P : Bool → Nat → Bool → EvB} (HP : OkG b σ (Ref_positiveOf dd b) P) {live vr : Bool} {gr : Nat} {br2 : Bool} : ∀ (f : Nat) (nt : Bool) (g : Nat) (br : Bool) (h : am_H), nlp P σ.2.1 ge live f nt g br = some (vr, gr, br2) → Mo b h (evS σ g br) → ∃ h2, Ref_plainOf_2 (dd + 1) b (bI live) (bI nt) h = some (bI vr, h2) ∧ Mo b h2 (evS σ gr br2) ∧ Same b h h2 := by
  intro f
  induction f with
  | zero => intro nt g br h hv; exact absurd hv (by simp [nlp])
  | succ f ih =>
    intro nt g br h hv M
    unfold nlp at hv
    by_cases hg : g < 2799
    · rw [if_pos hg] at hv
      obtain ⟨h1, x1, S1, y1, n1⟩ := passes_p hge hge2 (by omega) M (nI 7)
      rw [Ref_plainOf_2_e, show Ref_passes0 b (7 : Int32) h = _ from x1]
      simp only [Option.bind_some]
      by_cases qc : cdA σ.2.1 ge g = nI 7
      · rw [if_pos qc] at hv
        rw [if_neg (fun x => bI_0.mp x (decide_eq_true qc))]
        obtain ⟨h3, x3, M3, S3⟩ := ih _ _ _ h1 hv (y1 qc)
        refine ⟨h3, ?_, M3, S1.tr S3⟩
        rw [← x3]
        cases nt with
        | false => rw [if_pos (by decide), Ref_plainOf_20_e]; rfl
        | true => rw [if_neg (by decide), Ref_plainOf_20_e]; rfl
      · rw [if_neg qc] at hv
        rw [if_pos (bI_0.mpr (fun z => qc (of_decide_eq_true z))), n1 qc]
        cases hP : P live g br with
        | none => rw [hP] at hv; exact absurd hv (by simp)
        | some r =>
          obtain ⟨x, g2, b1⟩ := r
          rw [hP] at hv
          dsimp only at hv
          have hv := Option.some.inj hv
          have e1 : (x != nt) = vr := congrArg Prod.fst hv
          have e2 : g2 = gr := congrArg (fun z => z.2.1) hv
          have e3 : b1 = br2 := congrArg (fun z => z.2.2) hv
          subst e1; subst e2; subst e3
          obtain ⟨h2, x2, M2, S2⟩ := HP _ _ _ _ _ _ h hP M
          refine ⟨h2, ?_, M2, S2⟩
          rw [if_pos (Nat.succ_pos dd), show dd + 1 - 1 = dd from rfl, x2]
          simp only [Option.bind_some]
          cases x <;> cases nt <;> first | (rw [if_pos (by decide)]; rfl) | (rw [if_neg (by decide)]; rfl)
    · rw [if_neg hg] at hv; exact absurd hv (by simp)
theorem plain_p (hge : σ.1 22 = nI ge) (hge2 : ge ≤ 2800) {dd : Nat} {P : Bool → Nat → Bool → EvB} (HP : OkG b σ (Ref_positiveOf dd b) P) : OkG b σ (Ref_plainOf (dd + 1) b) (fun live g br => nlp P σ.2.1 ge live 402 false g br) := by
  intro live g br v g2 b2 h hv M
  obtain ⟨h2, e2, M2, S2⟩ := plain_l hge hge2 HP 402 false g br h hv M
  refine ⟨h2, ?_, M2, S2⟩
  rw [Ref_plainOf_e, if_pos M.o]
  exact e2
theorem pos_p (hge : σ.1 22 = nI ge) (hge2 : ge ≤ 2800) {dd : Nat} {T : Bool → Nat → Bool → EvB} {S : Bool → Nat → Bool → EvR} (HS : ∀ live, OkF b σ (Ref_sumOf 40 b (bI live)) (S live)) (HT : OkG b σ (Ref_testOf dd b) T) : OkG b σ (Ref_positiveOf (dd + 1) b) (pov T S σ.2.1 ge) := by
  intro live g br v g2 b2 h hv M
  unfold pov at hv
  by_cases hg : g < 2799
  · rw [if_pos hg] at hv
    obtain ⟨h1, x1, S1, y1, n1⟩ := passes_p hge hge2 (by omega) M (nI 140)
    rw [Ref_positiveOf_e, if_pos M.o]
    unfold Ref_sign
    simp only [Option.bind_some]
    rw [show Ref_passes0 b ((100 : Int32) + 40) h = _ from x1]
    simp only [Option.bind_some]
    by_cases qc : cdA σ.2.1 ge g = nI 140
    · rw [if_pos qc] at hv
      rw [if_neg (fun x => bI_0.mp x (decide_eq_true qc))]
      cases hP : T live (g + 1) br with
      | none => rw [hP] at hv; exact absurd hv (by simp)
      | some r =>
        obtain ⟨x, g1, b1⟩ := r
        rw [hP] at hv
        dsimp only at hv
        have hv := Option.some.inj hv
        have e1 : x = v := congrArg Prod.fst hv
        have e2 : g1 + 1 = g2 := congrArg (fun z => z.2.1) hv
        have e3 : b1 = b2 := congrArg (fun z => z.2.2) hv
        subst e1; subst e2; subst e3
        obtain ⟨h2, x2, M2, S2⟩ := HT _ _ _ _ _ _ h1 hP (y1 qc)
        obtain ⟨h3, x3, M3, S3⟩ := ev_go M2 (g1 + 1)
        refine ⟨h3, ?_, M3, S1.tr (S2.tr S3)⟩
        rw [if_pos (Nat.succ_pos dd), show dd + 1 - 1 = dd from rfl, x2]
        simp only [Option.bind_some]
        rw [ev21 M2]
        simp only [Option.bind_some]
        rw [nI_p1, x3]
        simp only [Option.bind_some]
        rw [bI_z]
        rfl
    · rw [if_neg qc] at hv
      rw [if_pos (bI_0.mpr (fun z => qc (of_decide_eq_true z))), n1 qc]
      cases hP : S live g br with
      | none => rw [hP] at hv; exact absurd hv (by simp)
      | some r =>
        obtain ⟨x, g1, b1⟩ := r
        rw [hP] at hv
        dsimp only at hv
        by_cases hg1 : g1 < 2799
        · rw [if_pos hg1] at hv
          cases hQ : S live (g1 + 1) b1 with
          | none => rw [hQ] at hv; exact absurd hv (by simp)
          | some r =>
            obtain ⟨y, g3, b3⟩ := r
            rw [hQ] at hv
            dsimp only at hv
            have hv := Option.some.inj hv
            have e1 : (live && (!b3 && cmpv (cdA σ.2.1 ge g1) x y)) = v := congrArg Prod.fst hv
            have e2 : g3 = g2 := congrArg (fun z => z.2.1) hv
            have e3 : b3 = b2 := congrArg (fun z => z.2.2) hv
            subst e1; subst e2; subst e3
            obtain ⟨h2, x2, M2, S2⟩ := HS live _ _ _ _ _ h hP M
            obtain ⟨h3, x3, M3, S3⟩ := ev_go M2 (g1 + 1)
            obtain ⟨h4, x4, M4, S4⟩ := HS live _ _ _ _ _ h3 hQ M3
            refine ⟨h4, ?_, M4, S2.tr (S3.tr S4)⟩
            rw [x2]
            simp only [Option.bind_some]
            rw [ev21 M2]
            simp only [Option.bind_some]
            rw [codeAt_p hge hge2 (by omega) g1 (by omega) M2]
            simp only [Option.bind_some]
            rw [nI_p1, x3]
            simp only [Option.bind_some]
            rw [x4]
            simp only [Option.bind_some]
            cases live with
            | false => rw [if_pos (by decide)]; rfl
            | true =>
              rw [if_neg (by decide), ev23 M4]
              simp only [Option.bind_some]
              cases b3 with
              | true => rw [if_neg (by decide)]; rfl
              | false =>
                rw [if_pos (by decide)]
                unfold cmpv
                by_cases q1 : cdA σ.2.1 ge g1 = nI 160
                · rw [if_pos (show cdA σ.2.1 ge g1 = (100 : Int32) + 60 from q1), if_pos q1]
                  by_cases q2 : x < y
                  · rw [if_neg (fun z => cmpz.mp z q2), decide_eq_true q2]; rfl
                  · rw [if_pos (cmpz.mpr q2), decide_eq_false q2]; rfl
                · rw [if_neg (show ¬ cdA σ.2.1 ge g1 = (100 : Int32) + 60 from q1), if_neg q1]
                  by_cases q3 : cdA σ.2.1 ge g1 = nI 162
                  · rw [if_pos (show cdA σ.2.1 ge g1 = (100 : Int32) + 62 from q3), if_pos q3]
                    by_cases q2 : y < x
                    · rw [if_neg (fun z => cmpg.mp z q2), decide_eq_true q2]; rfl
                    · rw [if_pos (cmpg.mpr q2), decide_eq_false q2]; rfl
                  · rw [if_neg (show ¬ cdA σ.2.1 ge g1 = (100 : Int32) + 62 from q3), if_neg q3]
                    by_cases q2 : x = y
                    · rw [if_pos (cmp0.mpr q2), decide_eq_true q2]; rfl
                    · rw [if_neg (fun z => q2 (cmp0.mp z)), decide_eq_false q2]; rfl
        · rw [if_neg hg1] at hv; exact absurd hv (by simp)
  · rw [if_neg hg] at hv; exact absurd hv (by simp)
theorem test_p (hge : σ.1 22 = nI ge) (hge2 : ge ≤ 2800) {S : Bool → Nat → Bool → EvR} (HS : ∀ live, OkF b σ (Ref_sumOf 40 b (bI live)) (S live)) : ∀ (D dd : Nat), 4 * D ≤ dd → OkG b σ (Ref_testOf dd b) (tsv S σ.2.1 ge D)
  | 0, _, _ => fun _ _ _ _ _ _ _ hv => absurd hv (by simp [tsv])
  | D + 1, dd, hdd => by
    obtain ⟨e, rfl⟩ : ∃ e, dd = e + 1 + 1 + 1 + 1 := ⟨dd - 4, by omega⟩
    exact testOf_p hge hge2 (bothOf_p hge hge2 (plain_p hge hge2 (pos_p hge hge2 HS (test_p hge hge2 HS D e (by omega)))))
end EvZ
