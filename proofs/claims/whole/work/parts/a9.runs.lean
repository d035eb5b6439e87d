/-! ONE: orders: a clause as often as it says -/
/-- a clause run k times, by its meaning -/
def tmS (n : Nat) (TU SI : Po → Int32) (EN : Po → Bool) (f : Nat → Int32) (tt : Nat) (S : CSt) : Nat → OSt → Bool × OSt
  | 0, z => (true, z)
  | k + 1, z => if (onS n TU SI EN (wrh n z.1 z.2.1 z.2.2.C z.2.2.D) f tt S z.1 z.2.1 z.2.2).1 = true then tmS n TU SI EN f tt S k (onS n TU SI EN (wrh n z.1 z.2.1 z.2.2.C z.2.2.D) f tt S z.1 z.2.1 z.2.2).2 else (false, (onS n TU SI EN (wrh n z.1 z.2.1 z.2.2.C z.2.2.D) f tt S z.1 z.2.1 z.2.2).2)
theorem OrdR.tm {N c : Nat} {cf kf sf tf mf f : Nat → Int32} {t : Nat} {L : List CSt} (H : OrdR N c cf kf sf tf mf f t L) {j : Nat} {S : CSt} (hS : L[j]? = some S) (n : Nat) (TU SI : Po → Int32) (EN : Po → Bool) : ∀ (k : Nat) (z : OSt), tmq n TU SI EN (RpM N 21 cf) kf sf tf j k z = tmS n TU SI EN f t S k z
  | 0, z => rfl
  | k + 1, z => by
    unfold tmq tmS
    rw [H.on hS, OrdR.tm H hS n TU SI EN k]
section OrdT
variable {b : Nat} {h : am_H} {σ : am_S} {n : Nat} {z : OSt} {f : Nat → Int32} {tt N : Nat} {TU SI : Po → Int32} {EN : Po → Bool}
theorem wrh_nb {d : Nat} {la : Int32} {t : HSt} (hn : n ≤ 6) (hd : d < 2 ^ 31) (hl : ¬ la = BRK) (ho : t.ok n) : ∀ i, ¬ wrh n (nI d) la t.C t.D i = BRK := by
  have e : (BRK : Int32).toInt = -2147483648 := by decide
  have nb : ∀ x : Int32, -1 ≤ x.toInt → ¬ x = BRK := fun x h z => by rw [z, e] at h; omega
  have nn : ∀ m, m < 2 ^ 31 → ¬ nI m = BRK := fun m hm => nb _ (by rw [tin hm]; omega)
  have n1 : ¬ (-1 : Int32) = BRK := by decide
  intro i
  unfold wrh
  split
  · exact nn _ (by omega)
  split
  · exact nn _ hd
  split
  · exact hl
  split
  · split
    · rename_i q
      exact nb _ (by have := ((ho _ q).1.2.2.1 0 (ho _ q).1.1).1; omega)
    · exact n1
  split
  · split
    · rename_i q
      exact nn _ (Nat.lt_of_le_of_lt (ho _ q).2 (by decide))
    · exact n1
  · split
    · rename_i q
      exact nn _ (by have := (ho _ q).1.2.1; omega)
    · exact n1
theorem enq_la {kd a c d dn la : Int32} {t : HSt} (h1 : (enq n TU SI EN kd a c d dn la t).1 = true) (hl : ¬ la = BRK) : ¬ (enq n TU SI EN kd a c d dn la t).2.2.1 = BRK := by
  unfold enq at h1 ⊢
  split at h1
  · exact absurd h1 Bool.false_ne_true
  · rename_i q
    rw [if_neg q]
    split at h1
    · rename_i q2
      rw [if_pos q2]
      exact fun w => of_decide_eq_true h1 (show (trq n TU SI EN t a).1 < 0 by rw [show (trq n TU SI EN t a).1 = BRK from w]; decide)
    · rename_i q2
      rw [if_neg q2]
      split
      · exact hl
      · exact hl
theorem onS_kd {kd : Nat} {S : CSt} {ws : Nat → Int32} {dn la : Int32} {t : HSt} (hkd : kd < 3) (ek : amg f tt 0 S.1 = nI kd) (ho : otV ws f tt S = some true) : onS n TU SI EN ws f tt S dn la t = enq n TU SI EN (nI kd) ((osV ws f tt S 0).getD BRK) (if kd = 0 then 0 else (osV ws f tt S 1).getD BRK) (if kd = 1 then (osV ws f tt S 2).getD BRK else 0) dn la t := by
  unfold onS
  rw [if_pos ho, ek]
  rcases (show kd = 0 ∨ kd = 1 ∨ kd = 2 by omega) with rfl | rfl | rfl
  · rw [if_pos (show nI 0 = 0 by decide), if_neg (show ¬ nI 0 = 1 by decide)]; rfl
  · rw [if_neg (show ¬ nI 1 = 0 by decide), if_pos (show nI 1 = 1 by decide)]; rfl
  · rw [if_neg (show ¬ nI 2 = 0 by decide), if_neg (show ¬ nI 2 = 1 by decide)]; rfl
theorem ORel.al (H : ORel b h σ n z f tt N TU SI EN) {h1 : am_H} {S2 : Nat → Int32} {B2 : Nat → Int64} (M1 : Mo b h1 (S2, σ.2.1, B2)) (h39 : S2 39 = σ.1 39) (hb : ∃ br : Bool, S2 23 = nI (bN (br = true))) : ORel b h1 (S2, σ.2.1, B2) n z f tt N TU SI EN := by
  obtain ⟨⟨M, U, u, hb0, hL⟩, r0, r1, r2, E, HT, ho⟩ := H
  exact ⟨⟨M1, U, h39.trans u, hb, hL⟩, r0, r1, r2, E, HT, ho⟩
theorem Lo.al {S2 : Nat → Int32} {B2 : Nat → Int64} (hF : ∀ k, k ∉ FA → S2 k = σ.1 k) : Lo σ (S2, σ.2.1, B2) := ⟨fun k hk => hF k (fun w => hk (by revert w; simp only [List.mem_cons, List.not_mem_nil, or_false]; omega)), fun _ _ => rfl, fun _ _ => rfl⟩
theorem otm_b {S : CSt} (hg : (rcl f tt 1 S).1 = true) : otm f tt S ≤ 20 := by
  have er : rcl f tt 1 S = ror f tt 1 S := if_neg (by decide)
  rw [er] at hg
  obtain ⟨⟨_, _, _, r4, _⟩, _⟩ := ror_good hg
  unfold otm
  split
  · rename_i q; exact (r4 q).2.2
  · omega
theorem runs_19_r {S : CSt} {i : Nat} (hg : (rcl f tt 1 S).1 = true) (a : AtE f tt N i S.1) (v3 : Int32) : ∀ (k v d : Nat) (h : am_H) (σ : am_S) (z : OSt), v + k = otm f tt S → z.1 = nI d → d + k < 2 ^ 31 → ¬ z.2.1 = BRK → ORel b h σ n z f tt N TU SI EN → σ.1 47 = nI (2400 + i) → ∃ h2 σ2, Lo σ σ2 ∧ Same b h h2 ∧ Mo b h2 σ2 ∧ Bo σ2 ∧ ((tmS n TU SI EN f tt S k z).1 = true → Ref_runs_19 b (nI (2400 + N)) (nI (otm f tt S)) v3 (nI v) h = some (1, h2) ∧ ORel b h2 σ2 n (tmS n TU SI EN f tt S k z).2 f tt N TU SI EN ∧ σ2.1 47 = v3 ∧ (∃ d2, d2 ≤ d + k ∧ (tmS n TU SI EN f tt S k z).2.1 = nI d2) ∧ ¬ (tmS n TU SI EN f tt S k z).2.2.1 = BRK) ∧ (¬ (tmS n TU SI EN f tt S k z).1 = true → Ref_runs_19 b (nI (2400 + N)) (nI (otm f tt S)) v3 (nI v) h = some (0, h2))
  | 0, v, d, h, σ, z, hk, hd, hdb, hl, H, h47 => by
    have M := H.1.1
    have hv : v = otm f tt S := hk
    obtain ⟨h2, x2, M2, S2⟩ := M.w47 v3
    refine ⟨h2, (upd σ.1 47 v3, σ.2), ⟨fun k hk => pk_un (fun w => hk (by rw [w]; decide)), fun _ _ => rfl, fun _ _ => rfl⟩, S2, M2, H.1.2.2.2.1, fun _ => ⟨?_, H.al (S2 := upd σ.1 47 v3) M2 rfl H.1.2.2.2.1, rfl, ⟨d, Nat.le_refl _, hd⟩, hl⟩, fun w => absurd rfl w⟩
    rw [Ref_runs_19_e, hv, if_pos (tile.mpr (Int.le_refl _)), x2]
    rfl
  | k + 1, v, d, h, σ, z, hk, hd, hdb, hl, H, h47 => by
    have hot := otm_b hg
    have M := H.1.1
    have hn := H.1.2.1.1
    have hp := H.1.2.1.hp
    have hw := H.hw
    have ho := H.2.2.2.2.2.2
    obtain ⟨h1, S1, B1, i2, kd, x1, M1, Sm1, F1, b1, e48, hkd, ek, e49, hi2, a2, e21, e51, sa, e50, sg⟩ := along_p (live := true) H.2.2.2.2.1 hw hp.1 hn hg a h47 H.1.2.2.2.1 M
    have x1 : Ref_goesAlong b (nI (2400 + N)) (1 : Int32) h = some h1 := x1
    have e51 := e51 rfl
    obtain ⟨sg1, sg2⟩ := sg rfl
    have H1 : ORel b h1 (S1, σ.2.1, B1) n z f tt N TU SI EN := H.al M1 (F1 39 (by decide)) b1
    have L1 : Lo σ (S1, σ.2.1, B1) := Lo.al F1
    have f47 : S1 47 = nI (2400 + i) := (F1 47 (by decide)).trans h47
    have hnb : ∀ i, ¬ wrh n z.1 z.2.1 z.2.2.C z.2.2.D i = BRK := by rw [hd]; exact wrh_nb hn (by omega) hl ho
    have nle : ¬ nI (otm f tt S) ≤ nI v := fun w => by
      have := tile.mp w
      rw [tin (show otm f tt S < 2 ^ 31 by omega), tin (show v < 2 ^ 31 by omega)] at this
      omega
    have ev : nI v + 1 = nI (v + 1) := nI_add v 1
    have eR : Ref_runs_19 b (nI (2400 + N)) (nI (otm f tt S)) v3 (nI v) h = if bI (decide (otV (wrh n z.1 z.2.1 z.2.2.C z.2.2.D) f tt S = some true)) = (0 : Int32) then Ref_runs_19 b (nI (2400 + N)) (nI (otm f tt S)) v3 (nI (v + 1)) h1 else if bI sa = (0 : Int32) then some (0, h1) else (Ref_obeys b h1).bind fun r17 => if (0 : Int32) ≤ r17.1 then (gR r17.2 12 b 28).bind fun x22 => (aI r17.2 0 x22 (1 : Int32)).bind fun x24 => (sI r17.2 x22 (1 : Int32) (x24 + (1 : Int32))).bind fun h26 => Ref_runs_19 b (nI (2400 + N)) (nI (otm f tt S)) v3 (nI (v + 1)) h26 else some ((0 : Int32), r17.2) := by
      rw [Ref_runs_19_e, if_neg nle, x1]
      simp only [Option.bind_some]
      rw [M1.i51, M1.i50]
      simp only [Option.bind_some]
      rw [e51, e50]
      simp only [Ref_runs_67_e, ev]
    by_cases q : otV (wrh n z.1 z.2.1 z.2.2.C z.2.2.D) f tt S = some true
    · have eo := onS_kd (n := n) (TU := TU) (SI := SI) (EN := EN) (dn := z.1) (la := z.2.1) (t := z.2.2) hkd ek q
      rw [decide_eq_true q, if_neg (show ¬ bI true = (0 : Int32) by decide)] at eR
      cases sa with
      | false =>
        rw [if_pos (show bI false = (0 : Int32) by decide)] at eR
        have ef : ¬ (onS n TU SI EN (wrh n z.1 z.2.1 z.2.2.C z.2.2.D) f tt S z.1 z.2.1 z.2.2).1 = true := fun w => by
          rw [eo] at w
          unfold enq at w
          by_cases y : (osV (wrh n z.1 z.2.1 z.2.2.C z.2.2.D) f tt S 0).getD BRK = BRK ∨ (if kd = 0 then 0 else (osV (wrh n z.1 z.2.1 z.2.2.C z.2.2.D) f tt S 1).getD BRK) = BRK ∨ (if kd = 1 then (osV (wrh n z.1 z.2.1 z.2.2.C z.2.2.D) f tt S 2).getD BRK else 0) = BRK
          · rw [if_pos y] at w; exact absurd w Bool.false_ne_true
          · refine absurd (sg1.mpr (fun i hi e => y ?_)) Bool.false_ne_true
            rcases (show kd = 0 ∨ kd = 1 ∨ kd = 2 by omega) with rfl | rfl | rfl
            · have hi : i < 1 := hi
              obtain rfl : i = 0 := by omega
              exact Or.inl (by rw [e]; rfl)
            · have hi : i < 3 := hi
              rcases (show i = 0 ∨ i = 1 ∨ i = 2 by omega) with rfl | rfl | rfl
              · exact Or.inl (by rw [e]; rfl)
              · exact Or.inr (Or.inl (by rw [e]; rfl))
              · exact Or.inr (Or.inr (by rw [e]; rfl))
            · have hi : i < 2 := hi
              rcases (show i = 0 ∨ i = 1 by omega) with rfl | rfl
              · exact Or.inl (by rw [e]; rfl)
              · exact Or.inr (Or.inl (by rw [e]; rfl))
        refine ⟨h1, (S1, σ.2.1, B1), L1, Sm1, M1, b1, fun w => ?_, fun _ => eR⟩
        unfold tmS at w
        rw [if_neg ef] at w
        exact absurd w Bool.false_ne_true
      | true =>
        rw [if_neg (show ¬ bI true = (0 : Int32) by decide)] at eR
        have gv : ∀ i, i < (if kd = 0 then 1 else if kd = 1 then 3 else 2) → ¬ (osV (wrh n z.1 z.2.1 z.2.2.C z.2.2.D) f tt S i).getD BRK = BRK ∧ B1 i = ((osV (wrh n z.1 z.2.1 z.2.2.C z.2.2.D) f tt S i).getD BRK).toInt64 := fun i hi => by
          cases e : osV (wrh n z.1 z.2.1 z.2.2.C z.2.2.D) f tt S i with
          | none => exact absurd e (sg1.mp rfl i hi)
          | some x => exact ⟨smV_nb hnb e, sg2 i x hi e⟩
        have z0 : ¬ (0 : Int32) = BRK := by decide
        have g0 := gv 0 (by split; omega; split <;> omega)
        have g1 : ¬ kd = 0 → _ := fun w => gv 1 (by rw [if_neg w]; split <;> omega)
        have g2 : kd = 1 → _ := fun w => gv 2 (by rw [w]; decide)
        obtain ⟨h2, σ2, r, x2, ⟨L2, f2, b2⟩, S2, M2, r12, iff2, D2⟩ := obeys_r H1 hkd e49 (a := (osV (wrh n z.1 z.2.1 z.2.2.C z.2.2.D) f tt S 0).getD BRK) (c := (osV (wrh n z.1 z.2.1 z.2.2.C z.2.2.D) f tt S 1).getD BRK) (d := (osV (wrh n z.1 z.2.1 z.2.2.C z.2.2.D) f tt S 2).getD BRK) g0.2 (fun w => (g1 w).2) (fun w => (g2 w).2) g0.1 (by by_cases w : kd = 0; rw [if_pos w]; exact z0; rw [if_neg w]; exact (g1 w).1) (by by_cases w : kd = 1; rw [if_pos w]; exact (g2 w).1; rw [if_neg w]; exact z0)
        rw [← eo] at iff2 D2
        rw [x2] at eR
        simp only [Option.bind_some] at eR
        have nl : (0 : Int32) ≤ r ↔ ¬ r < 0 := by rw [tile, tilt]; omega
        by_cases q2 : r < 0
        · rw [if_neg (fun w => nl.mp w q2)] at eR
          refine ⟨h2, σ2, L1.tr L2, Sm1.tr S2, M2, b2, fun w => ?_, fun _ => eR⟩
          unfold tmS at w
          rw [if_neg (fun y => iff2.mp y q2)] at w
          exact absurd w Bool.false_ne_true
        · obtain ⟨R2, d0, d2, d1⟩ := D2 q2
          have eT : tmS n TU SI EN f tt S (k + 1) z = tmS n TU SI EN f tt S k (onS n TU SI EN (wrh n z.1 z.2.1 z.2.2.C z.2.2.D) f tt S z.1 z.2.1 z.2.2).2 := by
            conv => lhs; unfold tmS
            rw [if_pos (iff2.mpr q2)]
          have hla := enq_la (n := n) (TU := TU) (SI := SI) (EN := EN) (by rw [← eo]; exact iff2.mpr q2) hl
          rw [← eo] at hla
          rw [if_pos (nl.mpr q2), M2.r28] at eR
          simp only [Option.bind_some] at eR
          rw [show aI h2 0 (b + 1 + 12) (1 : Int32) = some z.1 from (M2.rd (r := 12) (i := 1) (by decide) (by decide) (by decide)).trans (congrArg some r12)] at eR
          simp only [Option.bind_some] at eR
          obtain ⟨h3, x3, M3, S3⟩ := M2.wr (r := 12) (i := 1) (by decide) (by decide) rfl (by decide) (z.1 + 1)
          rw [show sI h2 (b + 1 + 12) (1 : Int32) _ = _ from x3] at eR
          simp only [Option.bind_some] at eR
          have L3 : Lo (S1, σ.2.1, B1) (σ2.1, u2 σ2.2.1 12 1 (z.1 + 1), σ2.2.2) := L2.tr ⟨fun _ _ => rfl, fun k hk => rs_ne (fun w => hk (by rw [w]; decide)), fun _ _ => rfl⟩
          have H3 : ORel b h3 (σ2.1, u2 σ2.2.1 12 1 (z.1 + 1), σ2.2.2) n (onS n TU SI EN (wrh n z.1 z.2.1 z.2.2.C z.2.2.D) f tt S z.1 z.2.1 z.2.2).2 f tt N TU SI EN := ⟨⟨M3, R2.2.1, R2.2.2.1, R2.2.2.2.1, R2.2.2.2.2⟩, d0, d1.symm, d2, H1.2.2.2.2.1.cg L3.2.2, TkR.cg H1.2.2.2.2.2.1 H1.1.2.2.2.2 hp.1 hn L3.2.2, R2.2.1.hp.ok⟩
          obtain ⟨h4, σ4, L4, S4, M4, b4, P4, Q4⟩ := runs_19_r hg a v3 k (v + 1) (d + 1) h3 _ _ (by omega) (by rw [d1, hd]; exact nI_add d 1) (by omega) hla H3 (f2.trans f47)
          rw [eT, eR]
          refine ⟨h4, σ4, (L1.tr L3).tr L4, ((Sm1.tr S2).tr S3).tr S4, M4, b4, fun w => ?_, Q4⟩
          obtain ⟨p1, p2, p3, ⟨d2, hd2, p4⟩, p5⟩ := P4 w
          exact ⟨p1, p2, p3, ⟨d2, by omega, p4⟩, p5⟩
    · have eo : onS n TU SI EN (wrh n z.1 z.2.1 z.2.2.C z.2.2.D) f tt S z.1 z.2.1 z.2.2 = (true, z) := if_neg q
      have eT : tmS n TU SI EN f tt S (k + 1) z = tmS n TU SI EN f tt S k z := by
        conv => lhs; unfold tmS
        rw [eo, if_pos rfl]
      rw [decide_eq_false q, if_pos (show bI false = (0 : Int32) by decide)] at eR
      obtain ⟨h4, σ4, L4, S4, M4, b4, P4, Q4⟩ := runs_19_r hg a v3 k (v + 1) d h1 _ z (by omega) hd (by omega) hl H1 f47
      rw [eT, eR]
      refine ⟨h4, σ4, L1.tr L4, Sm1.tr S4, M4, b4, fun w => ?_, Q4⟩
      obtain ⟨p1, p2, p3, ⟨d2, hd2, p4⟩, p5⟩ := P4 w
      exact ⟨p1, p2, p3, ⟨d2, by omega, p4⟩, p5⟩
/-- one clause of orders -/
theorem runs_r {S : CSt} {i d : Nat} (hg : (rcl f tt 1 S).1 = true) (a : AtE f tt N i S.1) (hd : z.1 = nI d) (hdb : d + 20 < 2 ^ 31) (hl : ¬ z.2.1 = BRK) (H : ORel b h σ n z f tt N TU SI EN) (h47 : σ.1 47 = nI (2400 + i)) : ∃ h2 σ2 i2, Lo σ σ2 ∧ Same b h h2 ∧ Mo b h2 σ2 ∧ Bo σ2 ∧ i < i2 ∧ AtE f tt N i2 (rcl f tt 1 S).2.1 ∧ ((tmS n TU SI EN f tt S (otm f tt S) z).1 = true → Ref_runs b (nI (2400 + N)) h = some (1, h2) ∧ ORel b h2 σ2 n (tmS n TU SI EN f tt S (otm f tt S) z).2 f tt N TU SI EN ∧ σ2.1 47 = nI (2400 + i2 + 1) ∧ (∃ d2, d2 ≤ d + 20 ∧ (tmS n TU SI EN f tt S (otm f tt S) z).2.1 = nI d2) ∧ ¬ (tmS n TU SI EN f tt S (otm f tt S) z).2.2.1 = BRK) ∧ (¬ (tmS n TU SI EN f tt S (otm f tt S) z).1 = true → Ref_runs b (nI (2400 + N)) h = some (0, h2)) := by
  have hot := otm_b hg
  obtain ⟨h1, S1, B1, i2, kd, x1, M1, Sm1, F1, b1, e48, hkd, ek, e49, hi2, a2, e21, e51, sa, e50, sg⟩ := along_p (live := false) H.2.2.2.2.1 H.hw H.1.2.1.hp.1 H.1.2.1.1 hg a h47 H.1.2.2.2.1 H.1.1
  have x1 : Ref_goesAlong b (nI (2400 + N)) (0 : Int32) h = some h1 := x1
  have H1 : ORel b h1 (S1, σ.2.1, B1) n z f tt N TU SI EN := H.al M1 (F1 39 (by decide)) b1
  obtain ⟨h4, σ4, L4, S4, M4, b4, P4, Q4⟩ := runs_19_r hg a (nI (2400 + i2 + 1)) (otm f tt S) 0 d h1 _ z (Nat.zero_add _) hd (by omega) hl H1 ((F1 47 (by decide)).trans h47)
  have eR : Ref_runs b (nI (2400 + N)) h = Ref_runs_19 b (nI (2400 + N)) (nI (otm f tt S)) (nI (2400 + i2 + 1)) (nI 0) h1 := by
    unfold Ref_runs
    rw [if_pos H.1.1.o, x1]
    simp only [Option.bind_some]
    rw [M1.i48, M1.i21]
    simp only [Option.bind_some]
    rw [e48, e21]
    rfl
  rw [eR]
  refine ⟨h4, σ4, i2, (Lo.al F1).tr L4, Sm1.tr S4, M4, b4, hi2, a2, fun w => ?_, Q4⟩
  obtain ⟨p1, p2, p3, ⟨d2, hd2, p4⟩, p5⟩ := P4 w
  exact ⟨p1, p2, p3, ⟨d2, by omega, p4⟩, p5⟩
end OrdT
