/-! PURE: evenings -/
abbrev eveF (he to mst : Int32) (sd : Int64) : List Value := [.int he, .int to, .int mst, .ref 172, .ref 99, .long sd]
def EvA (h : am_H) (he to mst : Int32) (sd : Int64) : Prop := h[171]? = some (.inr (0, eveF he to mst sd))
section Eve
variable {h : am_H} {S : Nat → Int32} {r c : Nat} {p : Po} {n s w : Nat} {fo mo ah : Int32} {ss sc : Nat → Int32} {tx : Nat → Option Nat} {TU SI : Po → Int32} {EN : Po → Bool} {L : Nat} {he to mst : Int32} {sd : Int64}
theorem EvA.fr {P : Nat → Prop} {h2 : am_H} (H : EvA h he to mst sd) (F : Fr P h h2) (hp : ¬ P 171) : EvA h2 he to mst sd := (F _ hp).trans H
theorem EvA.sd5 (H : EvA h he to mst sd) : gJ h 0 171 5 = some sd := by unfold gJ; rw [ob_of H]; rfl
theorem EvA.p5 (H : EvA h he to mst sd) (y : Int64) : pV h 0 171 5 (.long y) = some (h.set 171 (.inr (0, eveF he to mst y))) ∧ EvA (h.set 171 (.inr (0, eveF he to mst y))) he to mst y := ⟨by unfold pV; rw [ob_of H]; rfl, set_at H⟩
theorem EvA.p0 (H : EvA h he to mst sd) (y : Int32) (hy : y = 1) : pV h 0 171 0 (.int y) = some (h.set 171 (.inr (0, eveF y to mst sd))) ∧ EvA (h.set 171 (.inr (0, eveF y to mst sd))) y to mst sd := ⟨by unfold pV; rw [ob_of H]; rfl, set_at H⟩
theorem EvA.p1 (H : EvA h he to mst sd) (y : Int32) : pV h 0 171 1 (.int y) = some (h.set 171 (.inr (0, eveF he y mst sd))) ∧ EvA (h.set 171 (.inr (0, eveF he y mst sd))) he y mst sd := ⟨by unfold pV; rw [ob_of H]; rfl, set_at H⟩
theorem EvA.p2 (H : EvA h he to mst sd) (y : Int32) : pV h 0 171 2 (.int y) = some (h.set 171 (.inr (0, eveF he to y sd))) ∧ EvA (h.set 171 (.inr (0, eveF he to y sd))) he to y sd := ⟨by unfold pV; rw [ob_of H]; rfl, set_at H⟩
abbrev vP (r : Nat) : Nat → Prop := fun a => a = 171 ∨ rP r a
theorem Evenings_shuffle_l (hr : r ≠ 171 ∧ r + 1 ≠ 171) (hm1 : 1 ≤ p.2.1) : ∀ (a : Nat) (h : am_H) (f : Nat → Int32) (s0 : Nat), a < p.2.1 → s0 ≤ 1000003 → EvA h he to mst (lN s0) → RowAt h r c (f, p.2) → ∃ h2, Evenings_shuffle_7 171 r (nI a) h = some h2 ∧ EvA h2 he to mst (lN (shf a f s0).2) ∧ (shf a f s0).2 ≤ 1000003 ∧ RowAt h2 r c ((shf a f s0).1, p.2) ∧ Fr (vP r) h h2 := by
  intro a
  induction a with
  | zero =>
    intro h f s0 _ hs0 HE HR
    exact ⟨h, by rw [Evenings_shuffle_7_e, if_pos (by decide)], HE, hs0, HR, Fr.rf⟩
  | succ a ih =>
    intro h f s0 ha hs0 HE HR
    have hm := HR.m
    have hm2 : p.2.1 ≤ 13 := hm
    have ta := tin (show a + 1 < 2 ^ 31 by omega)
    have hd := dr_lt s0
    obtain ⟨q5, E1⟩ := HE.p5 (lN (dr s0))
    have F1 : Fr (fun x => x = 171) h (h.set 171 (.inr (0, eveF he to mst (lN (dr s0))))) := Fr.set rfl
    generalize h.set 171 (.inr (0, eveF he to mst (lN (dr s0)))) = h1 at q5 E1 F1
    have R1 := HR.fr F1 hr.1 hr.2
    have hmod : dr s0 % (a + 2) < a + 2 := Nat.mod_lt _ (by omega)
    have td := tin (show dr s0 % (a + 2) < 2 ^ 31 by omega)
    obtain ⟨h2, e2, R2, F2⟩ := R1.exch (i := nI (a + 1)) (j := nI (dr s0 % (a + 2))) ⟨by omega, by show _ < (p.2.1 : Int); omega⟩ ⟨by omega, by show _ < (p.2.1 : Int); omega⟩
    rw [ta, td, show ((a + 1 : Nat) : Int).toNat = a + 1 by omega, show ((dr s0 % (a + 2) : Nat) : Int).toNat = dr s0 % (a + 2) by omega] at R2
    have E2 := E1.fr F2 (by rintro (z | z) <;> omega)
    obtain ⟨h3, e3, E3, b3, R3, F3⟩ := ih h2 (sw2 f (a + 1) (dr s0 % (a + 2))) (dr s0) (by omega) (by omega) E2 R2
    refine ⟨h3, ?_, E3, b3, R3, ((F1.mono (fun x hx => Or.inl hx)).tr (F2.mono (fun x hx => Or.inr hx))).tr F3⟩
    have r1 : rmJ ((lN s0 * (1103 : Int64)) + (12345 : Int64)) (1000003 : Int64) = some (lN (dr s0)) := by
      unfold rmJ
      rw [if_neg (by decide), show (1103 : Int64) = lN 1103 by decide, show (12345 : Int64) = lN 12345 by decide, show (1000003 : Int64) = lN 1000003 by decide, lN_mul, lN_add, pk_lRem (by omega) (by omega) (by omega)]
      exact congrArg (fun z => some (lN z)) (by unfold dr; rw [Nat.mul_comm])
    have r2 : rmJ (lN (dr s0)) (Int32.toInt64 (nI (a + 1) + (1 : Int32))) = some (lN (dr s0 % (a + 2))) := by
      rw [nI_p1, i64n (by omega)]
      unfold rmJ
      rw [if_neg (fun z => by have := lN_inj (a := a + 1 + 1) (b := 0) (by omega) (by omega) z; omega), pk_lRem (by omega) (by omega) (by omega)]
    rw [Evenings_shuffle_7_e, if_neg (fun z => by have := tile.mp z; rw [ta, ti0] at this; omega), HE.sd5]
    simp only [Option.bind_some]
    rw [r1]
    simp only [Option.bind_some]
    rw [q5]
    simp only [Option.bind_some]
    rw [E1.sd5]
    simp only [Option.bind_some]
    rw [r2]
    simp only [Option.bind_some]
    rw [lN_i, e2]
    simp only [Option.bind_some]
    rw [show nI (a + 1) + (-1 : Int32) = nI a from pk_m1 a]
    exact e3
theorem Evenings_shuffle_v (hr : r ≠ 171 ∧ r + 1 ≠ 171) (hm1 : 1 ≤ p.2.1) {s0 : Nat} (hs0 : s0 ≤ 1000003) (HE : EvA h he to mst (lN s0)) (HR : RowAt h r c p) : ∃ h2, Evenings_shuffle 171 r h = some h2 ∧ EvA h2 he to mst (lN (shf (p.2.1 - 1) p.1 s0).2) ∧ (shf (p.2.1 - 1) p.1 s0).2 ≤ 1000003 ∧ RowAt h2 r c ((shf (p.2.1 - 1) p.1 s0).1, p.2) ∧ Fr (vP r) h h2 := by
  obtain ⟨h2, e, g⟩ := Evenings_shuffle_l (p := p) hr hm1 (p.2.1 - 1) h p.1 s0 (by omega) hs0 HE HR
  refine ⟨h2, ?_, g⟩
  unfold Evenings_shuffle
  rw [if_pos (isO_of HE), HR.g1]
  simp only [Option.bind_some]
  rw [show nI p.2.1 - (1 : Int32) = nI (p.2.1 - 1) from pk_sub (a := p.2.1) (b := 1) hm1]
  exact e
theorem shf_ok {m : Nat} : ∀ (a : Nat) (f : Nat → Int32) (s0 : Nat), a < m → (∀ i, i < m → 0 ≤ (f i).toInt ∧ (f i).toInt ≤ 13) → ∀ i, i < m → 0 ≤ ((shf a f s0).1 i).toInt ∧ ((shf a f s0).1 i).toInt ≤ 13
  | 0, f, s0, _, h => h
  | a + 1, f, s0, ha, h => by
    refine shf_ok a (sw2 f (a + 1) (dr s0 % (a + 2))) (dr s0) (by omega) (fun i hi => ?_)
    have hmod : dr s0 % (a + 2) < a + 2 := Nat.mod_lt _ (by omega)
    unfold sw2 upd
    split
    · exact h _ ha
    · split
      · exact h _ (by omega)
      · exact h _ hi
/-- the evenings one after another: the row, the draw, how many ended, steps together, the most, the last beginning -/
def evq (TU SI : Po → Int32) (EN : Po → Bool) (L m : Nat) (nu : Int32) : Nat → (Nat → Int32) → Nat → Nat → Nat → Int32 → (Nat → Int32) → (Nat → Int32) × Nat × Nat × Nat × Int32 × (Nat → Int32)
  | 0, f, s0, en, tg, ms, b => (f, s0, en, tg, ms, b)
  | k + 1, f, s0, en, tg, ms, _ =>
    let sh := shf (m - 1) f s0
    let q : Po := (sh.1, m, 0, nu)
    let g := goq TU SI EN q L (L + 1)
    if g.1 = 0 then evq TU SI EN L m nu k (sqn TU SI q g.2.1).1 sh.2 (en + 1) (tg + g.2.1) (if ms < nI g.2.1 then nI g.2.1 else ms) sh.1
    else evq TU SI EN L m nu k (sqn TU SI q g.2.1).1 sh.2 en tg ms sh.1
theorem sqn_2 {q : Po} (k : Nat) : (sqn TU SI q k).2.1 = q.2.1 ∧ (sqn TU SI q k).2.2.2 = q.2.2.2 := by
  induction k with
  | zero => exact ⟨rfl, rfl⟩
  | succ k ih => exact ih
theorem goq_lt {q : Po} : ∀ f, (goq TU SI EN q L f).2.1 ≤ L ∧ (goq TU SI EN q L f).1 < 4 := by
  intro f
  induction f with
  | zero => exact ⟨Nat.zero_le _, show 3 < 4 by decide⟩
  | succ f ih =>
    show (if _ then _ else _ : Nat × Nat × Option Nat).2.1 ≤ L ∧ (if _ then _ else _ : Nat × Nat × Option Nat).1 < 4
    split
    · exact ⟨Nat.sub_le _ _, show 0 < 4 by decide⟩
    · split
      · exact ⟨Nat.sub_le _ _, show 1 < 4 by decide⟩
      · split
        · exact ⟨Nat.sub_le _ _, show 2 < 4 by decide⟩
        · split
          · exact ⟨Nat.sub_le _ _, show 3 < 4 by decide⟩
          · exact ih
abbrev wP : Nat → Prop := fun a => gP 174 a ∨ a = 171 ∨ rP 172 a
theorem Evenings_hold_l (hL : L ≤ 300) (hah : ah = nI L) {m : Nat} {nu : Int32} (hm1 : 1 ≤ m) (hm13 : m ≤ 13) {N : Nat} (hN : N ≤ 60) : ∀ (k i : Nat) (h : am_H) (S : Nat → Int32) (g : Nat → Int64) (c : Nat) (f b : Nat → Int32) (l : Int32) (s0 en tg : Nat) (ms : Int32), i + k = N → tg ≤ 300 * i → en ≤ i → StW h S n s w fo mo ah ss sc tx TU SI EN → SnA h g → EvA h 1 (nI tg) ms (lN s0) → s0 ≤ 1000003 → RowAt h 174 c (f, m, l, nu) → c ≤ 9999 → (∀ j, j < m → 0 ≤ (f j).toInt ∧ (f j).toInt ≤ 13) → (∃ c2 q2, RowAt h 172 c2 q2 ∧ (1 ≤ i → ∃ x, q2 = (b, m, x, nu))) → ∃ h2 S2 g2, Evenings_hold_27 171 174 (nI N) (nI en) (nI i) h = some (nI (evq TU SI EN L m nu k f s0 en tg ms b).2.2.1, h2) ∧ StW h2 S2 n s w fo mo ah ss sc tx TU SI EN ∧ SnA h2 g2 ∧ (∃ sd, EvA h2 1 (nI (evq TU SI EN L m nu k f s0 en tg ms b).2.2.2.1) (evq TU SI EN L m nu k f s0 en tg ms b).2.2.2.2.1 sd) ∧ (∃ c2 q2, RowAt h2 174 c2 q2) ∧ (∃ c2 q2, RowAt h2 172 c2 q2 ∧ (1 ≤ N → ∃ x, q2 = ((evq TU SI EN L m nu k f s0 en tg ms b).2.2.2.2.2, m, x, nu))) ∧ Fr wP h h2 := by
  intro k
  induction k with
  | zero =>
    intro i h S g c f b l s0 en tg ms hi htg hen HW HN HE hs0 HR hc hf HB
    have ti := tin (show i < 2 ^ 31 by omega)
    have tN := tin (show N < 2 ^ 31 by omega)
    obtain rfl : i = N := by omega
    exact ⟨h, S, g, by rw [Evenings_hold_27_e, if_pos (tile.mpr (by omega))]; rfl, HW, HN, ⟨_, HE⟩, ⟨_, _, HR⟩, HB, Fr.rf⟩
  | succ k ih =>
    intro i h S g c f b l s0 en tg ms hi htg hen HW HN HE hs0 HR hc hf HB
    have ti := tin (show i < 2 ^ 31 by omega)
    have tN := tin (show N < 2 ^ 31 by omega)
    obtain ⟨h1, e1, E1, b1, R1, F1⟩ := Evenings_shuffle_v (p := (f, m, l, nu)) (by omega) hm1 hs0 HE HR
    have okc := shf_ok (m := m) (m - 1) f s0 (by omega) hf
    obtain ⟨h2, e2, R2, F2⟩ := R1.p3 0
    have ok2 : okP ((shf (m - 1) f s0).1, m, 0, nu) := ⟨hm1, hm13, okc, show 0 ≤ (0 : Int32).toInt by decide, show (0 : Int32).toInt ≤ 13 by decide⟩
    have F12 : Fr (vP 174) h h2 := F1.tr (F2.mono (fun x hx => Or.inr hx))
    have nv : ∀ x : Nat, (x < 171 ∨ x = 172 ∨ x = 173 ∨ 175 < x) → ¬ vP 174 x := fun x hx z => by rcases z with z | z | z <;> omega
    have W2 := HW.fr F12 (fun x z => by rcases z with z | z | z <;> omega)
    have N2 : SnA h2 g := (F12 101 (nv _ (by omega))).trans HN
    have E2 := E1.fr F2 (by rintro (z | z) <;> omega)
    obtain ⟨c9, q9, HB, _⟩ := HB
    have B2 := HB.fr F12 (nv _ (by omega)) (nv _ (by omega))
    obtain ⟨h3, e3, B3, F3⟩ := B2.copy R2 (show apt 172 174 from ⟨by decide, by decide, by decide⟩)
    have n3 : ∀ x : Nat, (x < 172 ∨ 173 < x) → ¬ rP 172 x := fun x hx z => by rcases z with z | z <;> omega
    have W3 := W2.fr F3 (fun x z => by rcases z with z | z <;> omega)
    have N3 : SnA h3 g := (F3 101 (n3 _ (by omega))).trans N2
    have E3 := E2.fr F3 (n3 _ (by omega))
    have R3 := R2.fr F3 (n3 _ (by omega)) (n3 _ (by omega))
    obtain ⟨h4, S4, c4, g4, e4, W4, N4, k2, k3, k4, hc4, R4, ok4, F4⟩ := Steps_goOn_v hL hah ok2 (show rOk 174 by omega) W3 N3 R3 hc
    have n4 : ∀ x : Nat, (101 < x ∧ x < 174 ∨ 175 < x) → ¬ gP 174 x := fun x hx z => by rcases z with z | z | z
                                                                                        · have := lP_lt z; omega
                                                                                        · rcases z with z | z <;> omega
                                                                                        · omega
    have E4 := E3.fr F4 (n4 _ (by omega))
    have B4 := B3.fr F4 (n4 _ (by omega)) (n4 _ (by omega))
    have gl := goq_lt (TU := TU) (SI := SI) (EN := EN) (L := L) (q := ((shf (m - 1) f s0).1, m, 0, nu)) (L + 1)
    have FA : Fr wP h h4 := ((F12.mono (fun x hx => by rcases hx with hx | hx
                                                       · exact Or.inr (Or.inl hx)
                                                       · exact Or.inl (Or.inr (Or.inl hx)))).tr (F3.mono (fun x hx => Or.inr (Or.inr hx)))).tr (F4.mono (fun x hx => Or.inl hx))
    have g3a : gR h2 0 171 3 = some 172 := by unfold gR; rw [ob_of E2]; rfl
    have g4a : gR h3 0 171 4 = some 99 := by unfold gR; rw [ob_of E3]; rfl
    have g4b : gR h4 0 171 4 = some 99 := by unfold gR; rw [ob_of E4]; rfl
    have g2c : gI h4 6 99 2 = some (nI (goq TU SI EN ((shf (m - 1) f s0).1, m, 0, nu) L (L + 1)).1) := stp_g W4.1 (by rw [← k2]; rfl)
    have g3c : gI h4 6 99 3 = some (nI (goq TU SI EN ((shf (m - 1) f s0).1, m, 0, nu) L (L + 1)).2.1) := stp_g W4.1 (by rw [← k3]; rfl)
    rw [Evenings_hold_27_e, if_neg (fun z => by have := tile.mp z; omega), e1]
    simp only [Option.bind_some]
    rw [e2]
    simp only [Option.bind_some]
    rw [g3a]
    simp only [Option.bind_some]
    rw [e3]
    simp only [Option.bind_some]
    rw [g4a]
    simp only [Option.bind_some]
    rw [e4]
    simp only [Option.bind_some]
    rw [g4b]
    simp only [Option.bind_some]
    rw [g2c]
    simp only [Option.bind_some]
    have s2 := sqn_2 (TU := TU) (SI := SI) (q := ((shf (m - 1) f s0).1, m, 0, nu)) (goq TU SI EN ((shf (m - 1) f s0).1, m, 0, nu) L (L + 1)).2.1
    have eqv : sqn TU SI ((shf (m - 1) f s0).1, m, 0, nu) (goq TU SI EN ((shf (m - 1) f s0).1, m, 0, nu) L (L + 1)).2.1 = ((sqn TU SI ((shf (m - 1) f s0).1, m, 0, nu) (goq TU SI EN ((shf (m - 1) f s0).1, m, 0, nu) L (L + 1)).2.1).1, m, (sqn TU SI ((shf (m - 1) f s0).1, m, 0, nu) (goq TU SI EN ((shf (m - 1) f s0).1, m, 0, nu) L (L + 1)).2.1).2.2.1, nu) := Prod.ext rfl (Prod.ext s2.1 (Prod.ext rfl s2.2))
    by_cases q : (goq TU SI EN ((shf (m - 1) f s0).1, m, 0, nu) L (L + 1)).1 = 0
    · rw [if_pos (by rw [q]; rfl)]
      have ev : evq TU SI EN L m nu (k + 1) f s0 en tg ms b = evq TU SI EN L m nu k (sqn TU SI ((shf (m - 1) f s0).1, m, 0, nu) (goq TU SI EN ((shf (m - 1) f s0).1, m, 0, nu) L (L + 1)).2.1).1 (shf (m - 1) f s0).2 (en + 1) (tg + (goq TU SI EN ((shf (m - 1) f s0).1, m, 0, nu) L (L + 1)).2.1) (if ms < nI (goq TU SI EN ((shf (m - 1) f s0).1, m, 0, nu) L (L + 1)).2.1 then nI (goq TU SI EN ((shf (m - 1) f s0).1, m, 0, nu) L (L + 1)).2.1 else ms) (shf (m - 1) f s0).1 := if_pos q
      rw [ev]
      generalize goq TU SI EN ((shf (m - 1) f s0).1, m, 0, nu) L (L + 1) = G at *
      have gt : gI h4 0 171 1 = some (nI tg) := by unfold gI; rw [ob_of E4]; rfl
      obtain ⟨q1, E5⟩ := E4.p1 (nI (tg + G.2.1))
      have F5 : Fr (fun x => x = 171) h4 (h4.set 171 (.inr (0, eveF 1 (nI (tg + G.2.1)) ms (lN (shf (m - 1) f s0).2)))) := Fr.set rfl
      have W5 := W4.fr F5 (fun x z => by omega)
      have g5a : gI (h4.set 171 (.inr (0, eveF 1 (nI (tg + G.2.1)) ms (lN (shf (m - 1) f s0).2)))) 0 171 2 = some ms := by unfold gI; rw [ob_of E5]; rfl
      have g5b : gR (h4.set 171 (.inr (0, eveF 1 (nI (tg + G.2.1)) ms (lN (shf (m - 1) f s0).2)))) 0 171 4 = some 99 := by unfold gR; rw [ob_of E5]; rfl
      have g5c : gI (h4.set 171 (.inr (0, eveF 1 (nI (tg + G.2.1)) ms (lN (shf (m - 1) f s0).2)))) 6 99 3 = some (nI G.2.1) := stp_g W5.1 (by rw [← k3]; rfl)
      obtain ⟨q2, E6⟩ := E5.p2 (if ms < nI G.2.1 then nI G.2.1 else ms)
      have F6 : Fr (fun x => x = 171) (h4.set 171 (.inr (0, eveF 1 (nI (tg + G.2.1)) ms (lN (shf (m - 1) f s0).2)))) ((h4.set 171 (.inr (0, eveF 1 (nI (tg + G.2.1)) ms (lN (shf (m - 1) f s0).2)))).set 171 (.inr (0, eveF 1 (nI (tg + G.2.1)) (if ms < nI G.2.1 then nI G.2.1 else ms) (lN (shf (m - 1) f s0).2)))) := Fr.set rfl
      have F56 := F5.tr F6
      rw [gt, g3c]
      simp only [Option.bind_some]
      rw [nI_add, q1]
      simp only [Option.bind_some]
      rw [g5a, g5b]
      simp only [Option.bind_some]
      rw [g5c]
      simp only [Option.bind_some]
      rw [q2]
      simp only [Option.bind_some]
      rw [Evenings_hold_106_e, nI_p1, nI_p1]
      rw [eqv] at R4 ok4
      obtain ⟨h7, S7, g7, e7, a1, a2, a3, a4, a5, F7⟩ := ih (i + 1) _ S4 g4 c4 _ (shf (m - 1) f s0).1 _ (shf (m - 1) f s0).2 (en + 1) (tg + G.2.1) _ (by omega) (by omega) (by omega) (W4.fr F56 (fun x z => by omega)) ((F56 101 (by decide)).trans N4) E6 b1 (R4.fr F56 (by decide) (by decide)) hc4 (fun j hj => ok4.2.2.1 j hj) ⟨_, _, B4.fr F56 (by decide) (by decide), fun _ => ⟨_, rfl⟩⟩
      exact ⟨h7, S7, g7, e7, a1, a2, a3, a4, a5, (FA.tr (F56.mono (fun x hx => Or.inr (Or.inl hx)))).tr F7⟩
    · rw [if_neg (fun z => q (by
        have z2 : nI (goq TU SI EN ((shf (m - 1) f s0).1, m, 0, nu) L (L + 1)).1 = nI 0 := z
        exact (nI_eq (by omega) (by omega)).mp z2))]
      have ev : evq TU SI EN L m nu (k + 1) f s0 en tg ms b = evq TU SI EN L m nu k (sqn TU SI ((shf (m - 1) f s0).1, m, 0, nu) (goq TU SI EN ((shf (m - 1) f s0).1, m, 0, nu) L (L + 1)).2.1).1 (shf (m - 1) f s0).2 en tg ms (shf (m - 1) f s0).1 := if_neg q
      rw [ev, Evenings_hold_106_e, nI_p1]
      generalize goq TU SI EN ((shf (m - 1) f s0).1, m, 0, nu) L (L + 1) = G at *
      rw [eqv] at R4 ok4
      obtain ⟨h7, S7, g7, e7, a1, a2, a3, a4, a5, F7⟩ := ih (i + 1) h4 S4 g4 c4 _ (shf (m - 1) f s0).1 _ (shf (m - 1) f s0).2 en tg ms (by omega) (by omega) (by omega) W4 N4 E4 b1 R4 hc4 (fun j hj => ok4.2.2.1 j hj) ⟨_, _, B4, fun _ => ⟨_, rfl⟩⟩
      exact ⟨h7, S7, g7, e7, a1, a2, a3, a4, a5, FA.tr F7⟩
theorem Evenings_hold_v (hL : L ≤ 300) (hah : ah = nI L) {m : Nat} {nu : Int32} (hm1 : 1 ≤ m) (hm13 : m ≤ 13) {N : Nat} (hN : N ≤ 60) (hN1 : 1 ≤ N) {s0 : Nat} (hs0 : s0 ≤ 1000003) {g : Nat → Int64} {f b : Nat → Int32} {l : Int32} (HW : StW h S n s w fo mo ah ss sc tx TU SI EN) (HN : SnA h g) (HE : EvA h he to mst sd) (HR : RowAt h 174 c (f, m, l, nu)) (hc : c ≤ 9999) (hf : ∀ j, j < m → 0 ≤ (f j).toInt ∧ (f j).toInt ≤ 13) (HB : ∃ c2 q2, RowAt h 172 c2 q2) : ∃ h2 S2 g2, Evenings_hold 171 174 (nI s0) (nI N) h = some (nI (evq TU SI EN L m nu N f s0 0 0 (-1) b).2.2.1, h2) ∧ StW h2 S2 n s w fo mo ah ss sc tx TU SI EN ∧ SnA h2 g2 ∧ (∃ sd, EvA h2 1 (nI (evq TU SI EN L m nu N f s0 0 0 (-1) b).2.2.2.1) (evq TU SI EN L m nu N f s0 0 0 (-1) b).2.2.2.2.1 sd) ∧ (∃ c2 q2, RowAt h2 174 c2 q2) ∧ (∃ c2 x, RowAt h2 172 c2 ((evq TU SI EN L m nu N f s0 0 0 (-1) b).2.2.2.2.2, m, x, nu)) ∧ Fr wP h h2 := by
  obtain ⟨q1, E1⟩ := HE.p0 1 rfl
  obtain ⟨q2, E2⟩ := E1.p1 0
  obtain ⟨q3, E3⟩ := E2.p2 (-1)
  obtain ⟨q4, E4⟩ := E3.p5 (lN s0)
  have F1 : Fr (fun x => x = 171) h (h.set 171 (.inr (0, eveF 1 to mst sd))) := Fr.set rfl
  have F2 := F1.tr (Fr.set (e := .inr (0, eveF 1 0 mst sd)) (a := 171) rfl)
  have F3 := F2.tr (Fr.set (e := .inr (0, eveF 1 0 (-1) sd)) (a := 171) rfl)
  have F4 := F3.tr (Fr.set (e := .inr (0, eveF 1 0 (-1) (lN s0))) (a := 171) rfl)
  obtain ⟨c2, q9, HB⟩ := HB
  obtain ⟨h7, S7, g7, e7, a1, a2, a3, a4, a5, F7⟩ := Evenings_hold_l hL hah hm1 hm13 hN N 0 _ S g c f b l s0 0 0 (-1) (by omega) (by omega) (by omega) (HW.fr F4 (fun x z => by omega)) ((F4 101 (by decide)).trans HN) E4 hs0 (HR.fr F4 (by decide) (by decide)) hc hf ⟨c2, q9, HB.fr F4 (by decide) (by decide), fun z => by omega⟩
  obtain ⟨c5, q5, B5, k5⟩ := a5
  obtain ⟨x5, rfl⟩ := k5 hN1
  refine ⟨h7, S7, g7, ?_, a1, a2, a3, a4, ⟨c5, x5, B5⟩, (F4.mono (fun x hx => Or.inr (Or.inl hx))).tr F7⟩
  unfold Evenings_hold
  rw [if_pos (isO_of HE), q1]
  simp only [Option.bind_some]
  rw [q2]
  simp only [Option.bind_some]
  rw [q3]
  simp only [Option.bind_some]
  rw [i64n (by omega), q4]
  exact e7
end Eve
