/-! ONE: orders, all clauses: run wholly or not at all -/
/-- the clauses from the j-th on, by their meaning -/
def clS (n : Nat) (TU SI : Po → Int32) (EN : Po → Bool) (f : Nat → Int32) (tt : Nat) : List CSt → Nat → OSt → Option Nat × OSt
  | [], _, z => (none, z)
  | S :: L, j, z => if (tmS n TU SI EN f tt S (otm f tt S) z).1 = true then clS n TU SI EN f tt L (j + 1) (tmS n TU SI EN f tt S (otm f tt S) z).2 else (some j, (tmS n TU SI EN f tt S (otm f tt S) z).2)
theorem cls_ot {f : Nat → Int32} {t : Nat} : ∀ (m : Nat) (S : CSt), (rdL f t 1 m S).1 = true → ∀ Z ∈ cls f t 1 m S, otm f t Z ≤ 20
  | 0, _, h => absurd h Bool.false_ne_true
  | m + 1, S, h => by
    obtain ⟨g, r⟩ := rdL_good h
    rcases r with ⟨_, _, e⟩ | ⟨_, _, e1, e2⟩
    · rw [e]; intro Z hZ
      rw [List.mem_singleton.mp hZ]; exact otm_b g
    · rw [e2]; intro Z hZ
      rw [e1] at h
      rcases List.mem_cons.mp hZ with w | w
      · rw [w]; exact otm_b g
      · exact cls_ot m _ h Z w
theorem OrdR.cl {N c : Nat} {cf kf sf tf mf f : Nat → Int32} {t : Nat} {L : List CSt} (H : OrdR N c cf kf sf tf mf f t L) (hL : ∀ Z ∈ L, otm f t Z ≤ 20) (n : Nat) (TU SI : Po → Int32) (EN : Po → Bool) : ∀ (k j : Nat) (z : OSt), j + k = c → clq n TU SI EN (RpM N 21 cf) kf sf tf mf k j z = clS n TU SI EN f t (L.drop j) j z
  | 0, j, z, hj => by
    have h1 := H.1
    rw [List.drop_eq_nil_of_le (by omega)]
    rfl
  | k + 1, j, z, hj => by
    have h1 := H.1
    have hjL : j < L.length := by omega
    have hS : L[j]? = some L[j] := List.getElem?_eq_getElem hjL
    have hm : (mf j).toInt.toNat = otm f t L[j] := by
      have hb := hL _ (List.getElem_mem hjL)
      rw [(H.2.2 j _ hS).2.2.1, tin (show otm f t L[j] < 2 ^ 31 by omega)]
      omega
    rw [List.drop_eq_getElem_cons hjL]
    unfold clq clS
    rw [hm, H.tm hS, OrdR.cl H hL n TU SI EN k (j + 1) _ (by omega)]
/-- all but the seventh text -/
def Kq (K K2 : Nat → Int32) : Prop := ∀ i, 96 ≤ i → i < 5325 → ¬ i = 124 → (i < 2525 ∨ 2925 ≤ i) → K2 i = K i
theorem LawK.c6 {K K2 : Nat → Int32} {l t n : Nat} {f : Nat → Int32} (H : LawK K l f t n) (hl : l < 6) (hK : Kq K K2) : LawK K2 l f t n := by
  obtain ⟨h1, h2, h3, h4, h5, h6, h7⟩ := H
  exact ⟨h1, (hK _ (by omega) (by omega) (by omega) (by omega)).trans h2, h3, h4, fun i hi => ⟨(hK _ (by omega) (by omega) (by omega) (by omega)).trans (h5 i hi).1, (hK _ (by omega) (by omega) (by omega) (by omega)).trans (h5 i hi).2⟩, h6, h7⟩
theorem LwK.c6 {K K2 : Nat → Int32} (H : LwK K) (hK : Kq K K2) : LwK K2 := by
  rcases H with z | ⟨l, f, t, n, S, hl, h117, hLK, hS, hg⟩
  · exact Or.inl ((hK 117 (by omega) (by omega) (by omega) (by omega)).trans z)
  · exact Or.inr ⟨l, f, t, n, S, hl, (hK 117 (by omega) (by omega) (by omega) (by omega)).trans h117, hLK.c6 hl hK, hS, hg⟩
theorem TkR.c6 {K K2 : Nat → Int32} {nh : Nat} {TU SI : Po → Int32} {EN : Po → Bool} (H : TkR K TU SI EN) (HL : LwK K) (h96 : K 96 = nI nh) (hnh : nh ≤ 6) (hK : Kq K K2) : TkR K2 TU SI EN := fun p hp => by
  obtain ⟨a1, a2, a3⟩ := H p hp
  have h962 : K2 96 = nI nh := (hK 96 (by omega) (by omega) (by omega) (by omega)).trans h96
  have h : trnv K2 p = trnv K p ∧ snkv K2 p = snkv K p ∧ endv K2 p = endv K p := by
    rcases HL with z | ⟨l, f, t, n, S, hl, h117, hLK, hS, hg⟩
    · obtain ⟨a1, a2, a3⟩ := nolaw z p
      obtain ⟨b1, b2, b3⟩ := nolaw ((hK 117 (by omega) (by omega) (by omega) (by omega)).trans z) p
      rw [a1, a2, a3, b1, b2, b3]; exact ⟨rfl, rfl, rfl⟩
    · obtain ⟨a1, a2, a3⟩ := say_v hl h117 hLK h96 hnh hS hg p
      obtain ⟨b1, b2, b3⟩ := say_v hl ((hK 117 (by omega) (by omega) (by omega) (by omega)).trans h117) (hLK.c6 hl hK) h962 hnh hS hg p
      rw [a1, a2, a3, b1, b2, b3, hK 113 (by omega) (by omega) (by omega) (by omega)]; exact ⟨rfl, rfl, rfl⟩
  rw [h.1, h.2.1, h.2.2]; exact ⟨a1, a2, a3⟩
theorem URel.cg {n : Nat} {t : HSt} {K l K2 l2 : Nat → Int32} (H : URel n t K l) (hK : ∀ i, i < 97 → K2 i = K i) (hl : ∀ i, i < 1568 → l2 i = l i) : URel n t K2 l2 := by
  obtain ⟨h1, h2, h3, h4, h5⟩ := H
  refine ⟨h1, h2, h3, fun e he => (h4 e he).cg h1 (fun _ _ => rfl) (fun _ _ => rfl) (fun i hi => ?_), fun e he => ?_⟩
  · cases e with
    | zero => exact hK i hi
    | succ e =>
      show l2 (98 * (t.u - 1 - e) + i) = l (98 * (t.u - 1 - e) + i)
      exact hl _ (by omega)
  · rw [hl _ (by omega)]; exact h5 e he
theorem skw_up {f : Nat → Int32} {t x : Nat} (h : x ≤ t) : x ≤ skw f t x := (skp_le (f := f) (t := t) (t - x) x (by omega)).1
/-- the first word has three letters -/
theorem tks_b {f : Nat → Int32} {t N : Nat} {s : PSt} (hp : ∀ i, i < N → plc f t i < t) (hN : plc f t N = t) (ht : t ≤ 400) (hw : ¬ amg f t 0 s = -1) (hs : s.1 = plc f t 0) : N ≤ 398 := by
  have h3 : 0 < N → plc f t 0 + 3 ≤ tnx f t (plc f t 0) := fun h0 => by
    have hlt := hp 0 h0
    have hk : tkd f t s.1 = 1 := by
      by_cases hk : tkd f t s.1 = 1
      · exact hk
      · exact absurd (if_neg hk) hw
    rw [amg_f (by decide) (by omega) hk] at hw
    cases hf : fdw (wdc 0) (tsl f t s.1) 0 with
    | none => rw [hf] at hw; exact absurd rfl hw
    | some k =>
      obtain ⟨_, b2, b3⟩ := fdw_b _ _ _ _ hf
      have hl : ∀ k, k < 0 + (wdc 0).length → 3 ≤ ((wdc 0).getD (k - 0) []).length := by decide
      have := hl k b2
      rw [← b3] at this
      unfold tsl at this
      rw [slc_len, hs] at this
      omega
  have K : ∀ i, 1 ≤ i → i ≤ N → i + 2 ≤ plc f t i := fun i => by
    induction i with
    | zero => intro h; omega
    | succ i ih =>
      intro _ hi
      have hlt := hp i (by omega)
      have ht := tnx_le (f := f) (Nat.le_of_lt hlt)
      have hu := skw_up (f := f) ht.1
      show i + 1 + 2 ≤ skw f t (tnx f t (plc f t i))
      by_cases z : i = 0
      · subst z
        have := h3 (by omega)
        omega
      · have := ih (by omega) (by omega)
        have := ht.2 hlt
        omega
  by_cases z : N = 0
  · omega
  · have := K N (by omega) (Nat.le_refl _)
    omega
theorem ob_eta (x : Option (Int32 × am_H)) : (x.bind fun r => some (r.1, r.2)) = x := by cases x <;> rfl
section OrdW
variable {b : Nat} {h : am_H} {σ : am_S} {n : Nat} {z : OSt} {f : Nat → Int32} {tt N : Nat} {TU SI : Po → Int32} {EN : Po → Bool}
theorem orders_133_r (v1 : Int32) : ∀ (m j d i : Nat) (S : CSt) (h : am_H) (σ : am_S) (z : OSt), (rdL f tt 1 m S).1 = true → AtE f tt N i S.1 → σ.1 47 = nI (2400 + i) → ORel b h σ n z f tt N TU SI EN → z.1 = nI d → d + 20 * m < 2 ^ 31 → ¬ z.2.1 = BRK → ∃ h2 σ2, Lo σ σ2 ∧ Same b h h2 ∧ Mo b h2 σ2 ∧ Bo σ2 ∧ ((clS n TU SI EN f tt (cls f tt 1 m S) j z).1 = none → Ref_orders_133 b v1 (nI (2400 + N)) (nI j) h = Ref_good b (clS n TU SI EN f tt (cls f tt 1 m S) j z).2.1 h2 ∧ ORel b h2 σ2 n (clS n TU SI EN f tt (cls f tt 1 m S) j z).2 f tt N TU SI EN) ∧ (∀ q, (clS n TU SI EN f tt (cls f tt 1 m S) j z).1 = some q → Ref_orders_133 b v1 (nI (2400 + N)) (nI j) h = Ref_orders_155 b v1 (nI q) (0 : Int32) h2)
  | 0, _, _, _, _, _, _, _, hg, _, _, _, _, _, _ => absurd hg Bool.false_ne_true
  | m + 1, j, d, i, S, h, σ, z, hg, a, h47, H, hd, hdb, hl => by
    obtain ⟨g, r⟩ := rdL_good hg
    have E := H.2.2.2.2.1
    have hN := E.1
    have M := H.1.1
    obtain ⟨h1, σ1, i2, L1, S1, M1, b1, hi2, a2, P1, Q1⟩ := runs_r g a hd (by omega) hl H h47
    have hi2N := a2.1
    have ti : ∀ x, x ≤ 4000 → (nI x).toInt = (x : Int) := fun x hx => tin (by omega)
    have eR : Ref_orders_133 b v1 (nI (2400 + N)) (nI j) h = (Ref_runs b (nI (2400 + N)) h).bind fun r43 => if r43.1 = (0 : Int32) then Ref_orders_155 b v1 (nI j) (0 : Int32) r43.2 else Ref_orders_133 b v1 (nI (2400 + N)) (nI (j + 1)) r43.2 := by
      rw [Ref_orders_133_e, M.i47]
      simp only [Option.bind_some]
      rw [h47, if_neg (fun w => by
        have w := tile.mp w
        rw [ti _ (by omega), ti _ (by omega)] at w
        omega)]
      simp only [show nI j + 1 = nI (j + 1) from nI_add j 1]
    by_cases q : (tmS n TU SI EN f tt S (otm f tt S) z).1 = true
    · obtain ⟨p1, p2, p3, ⟨d2, hd2, p4⟩, p5⟩ := P1 q
      rw [p1] at eR
      simp only [Option.bind_some] at eR
      rw [if_neg (show ¬ (1 : Int32) = 0 by decide)] at eR
      rcases r with ⟨q2, e1, e2⟩ | ⟨q2, q3, e1, e2⟩
      · have hi2n : i2 = N := by
          obtain ⟨_, x2, _, _⟩ := E.cd a2
          omega
        have eC : clS n TU SI EN f tt (cls f tt 1 (m + 1) S) j z = (none, (tmS n TU SI EN f tt S (otm f tt S) z).2) := by
          rw [e2]; exact if_pos q
        rw [eC, eR]
        refine ⟨h1, σ1, L1, S1, M1, b1, fun _ => ⟨?_, p2⟩, fun q w => absurd w (by simp)⟩
        rw [Ref_orders_133_e, M1.i47]
        simp only [Option.bind_some]
        rw [p3, if_pos (tile.mpr (by rw [ti _ (by omega), ti _ (by omega)]; omega)), M1.r28]
        simp only [Option.bind_some]
        rw [show aI h1 0 (b + 1 + 12) (1 : Int32) = some (tmS n TU SI EN f tt S (otm f tt S) z).2.1 from (M1.rd (r := 12) (i := 1) (by decide) (by decide) (by decide)).trans (congrArg some p2.2.2.1)]
        simp only [Option.bind_some]
        exact ob_eta _
      · have hlt : (rcl f tt 1 S).2.1.1 < tt := by
          obtain ⟨_, x2, x3, _⟩ := E.cd a2
          omega
        have a3 := E.nx a2 hlt
        rw [e1] at hg
        have eC : clS n TU SI EN f tt (cls f tt 1 (m + 1) S) j z = clS n TU SI EN f tt (cls f tt 1 m (gow f tt (rcl f tt 1 S).2.1, (rcl f tt 1 S).2.2)) (j + 1) (tmS n TU SI EN f tt S (otm f tt S) z).2 := by
          rw [e2]; exact if_pos q
        obtain ⟨h4, σ4, L4, S4, M4, b4, P4, Q4⟩ := orders_133_r v1 m (j + 1) d2 (i2 + 1) (gow f tt (rcl f tt 1 S).2.1, (rcl f tt 1 S).2.2) h1 σ1 _ hg a3 p3 p2 p4 (by omega) p5
        rw [eC, eR]
        exact ⟨h4, σ4, L1.tr L4, S1.tr S4, M4, b4, P4, Q4⟩
    · rw [Q1 q] at eR
      simp only [Option.bind_some] at eR
      rw [if_pos trivial] at eR
      have eC : clS n TU SI EN f tt (cls f tt 1 (m + 1) S) j z = (some j, (tmS n TU SI EN f tt S (otm f tt S) z).2) := by
        rcases r with ⟨_, _, e2⟩ | ⟨_, _, _, e2⟩
        · rw [e2]; exact if_neg q
        · rw [e2]; exact if_neg q
      rw [eC, eR]
      refine ⟨h1, σ1, L1, S1, M1, b1, fun w => absurd w (by simp), fun q w => ?_⟩
      rw [Option.some.inj w]
/-- what orders may touch -/
def Lp (σ σ2 : am_S) : Prop := (∀ k, k ∉ 0 :: 46 :: FO → σ2.1 k = σ.1 k) ∧ (∀ k, k ∉ 0 :: 4 :: 17 :: RO → σ2.2.1 k = σ.2.1 k) ∧ Kq (σ.2.1 1) (σ2.2.1 1)
theorem orders_r {t : HSt} (H : HRel b h σ n t) (HT : TkR (σ.2.1 1) TU SI EN) (hT : TkE f tt σ N) (ht : tt ≤ 400) (hb : ∀ i, i < tt → -128 ≤ (f i).toInt ∧ (f i).toInt < 128) {S : CSt} (hS : S.1.1 = plc f tt 0) (hg : (rdL f tt 1 12 S).1 = true) : ((clS n TU SI EN f tt (cls f tt 1 12 S) 0 (0, -1, t)).1 = none → ∃ h2 σ2, Ref_orders_22 b (nI 0) h = some ((clS n TU SI EN f tt (cls f tt 1 12 S) 0 (0, -1, t)).2.1, h2) ∧ HRel b h2 σ2 n (clS n TU SI EN f tt (cls f tt 1 12 S) 0 (0, -1, t)).2.2.2 ∧ TkR (σ2.2.1 1) TU SI EN ∧ σ2.1 0 = 0 ∧ σ2.1 46 = σ.1 46 ∧ σ2.2.1 0 = σ.2.1 0 ∧ Lp σ σ2 ∧ Same b h h2) ∧ (∀ q, (clS n TU SI EN f tt (cls f tt 1 12 S) 0 (0, -1, t)).1 = some q → ∃ h2 σ2, Ref_orders_22 b (nI 0) h = some (-nI 3, h2) ∧ HRel b h2 σ2 n t ∧ TkR (σ2.2.1 1) TU SI EN ∧ σ2.1 0 = -nI 3 ∧ σ2.1 46 = nI q ∧ σ2.2.1 0 = upd (σ.2.1 0) 3 (σ.2.1 0 3 + 1) ∧ Lp σ σ2 ∧ Same b h h2) := by
  obtain ⟨M, U, h39, hbo, hL⟩ := H
  have hp := U.hp
  have hn := U.1
  obtain ⟨hN4, hTk, hpN, _, _, _, h17⟩ := hT
  -- the first word
  have hw : ¬ amg f tt 0 S.1 = -1 := by
    have g := (rdL_good hg).1
    have er : rcl f tt 1 S = ror f tt 1 S := if_neg (by decide)
    rw [er] at g
    exact (ror_good g).1.2.1
  have hN := tks_b (fun i hi => (hTk i hi).1) hpN ht hw hS
  -- rows put by
  obtain ⟨h1, x1, M1, S1⟩ := Ref_orders_22_l (b := b) (S := σ.1) (A := σ.2.1) (B := σ.2.2) (v1 := 0) (v3 := 0) 97 0 h rfl (by rw [fill_0, rs_self]; exact M)
  obtain ⟨h2, x2, M2, S2⟩ := Ref_orders_48_l (b := b) (S := σ.1) (A := rs σ.2.1 4 (fill (σ.2.1 4) 0 97 (σ.2.1 1))) (B := σ.2.2) (v1 := 0) (v3 := 0) 1568 0 h1 rfl (by rw [fill_0, rs_self]; exact M1)
  generalize hA2 : rs (rs σ.2.1 4 (fill (σ.2.1 4) 0 97 (σ.2.1 1))) 17 (fill ((rs σ.2.1 4 (fill (σ.2.1 4) 0 97 (σ.2.1 1))) 17) 0 1568 ((rs σ.2.1 4 (fill (σ.2.1 4) 0 97 (σ.2.1 1))) 16)) = A2 at M2
  have r4 : ∀ i, i < 97 → A2 4 i = σ.2.1 1 i := fun i hi => by rw [← hA2]; exact fill_in (Nat.zero_le _) (by omega)
  have r17 : ∀ i, i < 1568 → A2 17 i = σ.2.1 16 i := fun i hi => by rw [← hA2]; exact fill_in (Nat.zero_le _) (by omega)
  have rO : ∀ k, ¬ k = 4 → ¬ k = 17 → A2 k = σ.2.1 k := fun k k1 k2 => by rw [← hA2, rs_ne k2, rs_ne k1]
  clear hA2
  obtain ⟨h3, x3, M3, S3⟩ := lays_p (l := 6) (n := N) (by decide) hN4 (σ := (σ.1, A2, σ.2.2)) h17 M2
  have M3 : Mo b h3 (σ.1, rs A2 1 (lyK (A2 1) 6 N N (A2 8) (A2 9)), σ.2.2) := M3
  have K3o : ∀ i, ¬ i = 124 → ¬ (2525 ≤ i ∧ i < 2525 + N) → ¬ (5325 ≤ i ∧ i < 5325 + N) → lyK (A2 1) 6 N N (A2 8) (A2 9) i = σ.2.1 1 i := fun i c1 c2 c3 => by
    unfold lyK
    rw [if_neg (show ¬ i = 118 + 6 by omega), if_neg (show ¬ (125 + 400 * 6 ≤ i ∧ i < 125 + 400 * 6 + N) by omega), if_neg (show ¬ (2925 + 400 * 6 ≤ i ∧ i < 2925 + 400 * 6 + N) by omega), rO 1 (by decide) (by decide)]
  have K3a : ∀ i, i < N → lyK (A2 1) 6 N N (A2 8) (A2 9) (125 + (2400 + i)) = nI (cdN f tt (plc f tt i)) ∧ lyK (A2 1) 6 N N (A2 8) (A2 9) (2925 + (2400 + i)) = nI (vlN f tt (plc f tt i)) := fun i hi => by
    obtain ⟨_, _, t8, t9⟩ := hTk i hi
    unfold lyK
    rw [if_neg (show ¬ 125 + (2400 + i) = 118 + 6 by omega), if_pos (show 125 + 400 * 6 ≤ 125 + (2400 + i) ∧ 125 + (2400 + i) < 125 + 400 * 6 + N by omega), if_neg (show ¬ 2925 + (2400 + i) = 118 + 6 by omega), if_neg (show ¬ (125 + 400 * 6 ≤ 2925 + (2400 + i) ∧ 2925 + (2400 + i) < 125 + 400 * 6 + N) by omega), if_pos (show 2925 + 400 * 6 ≤ 2925 + (2400 + i) ∧ 2925 + (2400 + i) < 2925 + 400 * 6 + N by omega), show 125 + (2400 + i) - (125 + 400 * 6) = i by omega, show 2925 + (2400 + i) - (2925 + 400 * 6) = i by omega, rO 8 (by decide) (by decide), rO 9 (by decide) (by decide)]
    exact ⟨t8, t9⟩
  have K3n : lyK (A2 1) 6 N N (A2 8) (A2 9) 124 = nI N := if_pos rfl
  generalize lyK (A2 1) 6 N N (A2 8) (A2 9) = K3 at M3 K3o K3a K3n
  have kq : Kq (σ.2.1 1) K3 := fun i c1 c2 c3 c4 => K3o i c3 (by omega) (by omega)
  have k96 : K3 96 = nI n := (K3o 96 (by omega) (by omega) (by omega)).trans hp.1
  obtain ⟨h4, x4, M4, S4⟩ := M3.wr (r := 12) (i := 0) (by decide) (by decide) rfl (by decide) (nI n)
  obtain ⟨h5, x5, M5, S5⟩ := M4.wr (r := 12) (i := 1) (by decide) (by decide) rfl (by decide) 0
  obtain ⟨h6, x6, M6, S6⟩ := M5.wr (r := 12) (i := 2) (by decide) (by decide) rfl (by decide) (-1)
  obtain ⟨h7, x7, M7, S7⟩ := M6.w47 2400
  have hS7 : Same b h h7 := (((((S1.tr S2).tr S3).tr S4).tr S5).tr S6).tr S7
  have O7 : ORel b h7 (upd σ.1 47 2400, u2 (u2 (u2 (rs A2 1 K3) 12 0 (nI n)) 12 1 0) 12 2 (-1), σ.2.2) n (0, -1, t) f tt N TU SI EN := by
    refine ⟨⟨M7, U.cg (fun i hi => K3o i (by omega) (by omega) (by omega)) (fun i _ => congrFun (rO 16 (by decide) (by decide)) i), h39, hbo, hL.c6 kq⟩, rfl, rfl, rfl, ⟨hN4, by omega, hpN, fun i hi => (hTk i hi).1, K3a, ht, hb⟩, HT.c6 hL hp.1 hn kq, hp.ok⟩
  obtain ⟨h8, σ8, L8, S8, M8, b8, P8, Q8⟩ := orders_133_r (v1 := σ.1 39) 12 0 0 0 S h7 _ _ hg (show AtE f tt N 0 S.1 from ⟨Nat.zero_le _, hS.symm⟩) rfl O7 rfl (by decide) (show ¬ (-1 : Int32) = BRK by decide)
  have eO : Ref_orders_22 b (nI 0) h = Ref_orders_133 b (σ.1 39) (nI (2400 + N)) (nI 0) h7 := by
    rw [x1, show Ref_orders_48 b (0 : Int32) h1 = _ from x2, Ref_orders_48_e, if_pos (show (1568 : Int32) ≤ nI 1568 by decide), M2.i39]
    simp only [Option.bind_some]
    rw [show Ref_lays b (6 : Int32) h2 = some h3 from x3]
    simp only [Option.bind_some]
    rw [M3.r28, M3.r2]
    simp only [Option.bind_some]
    rw [show aI h3 0 (b + 1 + 1) (96 : Int32) = some (nI n) from (M3.rd (r := 1) (i := 96) (by decide) (by decide) (by decide)).trans (congrArg some k96)]
    simp only [Option.bind_some]
    rw [show sI h3 (b + 1 + 12) (0 : Int32) (nI n) = some h4 from x4]
    simp only [Option.bind_some]
    rw [M4.r28]
    simp only [Option.bind_some]
    rw [show sI h4 (b + 1 + 12) (1 : Int32) 0 = some h5 from x5]
    simp only [Option.bind_some]
    rw [M5.r28]
    simp only [Option.bind_some]
    rw [show sI h5 (b + 1 + 12) (2 : Int32) (-1) = some h6 from x6]
    simp only [Option.bind_some]
    rw [x7]
    simp only [Option.bind_some]
    rw [M7.i47, M7.r2]
    simp only [Option.bind_some]
    rw [show aI h7 0 (b + 1 + 1) (124 : Int32) = some (nI N) from (M7.rd (r := 1) (i := 124) (by decide) (by decide) (by decide)).trans (congrArg some K3n)]
    simp only [Option.bind_some]
    rw [show upd σ.1 47 (2400 : Int32) 47 + nI N = nI (2400 + N) from nI_add 2400 N]
    rfl
  have fr : (∀ k, k ∉ FO → σ8.1 k = σ.1 k) ∧ (∀ k, k ∉ 4 :: 17 :: RO → σ8.2.1 k = σ.2.1 k) ∧ (∀ i, 96 ≤ i → σ8.2.1 1 i = K3 i) ∧ σ8.2.1 4 = A2 4 ∧ σ8.2.1 17 = A2 17 := by
    refine ⟨fun k hk => ?_, fun k hk => ?_, fun i hi => L8.2.2 i hi, L8.2.1 4 (by decide), L8.2.1 17 (by decide)⟩
    · rw [L8.1 k hk]; exact pk_un (fun w => hk (by rw [w]; decide))
    · have n1 : k ≠ 1 := fun z => hk (by rw [z]; decide)
      have n4 : k ≠ 4 := fun z => hk (by rw [z]; decide)
      have n12 : k ≠ 12 := fun z => hk (by rw [z]; decide)
      have n17 : k ≠ 17 := fun z => hk (by rw [z]; decide)
      rw [L8.2.1 k (fun z => hk (List.mem_cons_of_mem _ (List.mem_cons_of_mem _ z)))]
      show u2 (u2 (u2 (rs A2 1 K3) 12 0 (nI n)) 12 1 0) 12 2 (-1) k = σ.2.1 k
      have un : ∀ (A : Nat → Nat → Int32) (i : Nat) (x : Int32), u2 A 12 i x k = A k := fun A i x => if_neg n12
      rw [un, un, un, rs_ne n1, rO k n4 n17]
  obtain ⟨f1, f2, f3, f4, f5⟩ := fr
  have kq8 : Kq (σ.2.1 1) (σ8.2.1 1) := fun i c1 c2 c3 c4 => (f3 i c1).trans (kq i c1 c2 c3 c4)
  rw [eO]
  constructor
  · intro q
    obtain ⟨p1, p2⟩ := P8 q
    obtain ⟨h9, x9, M9, S9⟩ := good_p (clS n TU SI EN f tt (cls f tt 1 12 S) 0 (0, -1, t)).2.1 M8
    refine ⟨h9, (upd σ8.1 0 0, σ8.2), p1.trans x9, ⟨M9, p2.1.2.1, p2.1.2.2.1, p2.1.2.2.2.1, p2.1.2.2.2.2⟩, p2.2.2.2.2.2.1, rfl, f1 46 (by decide), f2 0 (by decide), ⟨fun k hk => ?_, fun k hk => f2 k (fun z => hk (List.mem_cons_of_mem _ z)), kq8⟩, (hS7.tr S8).tr S9⟩
    show upd σ8.1 0 0 k = σ.1 k
    rw [pk_un (fun w => hk (by rw [w]; decide))]
    exact f1 k (fun z => hk (List.mem_cons_of_mem _ (List.mem_cons_of_mem _ z)))
  · intro q w
    have e8 := Q8 q w
    obtain ⟨h9, x9, M9, S9⟩ := Ref_orders_155_l (b := b) (S := σ8.1) (A := σ8.2.1) (B := σ8.2.2) (v1 := σ.1 39) (v3 := nI q) 97 0 h8 rfl (by rw [fill_0, rs_self]; exact M8)
    obtain ⟨h10, x10, M10, S10⟩ := Ref_orders_185_l (b := b) (S := σ8.1) (A := rs σ8.2.1 1 (fill (σ8.2.1 1) 0 97 (σ8.2.1 4))) (B := σ8.2.2) (v1 := σ.1 39) (v3 := nI q) 1568 0 h9 rfl (by rw [fill_0, rs_self]; exact M9)
    obtain ⟨h11, x11, M11, S11⟩ := M10.w39 (σ.1 39)
    obtain ⟨h12, x12, M12, S12⟩ := M11.w46 (nI q)
    obtain ⟨h13, x13, M13, S13⟩ := refuses_p (c := 3) (by decide) M12
    have kL : ∀ i, i < 97 → fill (σ8.2.1 1) 0 97 (σ8.2.1 4) i = σ.2.1 1 i := fun i hi => by rw [fill_in (Nat.zero_le _) (by omega), Nat.sub_zero, f4]; exact r4 i hi
    have kH : ∀ i, 97 ≤ i → fill (σ8.2.1 1) 0 97 (σ8.2.1 4) i = σ8.2.1 1 i := fun i hi => fill_out (by omega)
    have kq9 : Kq (σ.2.1 1) (fill (σ8.2.1 1) 0 97 (σ8.2.1 4)) := fun i c1 c2 c3 c4 => by
      by_cases y : i < 97
      · exact kL i y
      · rw [kH i (by omega)]; exact kq8 i c1 c2 c3 c4
    have lL : ∀ i, i < 1568 → fill (σ8.2.1 16) 0 1568 (σ8.2.1 17) i = σ.2.1 16 i := fun i hi => by rw [fill_in (Nat.zero_le _) (by omega), Nat.sub_zero, f5]; exact r17 i hi
    refine ⟨h13, _, ?_, ⟨M13, U.cg kL lL, h39, b8, hL.c6 kq9⟩, HT.c6 hL hp.1 hn kq9, rfl, rfl, ?_, ⟨fun k hk => ?_, fun k hk => ?_, kq9⟩, ((((((hS7.tr S8).tr S9).tr S10).tr S11).tr S12).tr S13)⟩
    · rw [e8, show Ref_orders_155 b (σ.1 39) (nI q) (0 : Int32) h8 = _ from x9, show Ref_orders_185 b (σ.1 39) (nI q) (0 : Int32) h9 = _ from x10, Ref_orders_185_e, if_pos (show (1568 : Int32) ≤ nI 1568 by decide), x11]
      simp only [Option.bind_some]
      rw [x12]
      simp only [Option.bind_some]
      rw [show Ref_refuses b (-3 : Int32) h12 = _ from x13]
      rfl
    · show upd (σ8.2.1 0) 3 (σ8.2.1 0 3 + 1) = upd (σ.2.1 0) 3 (σ.2.1 0 3 + 1)
      rw [f2 0 (by decide)]
    · have n0 : k ≠ 0 := fun z => hk (by rw [z]; decide)
      have n39 : k ≠ 39 := fun z => hk (by rw [z]; decide)
      have n46 : k ≠ 46 := fun z => hk (by rw [z]; decide)
      show upd (upd (upd σ8.1 39 (σ.1 39)) 46 (nI q)) 0 (-nI 3) k = σ.1 k
      rw [pk_un n0, pk_un n46, pk_un n39]
      exact f1 k (fun z => hk (List.mem_cons_of_mem _ (List.mem_cons_of_mem _ z)))
    · have n0 : k ≠ 0 := fun z => hk (by rw [z]; decide)
      have n1 : k ≠ 1 := fun z => hk (by rw [z]; decide)
      have n16 : k ≠ 16 := fun z => hk (by rw [z]; decide)
      have un : ∀ (A : Nat → Nat → Int32) (i : Nat) (x : Int32), u2 A 0 i x k = A k := fun A i x => if_neg n0
      refine (un _ _ _).trans ((rs_ne n16).trans ((rs_ne n1).trans ?_))
      exact f2 k (fun z => hk (List.mem_cons_of_mem _ z))
end OrdW
