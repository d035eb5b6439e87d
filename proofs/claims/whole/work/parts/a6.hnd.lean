/-! ONE: steps, swaps and cuts by hand: class and reference -/
theorem bnf {x : Bool} (h : ¬ x = true) : x = false := by cases x with | false => rfl | true => exact absurd rfl h
theorem bnt {x : Bool} (h : ¬ x = false) : x = true := by cases x with | true => rfl | false => exact absurd rfl h
/-- the law in force was read -/
def LwK (K : Nat → Int32) : Prop := K 117 = -1 ∨ ∃ l f t n S, l < 6 ∧ K 117 = nI l ∧ LawK K l f t n ∧ (S : CSt).1.1 = plc f t 0 ∧ (rdL f t 0 12 S).1 = true
theorem LwK.wk {K : Nat → Int32} {nh : Nat} (H : LwK K) (h96 : K 96 = nI nh) (hnh : nh ≤ 6) : WK K := by
  rcases H with z | ⟨l, f, t, n, S, hl, h117, hK, hS, hg⟩
  · exact WK_no z
  · exact WK_law hl h117 hK h96 hnh hS hg
theorem LawK.cg {K K2 : Nat → Int32} {l t n : Nat} {f : Nat → Int32} (H : LawK K l f t n) (hK : ∀ i, 97 ≤ i → K2 i = K i) : LawK K2 l f t n := by
  obtain ⟨h1, h2, h3, h4, h5, h6, h7⟩ := H
  exact ⟨h1, (hK _ (by omega)).trans h2, h3, h4, fun i hi => ⟨(hK _ (by omega)).trans (h5 i hi).1, (hK _ (by omega)).trans (h5 i hi).2⟩, h6, h7⟩
theorem LwK.cg {K K2 : Nat → Int32} (H : LwK K) (hK : ∀ i, 97 ≤ i → K2 i = K i) : LwK K2 := by
  rcases H with z | ⟨l, f, t, n, S, hl, h117, hLK, hS, hg⟩
  · exact Or.inl ((hK 117 (by decide)).trans z)
  · exact Or.inr ⟨l, f, t, n, S, hl, (hK 117 (by decide)).trans h117, hLK.cg hK, hS, hg⟩
theorem say_v {K : Nat → Int32} {l n nh t : Nat} {f : Nat → Int32} (hl : l < 6) (h117 : K 117 = nI l) (hK : LawK K l f t n) (h96 : K 96 = nI nh) (hnh : nh ≤ 6) {S : CSt} (hS : S.1.1 = plc f t 0) (hg : (rdL f t 0 12 S).1 = true) (p : Po) : trnv K p = ((cls f t 0 12 S).foldl (lst (wrd (K 113) p) f t (nI 0)) (lkt p)).toInt64 ∧ snkv K p = ((cls f t 0 12 S).foldl (lst (wrd (K 113) p) f t (nI 1)) 0).toInt64 ∧ endv K p = (if lhd f t (cls f t 0 12 S) = true then lit (wrd (K 113) p) f t (cls f t 0 12 S) else decide (p.1 0 = nI 1)) := by
  obtain ⟨v1, a1, a2, e1, r1, _⟩ := say_law hl h117 hK h96 hnh hS hg p (nI 1) (trnw p)
  obtain ⟨v2, b1, b2, e2, r2, _⟩ := say_law hl h117 hK h96 hnh hS hg p (nI 2) 0
  obtain ⟨v3, c1, c2, e3, _, r3⟩ := say_law hl h117 hK h96 hnh hS hg p (nI 3) 0
  refine ⟨?_, ?_, ?_⟩
  · unfold trnv; rw [e1]; exact r1 0 (lkt p) rfl (by decide) (trnw_l p)
  · unfold snkv; rw [e2]; exact r2 1 0 rfl (by decide) rfl
  · unfold endv; rw [e3]
    show (if c1 = true then c2 else decide (p.1 0 = nI 1)) = _
    rw [(r3 rfl).1, (r3 rfl).2]
theorem LwK.v {K K2 : Nat → Int32} {nh nh2 : Nat} (H : LwK K) (h96 : K 96 = nI nh) (hnh : nh ≤ 6) (h962 : K2 96 = nI nh2) (hnh2 : nh2 ≤ 6) (hK : ∀ i, 97 ≤ i → K2 i = K i) (p : Po) : trnv K2 p = trnv K p ∧ snkv K2 p = snkv K p ∧ endv K2 p = endv K p := by
  rcases H with z | ⟨l, f, t, n, S, hl, h117, hLK, hS, hg⟩
  · obtain ⟨a1, a2, a3⟩ := nolaw z p
    obtain ⟨b1, b2, b3⟩ := nolaw ((hK 117 (by decide)).trans z) p
    rw [a1, a2, a3, b1, b2, b3]; exact ⟨rfl, rfl, rfl⟩
  · obtain ⟨a1, a2, a3⟩ := say_v hl h117 hLK h96 hnh hS hg p
    obtain ⟨b1, b2, b3⟩ := say_v hl ((hK 117 (by decide)).trans h117) (hLK.cg hK) h962 hnh2 hS hg p
    rw [a1, a2, a3, b1, b2, b3, hK 113 (by decide)]; exact ⟨rfl, rfl, rfl⟩
/-- the numbers are small -/
theorem LwK.i {K : Nat → Int32} {nh : Nat} (H : LwK K) (h96 : K 96 = nI nh) (hnh : nh ≤ 6) (p : Po) : trnv K p = (trnv K p).toInt32.toInt64 ∧ snkv K p = (snkv K p).toInt32.toInt64 := by
  rcases H with z | ⟨l, f, t, n, S, hl, h117, hLK, hS, hg⟩
  · obtain ⟨a1, a2, a3⟩ := nolaw z p
    rw [a1, a2, i64_32]; exact ⟨rfl, rfl⟩
  · obtain ⟨a1, a2, a3⟩ := say_v hl h117 hLK h96 hnh hS hg p
    rw [a1, a2, i64_32, i64_32]; exact ⟨rfl, rfl⟩
theorem LwK.q {K : Nat → Int32} {nh : Nat} (H : LwK K) (h96 : K 96 = nI nh) (hnh : nh ≤ 6) {p q : Po} (h1 : 1 ≤ p.2.1) (e : eqm p q) : trnv K p = trnv K q ∧ snkv K p = snkv K q ∧ endv K p = endv K q := by
  have e0 : p.1 0 = q.1 0 := e.2 0 (by omega)
  have em : p.2 = q.2 := e.1
  have el : lkt p = lkt q := by unfold lkt; rw [e0, em]
  rcases H with z | ⟨l, f, t, n, S, hl, h117, hLK, hS, hg⟩
  · obtain ⟨a1, a2, a3⟩ := nolaw z p
    obtain ⟨b1, b2, b3⟩ := nolaw z q
    rw [a1, a2, a3, b1, b2, b3, el, e0]; exact ⟨rfl, rfl, rfl⟩
  · obtain ⟨a1, a2, a3⟩ := say_v hl h117 hLK h96 hnh hS hg p
    obtain ⟨b1, b2, b3⟩ := say_v hl h117 hLK h96 hnh hS hg q
    have ew : wrd (K 113) p = wrd (K 113) q := by
      funext i
      unfold wrd
      have e1 : (if 1 < p.2.1 then p.1 1 else -1) = (if 1 < q.2.1 then q.1 1 else -1) := by
        rw [← em]
        by_cases z : 1 < p.2.1
        · rw [if_pos z, if_pos z, e.2 1 z]
        · rw [if_neg z, if_neg z]
      have e2 : (if 2 < p.2.1 then p.1 2 else -1) = (if 2 < q.2.1 then q.1 2 else -1) := by
        rw [← em]
        by_cases z : 2 < p.2.1
        · rw [if_pos z, if_pos z, e.2 2 z]
        · rw [if_neg z, if_neg z]
      have e3 : p.1 (p.2.1 - 1) = q.1 (q.2.1 - 1) := by rw [← em]; exact e.2 _ (by omega)
      rw [e0, e1, e2, e3, em]
    rw [a1, a2, a3, b1, b2, b3, ew, el, e0]; exact ⟨rfl, rfl, rfl⟩
/-- the class's law is the reference's -/
def TkR (K : Nat → Int32) (TU SI : Po → Int32) (EN : Po → Bool) : Prop := ∀ p, okP p → TU p = (trnv K p).toInt32 ∧ SI p = (snkv K p).toInt32 ∧ EN p = endv K p
theorem TkR.cst {K : Nat → Int32} {nh : Nat} {TU SI : Po → Int32} {EN : Po → Bool} (H : TkR K TU SI EN) (HL : LwK K) (h96 : K 96 = nI nh) (hnh : nh ≤ 6) {p q : Po} (hp : okP p) (e : eqm q p) : (cstv K q = true ↔ cst TU SI EN p = 3) ∧ (cst TU SI EN p = 3 → (trnv K q).toInt.toNat = (TU p).toInt.toNat ∧ (snkv K q).toInt.toNat = (SI p).toInt.toNat ∧ (TU p).toInt.toNat ≤ p.2.1 ∧ (SI p).toInt.toNat ≤ p.2.1) := by
  have em : q.2.1 = p.2.1 := congrArg Prod.fst e.1
  have hm := hp.2.1
  obtain ⟨q1, q2, q3⟩ := HL.q h96 hnh (by rw [em]; exact hp.1) e
  obtain ⟨t1, t2, t3⟩ := H p hp
  obtain ⟨i1, i2⟩ := HL.i h96 hnh p
  have c64 : ∀ x : Int32, canv x.toInt64 p.2.1 = false ↔ 0 ≤ x.toInt ∧ x.toInt ≤ p.2.1 := fun x => by
    unfold canv
    rw [Bool.or_eq_false_iff, decide_eq_false_iff_not, decide_eq_false_iff_not, Int64.lt_iff_toInt_lt, Int64.lt_iff_toInt_lt, Int32.toInt_toInt64, Int32.toInt_toInt64, nI_toInt (by omega), show (0 : Int64).toInt = 0 by decide]
    omega
  have v1 : trnv K q = (TU p).toInt64 := by rw [q1, t1]; exact i1
  have v2 : snkv K q = (SI p).toInt64 := by rw [q2, t2]; exact i2
  constructor
  · unfold cstv stkv Jvm.Pilot.CTopSaysLaw_law_r2558_8a5759.cst lkh
    rw [v1, v2, q3, ← t3, em]
    by_cases z : EN p = true
    · rw [if_pos z, z, Bool.not_true, Bool.false_and]; exact ⟨fun y => absurd y (by decide), fun y => absurd y (by decide)⟩
    · rw [if_neg z, bnf z]
      by_cases y1 : canv (TU p).toInt64 p.2.1 = false
      · by_cases y2 : canv (SI p).toInt64 p.2.1 = false
        · rw [y1, y2, if_pos ⟨((c64 _).mp y1).1, ((c64 _).mp y1).2, ((c64 _).mp y2).1, ((c64 _).mp y2).2⟩]
          exact ⟨fun _ => rfl, fun _ => rfl⟩
        · have y2' : canv (SI p).toInt64 p.2.1 = true := bnt y2
          rw [y1, y2', if_neg (fun w => y2 ((c64 _).mpr ⟨w.2.2.1, w.2.2.2⟩))]
          exact ⟨fun y => absurd y (by decide), fun y => absurd y (by decide)⟩
      · have y1' : canv (TU p).toInt64 p.2.1 = true := bnt y1
        rw [y1', if_neg (fun w => y1 ((c64 _).mpr ⟨w.1, w.2.1⟩))]
        refine ⟨fun y => absurd y ?_, fun y => absurd y (by decide)⟩
        cases canv (SI p).toInt64 p.2.1 <;> decide
  · intro z
    unfold Jvm.Pilot.CTopSaysLaw_law_r2558_8a5759.cst lkh at z
    by_cases y : EN p = true
    · rw [if_pos y] at z; exact absurd z (by decide)
    · rw [if_neg y] at z
      by_cases w : 0 ≤ (TU p).toInt ∧ (TU p).toInt ≤ p.2.1 ∧ 0 ≤ (SI p).toInt ∧ (SI p).toInt ≤ p.2.1
      · rw [v1, v2, Int32.toInt_toInt64, Int32.toInt_toInt64]
        exact ⟨rfl, rfl, by omega, by omega⟩
      · rw [if_neg w] at z; exact absurd z (by decide)
abbrev FH : List Nat := [21, 22, 23, 24, 25, 26, 31, 32, 33, 35, 36, 39, 41, 43, 44, 57]
abbrev RH : List Nat := [1, 11, 13, 14, 15, 16, 18, 19, 20]
/-- the reference's side of changes by hand -/
def HRel (b : Nat) (h : am_H) (σ : am_S) (n : Nat) (t : HSt) : Prop := Mo b h σ ∧ URel n t (σ.2.1 1) (σ.2.1 16) ∧ σ.1 39 = nI t.u ∧ Bo σ ∧ LwK (σ.2.1 1)
def Chd (σ σ2 : am_S) : Prop := Lk FH RH σ σ2 ∧ ∀ i, 96 ≤ i → σ2.2.1 1 i = σ.2.1 1 i
theorem Chd.rf {σ : am_S} : Chd σ σ := ⟨Lk.rf, fun _ _ => rfl⟩
theorem Chd.tr {σ σ1 σ2 : am_S} (p : Chd σ σ1) (q : Chd σ1 σ2) : Chd σ σ2 := ⟨p.1.tr q.1, fun i hi => (q.2 i hi).trans (p.2 i hi)⟩
section HandR
variable {b : Nat} {h : am_H} {σ : am_S} {n : Nat} {t : HSt} {TU SI : Po → Int32} {EN : Po → Bool}
theorem URel.hp (H : URel n t (σ.2.1 1) (σ.2.1 16)) : HpR n t.C t.D (σ.2.1 1) := H.2.2.2.1 0 (Nat.zero_le _)
theorem inN_j {y : Int32} {m : Nat} (hm : m < 2 ^ 31) (h : inN y m) : y = nI y.toInt.toNat ∧ y.toInt.toNat < m := inN_n hm h
theorem tread_r (H : HRel b h σ n t) (HT : TkR (σ.2.1 1) TU SI EN) (y : Int32) : ∃ h2 σ2, Ref_stepsKept b y h = some ((trq n TU SI EN t y).1, h2) ∧ HRel b h2 σ2 n (trq n TU SI EN t y).2 ∧ Chd σ σ2 ∧ Same b h h2 := by
  obtain ⟨M, U, h39, hb, hL⟩ := H
  have hp := U.hp
  have hn := U.1
  unfold trq
  by_cases q : inN y n
  · obtain ⟨ey, hj⟩ := inN_j (by omega) q
    rw [if_pos q]
    generalize y.toInt.toNat = j at *
    subst ey
    obtain ⟨a1, a2, a3, a4, a5, a6, a7⟩ := hp.2 j hj
    have hwk := hL.wk hp.1 hn
    have em := hp.eqm hj
    obtain ⟨c1, c2⟩ := HT.cst hL hp.1 hn a1 em
    by_cases q2 : cst TU SI EN (t.D j) = 3
    · rw [if_pos q2]
      obtain ⟨d1, d2, d3, d4⟩ := c2 q2
      obtain ⟨h2, σ2, e2, M2, L2, B2, S2⟩ := stepsKept_p hp.1 hn hj a2 a1.1 a1.2.1 hwk hb U.2.1 h39 (c1.mpr q2) M
      have eK : σ2.2.1 1 = stK (σ.2.1 1) j (t.D j).2.1 := L2.2.1 1 (by decide)
      have el : σ2.2.1 16 = lK (σ.2.1 1) (σ.2.1 16) t.u (nI 0) := L2.2.1 16 (by decide)
      have eu : σ2.1 39 = nI (kpu t.u + 1) := L2.1 39 (by decide)
      have ecl : clp (σ.2.1 1 (16 * j + 1)) = nI (min (t.C j + 1) 9999) := by
        rw [a6]
        unfold clp
        rw [show nI (t.C j) + nI 1 = nI (t.C j + 1) from nI_add _ 1]
        have t1 := tin (show t.C j + 1 < 2 ^ 31 by omega)
        have t2 := tin (show 9999 < 2 ^ 31 by decide)
        by_cases z : 9999 < t.C j + 1
        · have e : min (t.C j + 1) 9999 = 9999 := Nat.min_eq_right (Nat.le_of_lt z)
          rw [if_pos (tilt.mpr (by omega)), e]
        · have e : min (t.C j + 1) 9999 = t.C j + 1 := Nat.min_eq_left (Nat.le_of_not_lt z)
          rw [if_neg (fun w => z (by have h := tilt.mp w; rw [t1, t2] at h; exact Int.ofNat_lt.mp h)), e]
      have hm1 := a1.1
      have hm13 := a1.2.1
      have K2o : ∀ i, (i < 16 * j ∨ 16 * j + 16 ≤ i) → stK (σ.2.1 1) j (t.D j).2.1 i = σ.2.1 1 i := fun i hi => by
        unfold stK
        rw [pk_un (by omega), pk_un (by omega), fill_out (by omega)]
      have okN : okP (nxp TU SI (t.D j)) := okP.nx a1 q2
      refine ⟨h2, σ2, by rw [e2, ecl], ⟨M2, ?_, ?_, B2, ?_⟩, ⟨?_, ?_⟩, S2⟩
      · rw [eK, el]
        refine U.kp (k := 0) hj (hp.one hn hj (fun i hi ho => K2o i ho) okN ?_ (fun i hi => ?_) ?_ ?_ ?_ (Nat.min_le_right _ _))
        · unfold stK
          rw [pk_un (by omega), pk_un (by omega), fill_out (by omega)]
          exact a2
        · have hi : i < (t.D j).2.1 := hi
          have hmod : (i + (SI (t.D j)).toInt.toNat) % (t.D j).2.1 < (t.D j).2.1 := Nat.mod_lt _ (by omega)
          unfold stK
          rw [pk_un (by omega), pk_un (by omega), fill_in (by omega) (by omega), show 16 * j + 3 + i - (16 * j + 3) = i by omega]
          show skc (rv (fun i => σ.2.1 1 (16 * j + 3 + i)) (min 13 (trnv (σ.2.1 1) (hpo (σ.2.1 1) j (t.D j).2.1)).toInt.toNat)) (t.D j).2.1 (snkv (σ.2.1 1) (hpo (σ.2.1 1) j (t.D j).2.1)).toInt.toNat i = rv (t.D j).1 (TU (t.D j)).toInt.toNat ((i + (SI (t.D j)).toInt.toNat) % (t.D j).2.1)
          rw [d1, d2, show min 13 (TU (t.D j)).toInt.toNat = (TU (t.D j)).toInt.toNat by omega]
          unfold skc
          rw [fill_in (Nat.zero_le _) (by omega), Nat.sub_zero]
          generalize (i + (SI (t.D j)).toInt.toNat) % (t.D j).2.1 = k at *
          unfold rv
          by_cases z : k < (TU (t.D j)).toInt.toNat
          · rw [if_pos z, if_pos z]; exact a3 _ (by omega)
          · rw [if_neg z, if_neg z]; exact a3 _ hmod
        · unfold stK
          rw [pk_un (by omega)]
          show upd (fill (σ.2.1 1) (16 * j + 3) 13 _) (16 * j + 2) (nI (trnv (σ.2.1 1) (hpo (σ.2.1 1) j (t.D j).2.1)).toInt.toNat) (16 * j + 2) = nI (TU (t.D j)).toInt.toNat
          rw [d1]; exact if_pos rfl
        · show (t.D j).2.2.2 = nI j
          exact a5
        · unfold stK
          exact (if_pos rfl).trans ecl
      · rw [eu]
        show nI (kpu t.u + 1) = nI (min (t.u + 1) 16)
        have hku : min (t.u + 1) 16 = kpu t.u + 1 := by have := U.2.1; unfold kpu; split <;> omega
        rw [hku]
      · rw [eK]
        exact hL.cg (fun i hi => K2o i (by omega))
      · refine ⟨fun k hk => ?_, fun k hk => ?_, L2.2.2⟩
        · have hkF : k ∉ FX := fun z => hk (by revert z; simp only [List.mem_cons, List.not_mem_nil, or_false]; omega)
          rw [L2.1 k hkF]
          show upd σ.1 39 _ k = σ.1 k
          exact if_neg (fun z => hk (by rw [z]; decide))
        · have hkR : k ∉ RX := fun z => hk (by revert z; simp only [List.mem_cons, List.not_mem_nil, or_false]; omega)
          have n1 : k ≠ 1 := fun z => hk (by rw [z]; decide)
          have n16 : k ≠ 16 := fun z => hk (by rw [z]; decide)
          rw [L2.2.1 k hkR]
          show rs (kps σ t.u (nI 0)).2.1 1 _ k = σ.2.1 k
          rw [rs_ne n1]
          show rs σ.2.1 16 _ k = σ.2.1 k
          rw [rs_ne n16]
      · intro i hi
        rw [eK]
        exact K2o i (by omega)
    · rw [if_neg q2]
      obtain ⟨h2, σ2, e2, M2, L2, B2, S2⟩ := stepsKept_no hp.1 hn hj a2 a1.1 a1.2.1 hwk hb (by cases hx : cstv (σ.2.1 1) (hpo (σ.2.1 1) j (t.D j).2.1) with | false => rfl | true => exact absurd (c1.mp hx) q2) M
      have eK : σ2.2.1 1 = σ.2.1 1 := L2.2.1 1 (by decide)
      have el : σ2.2.1 16 = σ.2.1 16 := L2.2.1 16 (by decide)
      exact ⟨h2, σ2, e2, ⟨M2, by rw [eK, el]; exact U, (L2.1 39 (by decide)).trans h39, B2, by rw [eK]; exact hL⟩, ⟨L2.mono (by decide) (by decide), fun i _ => by rw [eK]⟩, S2⟩
  · rw [if_neg q]
    exact ⟨h, σ, (noHeap_p hp.1 hn q M).1, ⟨M, U, h39, hb, hL⟩, Chd.rf, Same.rf⟩
end HandR
