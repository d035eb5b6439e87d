/-! PURE: a law that was read, in the class's rows and in the reference's -/
/-- the reference keeps the text as its l-th law, n tokens -/
def LawK (K : Nat → Int32) (l : Nat) (f : Nat → Int32) (t n : Nat) : Prop := n ≤ 400 ∧ K (118 + l) = nI n ∧ plc f t n = t ∧ (∀ i, i < n → plc f t i < t) ∧ (∀ i, i < n → K (125 + (400 * l + i)) = nI (cdN f t (plc f t i)) ∧ K (2925 + (400 * l + i)) = nI (vlN f t (plc f t i))) ∧ t ≤ 400 ∧ (∀ i, i < t → -128 ≤ (f i).toInt ∧ (f i).toInt < 128)
section LawV
variable {f : Nat → Int32} {t : Nat}
theorem LawR_of {S F : CSt} (h : (rdL f t 0 12 S).1 = true) (hF : F = (rdL f t 0 12 S).2) (hS : S.2.1 = 0) (hn : F.1.2.1 ≤ 512) {cf kf sf tf : Nat → Int32} (h1 : ∀ i, i < F.1.2.1 → cf i = F.1.2.2.1 i) (h2 : ∀ i, i < F.2.1 → kf i = F.2.2.1 i) (h3 : ∀ i, i < F.2.1 * 3 → sf i = F.2.2.2.1 i) (h4 : ∀ i, i < F.2.1 → tf i = F.2.2.2.2.1 i) : LawR F.1.2.1 F.2.1 cf kf sf tf f t (cls f t 0 12 S) := by
  subst hF
  obtain ⟨k1, k2, k3⟩ := rdL_k 12 S h
  rw [hS, Nat.zero_add] at k2
  refine ⟨k2, hn, fun j Sj hj => ?_⟩
  obtain ⟨b1, b2⟩ := cls_all (Q := LcQ 8 f t) LcQ_up (LcQ_0 (Nat.le_refl _)) 12 S h j Sj hj
  rw [hS, Nat.zero_add] at b1
  have hjl : j < (cls f t 0 12 S).length := (List.getElem?_eq_some_iff.mp hj).1
  obtain ⟨_, a1, a2, a3, a4⟩ := b2
  rw [b1] at a1 a3 a4
  refine ⟨(h2 j (by omega)).trans a1, a2, fun q => ?_, ?_⟩
  · obtain ⟨c1, c2, c3⟩ := a3 q
    exact ⟨Sj.1.2.1, by omega, (h3 _ (by omega)).trans c1, fun ws => c3 cf ws _ h1 (Nat.le_refl _) hn⟩
  · rcases a4 with ⟨c1, c2⟩ | ⟨c1, k, c2, c3, c4⟩
    · exact Or.inl ⟨c1, (h4 j (by omega)).trans c2⟩
    · exact Or.inr ⟨c1, k, by omega, (h4 j (by omega)).trans c2, fun ws => c4 cf ws _ h1 (Nat.le_refl _) hn⟩
theorem HW_law (K : Nat → Int32) (p : Po) (nh : Nat) : HWs (cn K (aq K p) (fun _ => 0)) nh 0 (wrd (K 113) p) := by
  refine ⟨fun _ k hk => ?_, fun z => absurd rfl z⟩
  show aq K p (pmw 2 k - 8) = wrd (K 113) p k
  unfold aq wrd
  rcases (show k = 0 ∨ k = 1 ∨ k = 2 ∨ k = 3 ∨ k = 4 ∨ k = 5 ∨ k = 6 ∨ k = 7 by omega) with rfl | rfl | rfl | rfl | rfl | rfl | rfl | rfl
  · rfl
  · show (if p.2.1 ≤ 1 then (-1 : Int32) else p.1 1) = (if 1 < p.2.1 then p.1 1 else -1)
    by_cases q : p.2.1 ≤ 1
    · rw [if_pos q, if_neg (by omega)]
    · rw [if_neg q, if_pos (by omega)]
  · show (if p.2.1 ≤ 2 then (-1 : Int32) else p.1 2) = (if 2 < p.2.1 then p.1 2 else -1)
    by_cases q : p.2.1 ≤ 2
    · rw [if_pos q, if_neg (by omega)]
    · rw [if_neg q, if_pos (by omega)]
  · rfl
  · rfl
  · rfl
  · rfl
  · rfl
theorem LawK.ev {K : Nat → Int32} {l n : Nat} (H : LawK K l f t n) (hl : l < 6) (q o : Nat → Int32) : EvE f t n (400 * l) (cn K q o) := by
  obtain ⟨h1, h2, h3, h4, h5, h6, h7⟩ := H
  exact ⟨h1, by omega, h3, h4, fun i hi => h5 i hi, h6, h7⟩
/-- what the reference says by this law -/
theorem say_law {K : Nat → Int32} {l n nh : Nat} (hl : l < 6) (h117 : K 117 = nI l) (hK : LawK K l f t n) (h96 : K 96 = nI nh) (hnh : nh ≤ 6) {S : CSt} (hS : S.1.1 = plc f t 0) (hg : (rdL f t 0 12 S).1 = true) (p : Po) (hd : Int32) (w : Int64) : ∃ v h2 i2, sayv K p hd w = some (v, h2, i2) ∧ (∀ k0 w0, hd = nI (1 + k0) → k0 < 2 → w = w0.toInt64 → v = ((cls f t 0 12 S).foldl (lst (wrd (K 113) p) f t (nI k0)) w0).toInt64) ∧ (hd = nI 3 → h2 = lhd f t (cls f t 0 12 S) ∧ i2 = lit (wrd (K 113) p) f t (cls f t 0 12 S)) := by
  have hn := hK.1
  obtain ⟨v, h2, i2, g, b2, ev, r1, r2⟩ := tlv_e (hK.ev hl (aq K p) (fun _ => 0)) (HW_law K p nh) hd 12 402 S 0 w false false false hg ⟨Nat.zero_le _, hS.symm⟩ (by decide)
  refine ⟨v, h2, i2, ?_, r1, fun z => by obtain ⟨y1, y2⟩ := r2 z; exact ⟨by rw [y1, Bool.false_or], by rw [y2, Bool.false_or]⟩⟩
  have e1 : kN K 117 = l := by unfold kN; rw [h117, tcn (by omega)]
  have e2 : kN K (118 + l) = n := by unfold kN; rw [hK.2.1, tcn (by omega)]
  have e3 : kN K 96 = nh := by unfold kN; rw [h96, tcn (by omega)]
  unfold sayv
  rw [if_neg (fun z => by have := congrArg Int32.toInt (h117.symm.trans z); rw [tim1, tin (show l < 2 ^ 31 by omega)] at this; omega), e1, e2, e3, if_pos ⟨h117, hl, hK.2.1, hn, h96, hnh⟩]
  unfold tellv
  have ev : tlv (tsumv (cn K (aq K p) fun _ => 0) (400 * l + n) nh true) (tsv (tsumv (cn K (aq K p) fun _ => 0) (400 * l + n) nh) (cn K (aq K p) fun _ => 0) (400 * l + n) 9 true) (cn K (aq K p) fun _ => 0) (400 * l + n) hd 402 w false false (400 * l) false = some (v, h2, i2, g, b2) := ev
  rw [ev]
theorem i64_32 (x : Int32) : x.toInt64.toInt32 = x := by
  apply Int32.toInt_inj.mp
  rw [Int64.toInt_toInt32, Int32.toInt_toInt64]
  have := x.le_toInt
  have := x.toInt_lt
  rw [Int.bmod_eq_of_le] <;> omega
theorem trnw_l (p : Po) : trnw p = (lkt p).toInt64 := by
  unfold trnw lkt
  by_cases q : p.1 0 = 0
  · rw [if_pos q, if_pos q]
  · rw [if_neg q, if_neg q]
theorem lit_lhd {ws : Nat → Int32} {L : List CSt} (h : lit ws f t L = true) : lhd f t L = true := by
  unfold lit at h
  unfold lhd
  rw [List.any_eq_true] at h ⊢
  obtain ⟨x, h1, h2⟩ := h
  exact ⟨x, h1, ((Bool.and_eq_true _ _).mp h2).1⟩
/-- what turns, sinks and ends say by a law read: both sides -/
theorem law_link {K : Nat → Int32} {l n nh : Nat} (hl : l < 6) (h117 : K 117 = nI l) (hK : LawK K l f t n) (h96 : K 96 = nI nh) (hnh : nh ≤ 6) {S : CSt} (hS : S.1.1 = plc f t 0) (hg : (rdL f t 0 12 S).1 = true) {N c : Nat} {cf kf sf tf : Nat → Int32} (HR : LawR N c cf kf sf tf f t (cls f t 0 12 S)) (p : Po) (hw : ∀ i, ¬ wrd (K 113) p i = BRK) : (trnv K p).toInt32 = latv kf tf sf (RpM N 8 cf (wrd (K 113) p)) 0 (lkt p) c ∧ trnv K p = (trnv K p).toInt32.toInt64 ∧ (snkv K p).toInt32 = latv kf tf sf (RpM N 8 cf (wrd (K 113) p)) 1 0 c ∧ snkv K p = (snkv K p).toInt32.toInt64 ∧ endv K p = hev kf tf (RpM N 8 cf (wrd (K 113) p)) (decide (p.1 0 = 1)) c 0 true := by
  have hc := HR.1
  have lat : ∀ kd w, ¬ kd = 2 → latv kf tf sf (RpM N 8 cf (wrd (K 113) p)) kd w c = (cls f t 0 12 S).foldl (lst (wrd (K 113) p) f t kd) w := fun kd w hk => by
    have := HR.lat hw hk w (cls f t 0 12 S).length (Nat.le_refl _)
    rw [List.take_of_length_le (Nat.le_refl _)] at this
    rw [hc]; exact this
  have hv := HR.hev (wrd (K 113) p) (decide (p.1 0 = 1)) c 0 true (by omega)
  rw [List.drop_zero, Bool.true_and] at hv
  obtain ⟨v1, a1, a2, e1, r1, _⟩ := say_law hl h117 hK h96 hnh hS hg p (nI 1) (trnw p)
  obtain ⟨v2, b1, b2, e2, r2, _⟩ := say_law hl h117 hK h96 hnh hS hg p (nI 2) 0
  obtain ⟨v3, c1, c2, e3, _, r3⟩ := say_law hl h117 hK h96 hnh hS hg p (nI 3) 0
  have x1 : trnv K p = v1 := by unfold trnv; rw [e1]
  have x2 : snkv K p = v2 := by unfold snkv; rw [e2]
  have r1 := r1 0 (lkt p) rfl (by decide) (trnw_l p)
  have r2 := r2 1 0 rfl (by decide) rfl
  obtain ⟨y1, y2⟩ := r3 rfl
  rw [x1, x2, r1, r2, i64_32, i64_32]
  refine ⟨(lat 0 _ (by decide)).symm, rfl, (lat 1 _ (by decide)).symm, rfl, ?_⟩
  rw [hv]
  unfold endv
  rw [e3]
  show (if c1 = true then c2 else decide (p.1 0 = nI 1)) = _
  rw [y1, y2]
  have e : decide (p.1 0 = nI 1) = decide (p.1 0 = 1) := rfl
  rw [e]
  by_cases q : lhd f t (cls f t 0 12 S) = true
  · rw [if_pos q, q]; simp
  · have q1 : lit (wrd (K 113) p) f t (cls f t 0 12 S) = false := by
      cases hx : lit (wrd (K 113) p) f t (cls f t 0 12 S) with
      | false => rfl
      | true => exact absurd (lit_lhd hx) q
    rw [if_neg q, q1]
    simp [q]
/-- the same without a law -/
theorem nolaw {K : Nat → Int32} (h : K 117 = -1) (p : Po) : trnv K p = (lkt p).toInt64 ∧ snkv K p = 0 ∧ endv K p = decide (p.1 0 = 1) := by
  have e : ∀ hd w, sayv K p hd w = some (w, false, false) := fun hd w => by unfold sayv; rw [if_pos h]
  refine ⟨?_, ?_, ?_⟩
  · unfold trnv; rw [e]; exact trnw_l p
  · unfold snkv; rw [e]
  · unfold endv; rw [e]; rfl
/-- a law that doesn't ask the last count -/
theorem law_last {K : Nat → Int32} {l n nh : Nat} (hl : l < 6) (h117 : K 117 = nI l) (hK : LawK K l f t n) (h96 : K 96 = nI nh) (hnh : nh ≤ 6) {S : CSt} (hS : S.1.1 = plc f t 0) (hg : (rdL f t 0 12 S).1 = true) (ha : (rdL f t 0 12 S).2.1.2.2.2.1 = 0) (p q : Po) (e1 : p.1 = q.1) (e2 : p.2.1 = q.2.1) (e3 : p.2.2.2 = q.2.2.2) (h0 : ¬ p.1 0 = 0) : trnv K p = trnv K q ∧ snkv K p = snkv K q ∧ endv K p = endv K q := by
  have hw : ∀ i, ¬ i = 5 → wrd (K 113) p i = wrd (K 113) q i := fun i hi => by
    unfold wrd
    rw [e1, e2, e3]
    rcases (show i = 0 ∨ i = 1 ∨ i = 2 ∨ i = 3 ∨ i = 4 ∨ i = 6 ∨ i = 7 ∨ 8 ≤ i by omega) with rfl | rfl | rfl | rfl | rfl | rfl | rfl | h8
    · rfl
    · rfl
    · rfl
    · rfl
    · rfl
    · rfl
    · rfl
    · rw [List.getD_eq_getElem?_getD, List.getD_eq_getElem?_getD, List.getElem?_eq_none (by simp; omega), List.getElem?_eq_none (by simp; omega)]
  obtain ⟨_, A1, A2⟩ := cls_a hw 12 S hg ha
  have el : lkt p = lkt q := by unfold lkt; rw [if_neg h0, if_neg (by rw [← e1]; exact h0), e1]
  obtain ⟨v1, a1, a2, f1, r1, _⟩ := say_law hl h117 hK h96 hnh hS hg p (nI 1) (trnw p)
  obtain ⟨v2, b1, b2, f2, r2, _⟩ := say_law hl h117 hK h96 hnh hS hg p (nI 2) 0
  obtain ⟨v3, c1, c2, f3, _, r3⟩ := say_law hl h117 hK h96 hnh hS hg p (nI 3) 0
  obtain ⟨v1', a1', a2', f1', r1', _⟩ := say_law hl h117 hK h96 hnh hS hg q (nI 1) (trnw q)
  obtain ⟨v2', b1', b2', f2', r2', _⟩ := say_law hl h117 hK h96 hnh hS hg q (nI 2) 0
  obtain ⟨v3', c1', c2', f3', _, r3'⟩ := say_law hl h117 hK h96 hnh hS hg q (nI 3) 0
  refine ⟨?_, ?_, ?_⟩
  · unfold trnv
    rw [f1, f1']
    show v1 = v1'
    rw [r1 0 (lkt p) rfl (by decide) (trnw_l p), r1' 0 (lkt q) rfl (by decide) (trnw_l q), el]
    exact congrArg Int32.toInt64 (A1 (nI 0) _ (by decide))
  · unfold snkv
    rw [f2, f2']
    show v2 = v2'
    rw [r2 1 0 rfl (by decide) rfl, r2' 1 0 rfl (by decide) rfl]
    exact congrArg Int32.toInt64 (A1 (nI 1) _ (by decide))
  · unfold endv
    rw [f3, f3']
    show (if c1 = true then c2 else decide (p.1 0 = nI 1)) = (if c1' = true then c2' else decide (q.1 0 = nI 1))
    rw [(r3 rfl).1, (r3 rfl).2, (r3' rfl).1, (r3' rfl).2, A2, e1]
theorem WK_law {K : Nat → Int32} {l n nh : Nat} (hl : l < 6) (h117 : K 117 = nI l) (hK : LawK K l f t n) (h96 : K 96 = nI nh) (hnh : nh ≤ 6) {S : CSt} (hS : S.1.1 = plc f t 0) (hg : (rdL f t 0 12 S).1 = true) : WK K := fun p hd w _ _ => by
  obtain ⟨v, h2, i2, e, _⟩ := say_law hl h117 hK h96 hnh hS hg p hd w
  exact ⟨_, e⟩
theorem WK_no {K : Nat → Int32} (h : K 117 = -1) : WK K := fun p hd w _ _ => ⟨_, by unfold sayv; rw [if_pos h]⟩
end LawV
