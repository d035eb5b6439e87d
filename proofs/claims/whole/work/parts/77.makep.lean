/-! PURE: steps made; how long a row goes on (the first rows are pasted from kit/laws/BITS) -/
theorem wb_tb (n : Nat) : (lN n).toBitVec = BitVec.ofNat 64 n := rfl
theorem wb_inj {a b : Int64} (h : a.toBitVec = b.toBitVec) : a = b := Int64.toBitVec_inj.mp h
theorem wb_c : ∀ k, k < 64 → ((nI k).toInt64 &&& 63) = lN k := by decide +kernel
theorem wb_sm : ∀ k, k < 64 → (BitVec.ofNat 64 k).smod 64 = BitVec.ofNat 64 k := by decide +kernel
theorem wb_shl (n : Nat) {k : Nat} (hk : k < 64) : lN n <<< ((nI k).toInt64 &&& 63) = lN (n * 2 ^ k) := by
  rw [wb_c k hk]
  apply wb_inj
  rw [Int64.toBitVec_shiftLeft, wb_tb, wb_tb, wb_tb, wb_sm k hk]
  apply BitVec.eq_of_toNat_eq
  rw [BitVec.shiftLeft_eq', BitVec.toNat_shiftLeft, BitVec.toNat_ofNat, BitVec.toNat_ofNat, BitVec.toNat_ofNat, Nat.mod_eq_of_lt (show k < 2 ^ 64 by omega), Nat.shiftLeft_eq, Nat.mul_mod, Nat.mod_mod, ← Nat.mul_mod]
theorem u_tn {n : Nat} (h : n < 2 ^ 64) : (UInt64.ofNat n).toNat = n := Nat.mod_eq_of_lt h
theorem g_or {k p a b : Nat} (hp : 2 ^ k = p) (ha : a < p) (h : b * p + a < 2 ^ 64) : lN (b * p) ||| lN a = lN (b * p + a) := by
  subst hp
  have h1 : b * 2 ^ k ||| a = b * 2 ^ k + a := by rw [← Nat.shiftLeft_eq, Nat.shiftLeft_add_eq_or_of_lt ha]
  have h3 : UInt64.ofNat (b * 2 ^ k) ||| UInt64.ofNat a = UInt64.ofNat (b * 2 ^ k + a) := UInt64.toNat_inj.mp (by rw [UInt64.toNat_or, u_tn (by omega), u_tn (by omega), u_tn h, h1])
  have h2 := congrArg UInt64.toInt64 h3
  exact h2
def pkn (f : Nat → Nat) (a : Nat) : Nat → Nat
  | 0 => a
  | k + 1 => pkn f a k * 16 + f k
theorem pkn_lt {f : Nat → Nat} {a : Nat} (ha : a < 16) (hf : ∀ i, f i < 16) : ∀ k, pkn f a k < 16 ^ (k + 1)
  | 0 => by simpa [pkn] using ha
  | k + 1 => by
    have := pkn_lt ha hf k
    have := hf k
    show pkn f a k * 16 + f k < 16 ^ (k + 1 + 1)
    rw [Nat.pow_succ]; omega
theorem pkn_inj {f g : Nat → Nat} {a b : Nat} (hf : ∀ i, f i < 16) (hg : ∀ i, g i < 16) : ∀ k, pkn f a k = pkn g b k → a = b ∧ ∀ i, i < k → f i = g i
  | 0, h => ⟨h, fun i hi => by omega⟩
  | k + 1, h => by
    have h1 : pkn f a k * 16 + f k = pkn g b k * 16 + g k := h
    have := hf k
    have := hg k
    obtain ⟨e1, e2⟩ := pkn_inj (a := a) (b := b) hf hg k (by omega)
    refine ⟨e1, fun i hi => ?_⟩
    by_cases q : i = k
    · subst q; omega
    · exact e2 i (by omega)
def cN (f : Nat → Int32) : Nat → Nat := fun i => (f i).toInt.toNat % 16
theorem cN_lt (f : Nat → Int32) (i : Nat) : cN f i < 16 := Nat.mod_lt _ (by decide)
theorem cN_i {f : Nat → Int32} {i : Nat} (h : 0 ≤ (f i).toInt ∧ (f i).toInt ≤ 13) : f i = nI (cN f i) := by
  apply Int32.toInt_inj.mp
  unfold cN
  rw [Nat.mod_eq_of_lt (by omega), tin (by omega)]; omega
theorem i64n {n : Nat} (h : n < 2 ^ 31) : (nI n).toInt64 = lN n := by
  apply Int64.toInt_inj.mp
  rw [Int32.toInt_toInt64, tin h]
  show _ = (Int64.ofNat n).toInt
  rw [Int64.toInt_ofNat_of_lt (by omega)]
theorem pkf_n {f : Nat → Int32} {a : Nat} (ha : a < 16) : ∀ {k : Nat}, k ≤ 13 → (∀ i, i < k → 0 ≤ (f i).toInt ∧ (f i).toInt ≤ 13) → pkf f (lN a) k = lN (pkn (cN f) a k)
  | 0, _, _ => rfl
  | k + 1, hk, h => by
    have ih := pkf_n ha (k := k) (by omega) (fun i hi => h i (by omega))
    have hl := pkn_lt ha (cN_lt f) k
    have hl2 : 16 ^ (k + 1) ≤ 16 ^ 13 := Nat.pow_le_pow_right (by decide) hk
    have hc : cN f k < 16 := Nat.mod_lt _ (by decide)
    show (pkf f (lN a) k <<< (Int32.toInt64 (4 : Int32) &&& 63)) ||| Int32.toInt64 (f k) = _
    rw [ih, cN_i (h k (by omega)), i64n (by omega), show (4 : Int32) = nI 4 from rfl, wb_shl _ (by decide)]
    have e : cN (f) k = cN f k := rfl
    exact g_or (k := 4) (p := 16) (by decide) hc (by have : (16 : Nat) ^ 13 = 4503599627370496 := by decide
                                                     omega)
/-- cards and last as they may be -/
def okP (p : Po) : Prop := 1 ≤ p.2.1 ∧ p.2.1 ≤ 13 ∧ (∀ i, i < p.2.1 → 0 ≤ (p.1 i).toInt ∧ (p.1 i).toInt ≤ 13) ∧ 0 ≤ p.2.2.1.toInt ∧ p.2.2.1.toInt ≤ 13
def eqm (p q : Po) : Prop := p.2 = q.2 ∧ ∀ i, i < p.2.1 → p.1 i = q.1 i
theorem eqm.rf (p : Po) : eqm p p := ⟨rfl, fun _ _ => rfl⟩
theorem eqm.sy {p q : Po} (h : eqm p q) : eqm q p := ⟨h.1.symm, fun i hi => (h.2 i (by rw [h.1]; exact hi)).symm⟩
theorem eqm.tr {p q r : Po} (h : eqm p q) (k : eqm q r) : eqm p r := ⟨h.1.trans k.1, fun i hi => (h.2 i hi).trans (k.2 i (by rw [← h.1]; exact hi))⟩
def pck (p : Po) : Int64 := pkf p.1 p.2.2.1.toInt64 p.2.1
theorem last_n {x : Int32} (h : 0 ≤ x.toInt ∧ x.toInt ≤ 13) : x = nI x.toInt.toNat := by
  apply Int32.toInt_inj.mp; rw [tin (by omega)]; omega
theorem lN_inj {a b : Nat} (ha : a < 2 ^ 63) (hb : b < 2 ^ 63) (h : lN a = lN b) : a = b := by
  have := congrArg Int64.toInt h
  have e1 : (lN a).toInt = a := Int64.toInt_ofNat_of_lt ha
  have e2 : (lN b).toInt = b := Int64.toInt_ofNat_of_lt hb
  rw [e1, e2] at this; omega
theorem pck_n {p : Po} (h : okP p) : pck p = lN (pkn (cN p.1) p.2.2.1.toInt.toNat p.2.1) ∧ pkn (cN p.1) p.2.2.1.toInt.toNat p.2.1 < 2 ^ 63 := by
  obtain ⟨h1, h2, h3, h4, h5⟩ := h
  have hl := pkn_lt (a := p.2.2.1.toInt.toNat) (by omega) (cN_lt p.1) p.2.1
  have hl2 : 16 ^ (p.2.1 + 1) ≤ 16 ^ 14 := Nat.pow_le_pow_right (by decide) (by omega)
  have : (16 : Nat) ^ 14 = 72057594037927936 := by decide
  refine ⟨?_, by omega⟩
  unfold pck
  conv => lhs; rw [last_n ⟨h4, h5⟩]
  rw [i64n (by omega)]
  exact pkf_n (by omega) h2 h3
theorem pck_inj {p q : Po} (hp : okP p) (hq : okP q) (hm : p.2.1 = q.2.1) (hn : p.2.2.2 = q.2.2.2) (h : pck p = pck q) : eqm p q := by
  obtain ⟨e1, l1⟩ := pck_n hp
  obtain ⟨e2, l2⟩ := pck_n hq
  rw [e1, e2] at h
  have h := lN_inj l1 l2 h
  rw [← hm] at h
  obtain ⟨x1, x2⟩ := pkn_inj (cN_lt p.1) (cN_lt q.1) _ h
  have xl : p.2.2.1 = q.2.2.1 := by rw [last_n hp.2.2.2, last_n hq.2.2.2, x1]
  refine ⟨?_, fun i hi => ?_⟩
  · obtain ⟨f, m, l, n⟩ := p
    obtain ⟨f2, m2, l2, n2⟩ := q
    simp only at hm hn xl
    subst hm hn xl; rfl
  · rw [cN_i (hp.2.2.1 i hi), cN_i (hq.2.2.1 i (by omega)), x2 i hi]
theorem pck_m1 {p : Po} (hp : okP p) : ¬ pck p = -1 := by
  obtain ⟨e1, l1⟩ := pck_n hp
  rw [e1]
  intro z
  have := congrArg Int64.toInt z
  have e : (lN (pkn (cN p.1) p.2.2.1.toInt.toNat p.2.1)).toInt = _ := Int64.toInt_ofNat_of_lt l1
  rw [e, show (-1 : Int64).toInt = -1 by decide] at this
  omega
/-- t turned over, then d put beneath -/
def stq (t d : Nat) (p : Po) : Po := (fun i => rv p.1 t ((i + d) % p.2.1), p.2.1, nI t, p.2.2.2)
theorem rvz_rv {f : Nat → Int32} {t : Nat} : rvz f 0 ((t : Int) - 1) = rv f t := by
  funext i
  unfold rvz rv
  by_cases q : i < t
  · rw [if_pos q, if_pos (by omega)]; congr 1; omega
  · rw [if_neg q, if_neg (by omega)]
section MakeP
variable {h : am_H} {S : Nat → Int32} {r c : Nat} {p : Po}
theorem Steps_make_v {t d : Nat} (HS : h[99]? = some (.inr (6, stpF S))) (h0 : S 0 = nI t) (h1 : S 1 = nI d) (HR : RowAt h r c p) (hc : c ≤ 9999) (ht : t ≤ p.2.1) (hd : d ≤ p.2.1) (hr : r + 1 < 99 ∨ 99 < r) : ∃ h2, Steps_make 99 r h = some h2 ∧ RowAt h2 r (min (c + 1) 9999) (stq t d p) ∧ Fr (rP r) h h2 := by
  have hm := HR.m
  have tt := tin (show t < 2 ^ 31 by omega)
  have td := tin (show d < 2 ^ 31 by omega)
  have tc := tin (show c + 1 < 2 ^ 31 by omega)
  have t1 : (nI t - (1 : Int32)).toInt = t - 1 := ti_sub (by rw [tt, ti1]) (by omega) (by omega)
  have g0 : gI h 6 99 0 = some (nI t) := stp_g HS (by rw [← h0]; rfl)
  obtain ⟨h2, e2, R2, F2⟩ := HR.rev (0 : Int32) (nI t - (1 : Int32))
  rw [t1, ti0, show max (0 : Int) 0 = 0 by omega, show min ((t : Int) - 1) (p.2.1 - 1) = t - 1 by omega, rvz_rv] at R2
  have n99 : ¬ rP r 99 := by rintro (z | z) <;> omega
  have H2 := (F2 99 n99).trans HS
  have g1 : gI h2 6 99 1 = some (nI d) := stp_g H2 (by rw [← h1]; rfl)
  have t9 : (9999 : Int32).toInt = 9999 := by decide
  have t13 : (13 : Int32).toInt = 13 := by decide
  have ec : (if (9999 : Int32) < nI c + (1 : Int32) then (9999 : Int32) else nI c + (1 : Int32)) = nI (min (c + 1) 9999) := by
    rw [nI_p1]
    by_cases q : c + 1 ≤ 9999
    · rw [if_neg (fun z => by have := tilt.mp z; omega), Nat.min_eq_left q]
    · rw [if_pos (tilt.mpr (by omega)), Nat.min_eq_right (by omega)]; exact (show (9999 : Int32) = nI 9999 by decide)
  have el : (if (13 : Int32) < nI t then (13 : Int32) else nI t) = nI t := if_neg (fun z => by have := tilt.mp z; omega)
  have fin : ∀ (h3 : am_H) (q : Po), RowAt h3 r c q → h3[99]? = some (.inr (6, stpF S)) → ∃ h4, Steps_make_26 99 r h3 = some h4 ∧ RowAt h4 r (min (c + 1) 9999) (q.1, q.2.1, nI t, q.2.2.2) ∧ Fr (rP r) h3 h4 := by
    intro h3 q R3 H3
    obtain ⟨h4, e4, R4, F4⟩ := R3.p2 (min (c + 1) 9999)
    have H4 := (F4 99 n99).trans H3
    have g4 : gI h4 6 99 0 = some (nI t) := stp_g H4 (by rw [← h0]; rfl)
    obtain ⟨h5, e5, R5, F5⟩ := R4.p3 (nI t)
    refine ⟨h5, ?_, R5, F4.tr F5⟩
    unfold Steps_make_26
    rw [R3.g2]
    simp only [Option.bind_some]
    rw [ec, e4]
    simp only [Option.bind_some]
    rw [g4]
    simp only [Option.bind_some]
    rw [el, e5]
    rfl
  unfold Steps_make
  rw [if_pos (isO_of HS), g0]
  simp only [Option.bind_some]
  rw [e2]
  simp only [Option.bind_some]
  rw [g1]
  simp only [Option.bind_some]
  by_cases q : d = 0
  · subst q
    rw [if_pos (by decide)]
    obtain ⟨h4, e4, R4, F4⟩ := fin h2 _ R2 H2
    refine ⟨h4, e4, R4.eq (fun i hi => ?_) rfl, F2.tr F4⟩
    have hi2 : i < p.2.1 := hi
    show rv p.1 t i = rv p.1 t ((i + 0) % p.2.1)
    rw [Nat.add_zero, Nat.mod_eq_of_lt hi2]
  · rw [if_neg (fun z => by have := tile.mp z; rw [td, ti0] at this; omega)]
    obtain ⟨h3, e3, R3, F3⟩ := R2.low (k := d) hd
    rw [e3]
    simp only [Option.bind_some]
    obtain ⟨h4, e4, R4, F4⟩ := fin h3 _ R3 ((F3 99 n99).trans H2)
    exact ⟨h4, e4, R4, (F2.tr F3).tr F4⟩
end MakeP
