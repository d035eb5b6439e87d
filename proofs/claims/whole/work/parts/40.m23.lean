/-! THE REFERENCE: only the first cards matter -/
def eqp (p q : Po) : Prop := (∀ i, i < 13 → p.1 i = q.1 i) ∧ p.2 = q.2 ∧ 1 ≤ p.2.1 ∧ p.2.1 ≤ 13
theorem eqp.rf {p : Po} (h1 : 1 ≤ p.2.1) (h2 : p.2.1 ≤ 13) : eqp p p := ⟨fun _ _ => rfl, rfl, h1, h2⟩
theorem eqp.tr {p q r : Po} (h1 : eqp p q) (h2 : eqp q r) : eqp p r := ⟨fun i hi => (h1.1 i hi).trans (h2.1 i hi), h1.2.1.trans h2.2.1, h1.2.2⟩
theorem eqp.sy {p q : Po} (h : eqp p q) : eqp q p := ⟨fun i hi => (h.1 i hi).symm, h.2.1.symm, by rw [← h.2.1]; exact h.2.2⟩
section Eqp
variable {K : Nat → Int32} {p q : Po}
theorem aq_q (h : eqp p q) : aq K p = aq K q := by
  obtain ⟨h1, h2, h3, h4⟩ := h
  unfold aq
  rw [← h2, h1 1 (by omega), h1 2 (by omega), h1 (p.2.1 - 1) (by omega), h1 0 (by omega)]
theorem sayv_q (h : eqp p q) (hd : Int32) (w : Int64) : sayv K p hd w = sayv K q hd w := by
  unfold sayv; rw [aq_q h]
theorem endv_q (h : eqp p q) : endv K p = endv K q := by
  unfold endv; rw [sayv_q h, h.1 0 (by omega)]
theorem trnw_q (h : eqp p q) : trnw p = trnw q := by
  unfold trnw; rw [h.1 0 (by omega), h.2.1]
theorem trnv_q (h : eqp p q) : trnv K p = trnv K q := by
  unfold trnv; rw [sayv_q h, trnw_q h]
theorem snkv_q (h : eqp p q) : snkv K p = snkv K q := by
  unfold snkv; rw [sayv_q h]
theorem stkv_q (h : eqp p q) : stkv K p = stkv K q := by
  unfold stkv; rw [endv_q h, trnv_q h, snkv_q h, h.2.1]
theorem cstv_q (h : eqp p q) : cstv K p = cstv K q := by
  unfold cstv; rw [endv_q h, stkv_q h]
theorem rv_q {c c2 : Nat → Int32} (h : ∀ i, i < 13 → c i = c2 i) {t : Nat} (ht : t ≤ 13) {i : Nat} (hi : i < 13) : rv c t i = rv c2 t i := by
  unfold rv
  by_cases e : i < t
  · rw [if_pos e, if_pos e]; exact h _ (by omega)
  · rw [if_neg e, if_neg e]; exact h _ hi
theorem skc_q {c c2 : Nat → Int32} (h : ∀ i, i < 13 → c i = c2 i) {m d : Nat} (h1 : 1 ≤ m) (hm : m ≤ 13) {i : Nat} (hi : i < 13) : skc c m d i = skc c2 m d i := by
  unfold skc fill
  by_cases e : 0 ≤ i ∧ i < 0 + m
  · rw [if_pos e, if_pos e]
    have : (i - 0 + d) % m < m := Nat.mod_lt _ (by omega)
    exact h _ (by omega)
  · rw [if_neg e, if_neg e]; exact h _ hi
theorem stp_q (h : eqp p q) : eqp (stp K p) (stp K q) := by
  refine ⟨fun i hi => ?_, ?_, h.2.2⟩
  · show skc (rv p.1 _) p.2.1 _ i = skc (rv q.1 _) q.2.1 _ i
    rw [trnv_q h, snkv_q h, ← h.2.1]
    exact skc_q (fun i hi => rv_q h.1 (by omega) hi) h.2.2.1 h.2.2.2 hi
  · show (p.2.1, nI (trnv K p).toInt.toNat, p.2.2.2) = (q.2.1, nI (trnv K q).toInt.toNat, q.2.2.2)
    rw [trnv_q h, h.2.1]
theorem pn_q (h : eqp p q) (n : Nat) : eqp (pn K p n) (pn K q n) := by
  induction n with
  | zero => exact h
  | succ n ih => exact stp_q ih
theorem sam_q {r s : Po} (h : eqp p q) (h2 : eqp r s) {m : Nat} (hm : m ≤ 13) : sam m p r = sam m q s := by
  unfold sam
  rw [h.2.1, h2.2.1]
  congr 1
  rw [Bool.eq_iff_iff, alq_iff, alq_iff]
  constructor
  · intro z k hk
    have := z k hk
    rw [h.1 k (by omega), h2.1 k (by omega)] at this
    exact this
  · intro z k hk
    show decide (p.1 k = r.1 k) = true
    rw [h.1 k (by omega), h2.1 k (by omega)]
    exact z k hk
theorem gon_q (h : eqp p q) (L f : Nat) : gon K p L f = gon K q L f := by
  induction f with
  | zero => rfl
  | succ f ih =>
    simp only [gon]
    rw [endv_q (pn_q h _), stkv_q (pn_q h _), ih, show (fun e => sam p.2.1 (pn K p (L - f)) (pn K p e)) = (fun e => sam q.2.1 (pn K q (L - f)) (pn K q e)) from funext fun e => by rw [← h.2.1]; exact sam_q (pn_q h _) (pn_q h _) h.2.2.2]
theorem ebv_q (f : Nat) : ∀ (n : Nat) {p q : Po}, eqp p q → (ebv K f n p).1 = (ebv K f n q).1 ∧ eqp (ebv K f n p).2 (ebv K f n q).2 := by
  induction f with
  | zero => intro n p q h; exact ⟨by show (if endv K p = true then _ else _) = (if endv K q = true then _ else _); rw [endv_q h], h⟩
  | succ f ih =>
    intro n p q h
    simp only [ebv]
    rw [endv_q h, stkv_q h]
    by_cases c1 : endv K q = true
    · rw [if_pos c1, if_pos c1]; exact ⟨rfl, h⟩
    · rw [if_neg c1, if_neg c1]
      by_cases c2 : stkv K q = true
      · rw [if_pos c2, if_pos c2]; exact ⟨rfl, h⟩
      · rw [if_neg c2, if_neg c2]; exact ih (n + 1) (stp_q h)
def aft (K : Nat → Int32) : Nat → Po → Po
  | 0, p => p
  | f + 1, p => if cstv K p = true then aft K f (stp K p) else p
theorem aft_q (f : Nat) : ∀ {p q : Po}, eqp p q → eqp (aft K f p) (aft K f q) := by
  induction f with
  | zero => intro p q h; exact h
  | succ f ih =>
    intro p q h
    simp only [aft]
    rw [cstv_q h]
    by_cases c1 : cstv K q = true
    · rw [if_pos c1, if_pos c1]; exact ih (stp_q h)
    · rw [if_neg c1, if_neg c1]; exact h
end Eqp
