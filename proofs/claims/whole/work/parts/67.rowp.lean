/-! PURE: cells, rows of cards -/
def Fr (P : Nat → Prop) (h h2 : am_H) : Prop := ∀ a, ¬ P a → h2[a]? = h[a]?
theorem Fr.rf {P : Nat → Prop} {h : am_H} : Fr P h h := fun _ _ => rfl
theorem Fr.tr {P : Nat → Prop} {h h1 h2 : am_H} (a : Fr P h h1) (b : Fr P h1 h2) : Fr P h h2 := fun x hx => (b x hx).trans (a x hx)
theorem Fr.mono {P Q : Nat → Prop} {h h1 : am_H} (a : Fr P h h1) (hp : ∀ x, P x → Q x) : Fr Q h h1 := fun x hx => a x (fun z => hx (hp x z))
theorem Fr.set {P : Nat → Prop} {h : am_H} {a : Nat} {e : va_E} (hp : P a) : Fr P h (h.set a e) := fun x hx => List.getElem?_set_ne (fun z => hx (by rw [← z]; exact hp))
theorem ti_add {x y : Int32} {z : Int} (e : x.toInt + y.toInt = z) (h1 : -2147483648 ≤ z) (h2 : z ≤ 2147483647) : (x + y).toInt = z := by
  rw [Int32.toInt_add, e, Int.bmod_def]; omega
theorem ti_sub {x y : Int32} {z : Int} (e : x.toInt - y.toInt = z) (h1 : -2147483648 ≤ z) (h2 : z ≤ 2147483647) : (x - y).toInt = z := by
  rw [Int32.toInt_sub, e, Int.bmod_def]; omega
theorem ti0 : (0 : Int32).toInt = 0 := by decide
theorem ti1 : (1 : Int32).toInt = 1 := by decide
theorem tim1 : (-1 : Int32).toInt = -1 := by decide
theorem tile {x y : Int32} : x ≤ y ↔ x.toInt ≤ y.toInt := Int32.le_iff_toInt_le
theorem tilt {x y : Int32} : x < y ↔ x.toInt < y.toInt := Int32.lt_iff_toInt_lt
theorem tin {n : Nat} (h : n < 2 ^ 31) : (nI n).toInt = (n : Int) := nI_toInt h
theorem ti_r (x : Int32) : -2147483648 ≤ x.toInt ∧ x.toInt ≤ 2147483647 := ⟨Int32.le_toInt x, by have := Int32.toInt_lt x; omega⟩
/-- a row of cards at place r: claps, cards, how many, last, number -/
def RwA (h : am_H) (r c : Nat) (f : Nat → Int32) (m : Nat) (l n : Int32) : Prop := m ≤ 13 ∧ h[r]? = some (.inr (4, [.ref (r + 1), .int (nI m), .int (nI c), .int l, .int n])) ∧ h[r + 1]? = some (.inl (0, 13, .inl f))
abbrev rP (r : Nat) : Nat → Prop := fun a => a = r ∨ a = r + 1
section RowP
variable {h : am_H} {r c m : Nat} {f : Nat → Int32} {l n : Int32}
theorem RwA.o (H : RwA h r c f m l n) : isO h 4 r = true := isO_of H.2.1
theorem RwA.g0 (H : RwA h r c f m l n) : gR h 4 r 0 = some (r + 1) := by unfold gR; rw [ob_of H.2.1]; rfl
theorem RwA.g1 (H : RwA h r c f m l n) : gI h 4 r 1 = some (nI m) := by unfold gI; rw [ob_of H.2.1]; rfl
theorem RwA.g2 (H : RwA h r c f m l n) : gI h 4 r 2 = some (nI c) := by unfold gI; rw [ob_of H.2.1]; rfl
theorem RwA.g3 (H : RwA h r c f m l n) : gI h 4 r 3 = some l := by unfold gI; rw [ob_of H.2.1]; rfl
theorem RwA.g4 (H : RwA h r c f m l n) : gI h 4 r 4 = some n := by unfold gI; rw [ob_of H.2.1]; rfl
theorem RwA.ai (H : RwA h r c f m l n) {i : Int32} (hi : inN i 13) : aI h 0 (r + 1) i = some (f i.toInt.toNat) := by
  unfold aI; rw [arI_of H.2.2]; exact if_pos hi
theorem RwA.fr {P : Nat → Prop} {h2 : am_H} (H : RwA h r c f m l n) (F : Fr P h h2) (p0 : ¬ P r) (p1 : ¬ P (r + 1)) : RwA h2 r c f m l n := ⟨H.1, (F _ p0).trans H.2.1, (F _ p1).trans H.2.2⟩
theorem RwA.si (H : RwA h r c f m l n) {i : Int32} (hi : inN i 13) (x : Int32) : ∃ h2, sI h (r + 1) i x = some h2 ∧ RwA h2 r c (upd f i.toInt.toNat x) m l n ∧ Fr (rP r) h h2 := by
  refine ⟨h.set (r + 1) (.inl (0, 13, .inl (upd f i.toInt.toNat x))), ?_, ⟨H.1, ?_, ?_⟩, Fr.set (Or.inr rfl)⟩
  · unfold sI; rw [arI_of H.2.2]; exact if_pos hi
  · rw [List.getElem?_set_ne (by omega)]; exact H.2.1
  · exact set_at H.2.2
theorem RwA.pv (H : RwA h r c f m l n) {k : Nat} {v : Value} (hk : k < 5) {fs : List Value} (hf : [.ref (r + 1), .int (nI m), .int (nI c), .int l, .int n].set k v = fs) : ∃ h2, pV h 4 r k v = some h2 ∧ h2[r]? = some (.inr (4, fs)) ∧ h2[r + 1]? = some (.inl (0, 13, .inl f)) ∧ Fr (rP r) h h2 := by
  refine ⟨h.set r (.inr (4, fs)), ?_, set_at H.2.1, ?_, Fr.set (Or.inl rfl)⟩
  · unfold pV; rw [ob_of H.2.1, ← hf]; exact if_pos hk
  · rw [List.getElem?_set_ne (by omega)]; exact H.2.2
theorem RwA.p1 (H : RwA h r c f m l n) {m2 : Nat} (hm : m2 ≤ 13) : ∃ h2, pV h 4 r 1 (.int (nI m2)) = some h2 ∧ RwA h2 r c f m2 l n ∧ Fr (rP r) h h2 := by
  obtain ⟨h2, e, e1, e2, e3⟩ := H.pv (k := 1) (v := .int (nI m2)) (by decide) rfl
  exact ⟨h2, e, ⟨hm, e1, e2⟩, e3⟩
theorem RwA.p2 (H : RwA h r c f m l n) (c2 : Nat) : ∃ h2, pV h 4 r 2 (.int (nI c2)) = some h2 ∧ RwA h2 r c2 f m l n ∧ Fr (rP r) h h2 := by
  obtain ⟨h2, e, e1, e2, e3⟩ := H.pv (k := 2) (v := .int (nI c2)) (by decide) rfl
  exact ⟨h2, e, ⟨H.1, e1, e2⟩, e3⟩
theorem RwA.p3 (H : RwA h r c f m l n) (x : Int32) : ∃ h2, pV h 4 r 3 (.int x) = some h2 ∧ RwA h2 r c f m x n ∧ Fr (rP r) h h2 := by
  obtain ⟨h2, e, e1, e2, e3⟩ := H.pv (k := 3) (v := .int x) (by decide) rfl
  exact ⟨h2, e, ⟨H.1, e1, e2⟩, e3⟩
theorem RwA.p4 (H : RwA h r c f m l n) (x : Int32) : ∃ h2, pV h 4 r 4 (.int x) = some h2 ∧ RwA h2 r c f m l x ∧ Fr (rP r) h h2 := by
  obtain ⟨h2, e, e1, e2, e3⟩ := H.pv (k := 4) (v := .int x) (by decide) rfl
  exact ⟨h2, e, ⟨H.1, e1, e2⟩, e3⟩
theorem Row_card_v (H : RwA h r c f m l n) (x : Int32) : Row_card r x h = some (if inN x m then f x.toInt.toNat else -1) := by
  have hm := H.1
  have t := tin (show m < 2 ^ 31 by omega)
  unfold Row_card
  rw [if_pos H.o, H.g1]
  simp only [Option.bind_some, tile, tilt, ti0, t]
  by_cases h1 : x.toInt < 0
  · rw [if_pos h1, if_neg (by omega)]
  · rw [if_neg h1]
    by_cases h2 : (m : Int) ≤ x.toInt
    · rw [if_pos h2, if_neg (by omega)]
    · rw [if_neg h2, if_pos (show inN x m by omega), H.g0]
      simp only [Option.bind_some]
      rw [H.ai (by omega)]; rfl
theorem Row_has_v (H : RwA h r c f m l n) (x : Int32) : Row_has r x h = some (if inN x m then 1 else 0) := by
  have hm := H.1
  have t := tin (show m < 2 ^ 31 by omega)
  unfold Row_has
  rw [if_pos H.o, H.g1]
  simp only [Option.bind_some, tile, tilt, ti0, t]
  by_cases h1 : x.toInt < 0
  · rw [if_pos h1, if_neg (by omega)]
  · rw [if_neg h1]
    by_cases h2 : (m : Int) ≤ x.toInt
    · rw [if_pos h2, if_neg (by omega)]
    · rw [if_neg h2, if_pos (show inN x m by omega)]
def swp (f : Nat → Int32) (a b : Nat) : Nat → Int32 := upd (upd f a (f b)) b (f a)
theorem Row_exchange_v (H : RwA h r c f m l n) {i j : Int32} (hi : inN i m) (hj : inN j m) : ∃ h2, Row_exchange r i j h = some h2 ∧ RwA h2 r c (swp f i.toInt.toNat j.toInt.toNat) m l n ∧ Fr (rP r) h h2 := by
  have hm := H.1
  unfold Row_exchange
  rw [if_pos H.o, Row_has_v H, Row_has_v H, if_pos hi, if_pos hj]
  simp only [Option.bind_some]
  rw [if_neg (by decide), if_neg (by decide), H.g0]
  simp only [Option.bind_some]
  rw [H.ai (show inN i 13 by omega), H.ai (show inN j 13 by omega)]
  simp only [Option.bind_some]
  obtain ⟨h2, e1, H2, F1⟩ := H.si (show inN i 13 by omega) (f j.toInt.toNat)
  rw [e1]
  simp only [Option.bind_some]
  rw [H2.g0]
  simp only [Option.bind_some]
  obtain ⟨h3, e3, H3, F3⟩ := H2.si (show inN j 13 by omega) (f i.toInt.toNat)
  rw [e3]
  exact ⟨h3, rfl, H3, F1.tr F3⟩
theorem Row_exchange_n (H : RwA h r c f m l n) {i j : Int32} (hi : ¬ (inN i m ∧ inN j m)) : Row_exchange r i j h = some h := by
  unfold Row_exchange
  rw [if_pos H.o, Row_has_v H, Row_has_v H]
  simp only [Option.bind_some]
  by_cases h1 : inN i m
  · rw [if_pos h1, if_neg (by decide), if_neg (fun z => hi ⟨h1, z⟩), if_pos rfl]
  · rw [if_neg h1, if_pos rfl]
/-- turned over from lo to hi -/
def rvz (f : Nat → Int32) (lo hi : Int) : Nat → Int32 := fun i => if lo ≤ i ∧ (i : Int) ≤ hi then f (lo + hi - i).toNat else f i
theorem rvz_no {f : Nat → Int32} {lo hi : Int} (h : hi ≤ lo) : rvz f lo hi = f := by
  funext i
  unfold rvz
  split
  · congr 1; omega
  · rfl
theorem rvz_s {f : Nat → Int32} {lo hi : Int} (h : lo < hi) (h0 : 0 ≤ lo) : rvz (swp f lo.toNat hi.toNat) (lo + 1) (hi - 1) = rvz f lo hi := by
  funext i
  unfold rvz swp upd
  by_cases h1 : lo + 1 ≤ i ∧ (i : Int) ≤ hi - 1
  · rw [if_pos h1, if_neg (by omega), if_neg (by omega), if_pos (by omega)]; congr 1; omega
  · rw [if_neg h1]
    by_cases h2 : i = hi.toNat
    · rw [if_pos h2, if_pos (by omega)]; congr 1; omega
    · rw [if_neg h2]
      by_cases h3 : i = lo.toNat
      · rw [if_pos h3, if_pos (by omega)]; congr 1; omega
      · rw [if_neg h3, if_neg (by omega)]
theorem swp_c (f : Nat → Int32) (a b : Nat) : upd (upd f b (f a)) a (f b) = swp f a b := by
  funext i
  unfold swp upd
  by_cases h1 : i = a <;> by_cases h2 : i = b
  · subst h1; rw [if_pos rfl, if_pos h2, h2]
  · rw [if_pos h1, if_neg h2, if_pos h1]
  · rw [if_neg h1, if_pos h2, if_pos h2]
  · rw [if_neg h1, if_neg h2, if_neg h2, if_neg h1]
theorem Row_reverse_l : ∀ (k : Nat) (hi lo : Int32) (h : am_H) (f : Nat → Int32), RwA h r c f m l n → 0 ≤ lo.toInt → hi.toInt < m → hi.toInt - lo.toInt ≤ k → ∃ h2, Row_reverse_18 r hi lo h = some h2 ∧ RwA h2 r c (rvz f lo.toInt hi.toInt) m l n ∧ Fr (rP r) h h2 := by
  intro k
  induction k with
  | zero =>
    intro hi lo h f H h0 h1 h2
    rw [Row_reverse_18_e, if_pos (tile.mpr (by omega))]
    exact ⟨h, rfl, by rw [rvz_no (by omega)]; exact H, Fr.rf⟩
  | succ k ih =>
    intro hi lo h f H h0 h1 h2
    have hm := H.1
    rw [Row_reverse_18_e]
    by_cases hc : hi ≤ lo
    · rw [if_pos hc]
      have := tile.mp hc
      exact ⟨h, rfl, by rw [rvz_no (by omega)]; exact H, Fr.rf⟩
    · rw [if_neg hc]
      have hc2 : lo.toInt < hi.toInt := by have := mt tile.mpr hc; omega
      rw [H.g0]
      simp only [Option.bind_some]
      rw [H.ai (show inN lo 13 by omega), H.ai (show inN hi 13 by omega)]
      simp only [Option.bind_some]
      obtain ⟨h3, e1, H2, F1⟩ := H.si (show inN lo 13 by omega) (f hi.toInt.toNat)
      rw [e1]
      simp only [Option.bind_some]
      rw [H2.g0]
      simp only [Option.bind_some]
      obtain ⟨h4, e3, H3, F3⟩ := H2.si (show inN hi 13 by omega) (f lo.toInt.toNat)
      rw [e3]
      simp only [Option.bind_some]
      have t1 : (hi + (-1 : Int32)).toInt = hi.toInt - 1 := ti_add (by rw [tim1]; omega) (by omega) (by omega)
      have t2 : (lo + (1 : Int32)).toInt = lo.toInt + 1 := ti_add (by rw [ti1]) (by omega) (by omega)
      obtain ⟨h5, e5, H5, F5⟩ := ih (hi + (-1 : Int32)) (lo + (1 : Int32)) h4 _ H3 (by omega) (by omega) (by omega)
      refine ⟨h5, e5, ?_, (F1.tr F3).tr F5⟩
      rw [t1, t2] at H5
      have : rvz (upd (upd f lo.toInt.toNat (f hi.toInt.toNat)) hi.toInt.toNat (f lo.toInt.toNat)) (lo.toInt + 1) (hi.toInt - 1) = rvz f lo.toInt hi.toInt := rvz_s (f := f) (by omega) (by omega)
      rw [this] at H5
      exact H5
theorem Row_reverse_v (H : RwA h r c f m l n) (a b : Int32) : ∃ h2, Row_reverse r a b h = some h2 ∧ RwA h2 r c (rvz f (max a.toInt 0) (min b.toInt (m - 1))) m l n ∧ Fr (rP r) h h2 := by
  have hm := H.1
  have t := tin (show m < 2 ^ 31 by omega)
  have tb := ti_r b
  have ta := ti_r a
  have t1 : (nI m - (1 : Int32)).toInt = m - 1 := ti_sub (by rw [t, ti1]) (by omega) (by omega)
  unfold Row_reverse
  rw [if_pos H.o, H.g1]
  simp only [Option.bind_some]
  have e1 : (if nI m - (1 : Int32) < b then nI m - (1 : Int32) else b).toInt = min b.toInt (m - 1) := by
    split <;> rename_i q <;> rw [tilt, t1] at q <;> omega
  have e2 : (if a < (0 : Int32) then (0 : Int32) else a).toInt = max a.toInt 0 := by
    split <;> rename_i q <;> rw [tilt, ti0] at q
    · rw [ti0]; omega
    · omega
  obtain ⟨h2, e, H2, F⟩ := Row_reverse_l (r := r) 13 (if nI m - (1 : Int32) < b then nI m - (1 : Int32) else b) (if a < (0 : Int32) then (0 : Int32) else a) h f H (by rw [e2]; omega) (by rw [e1]; omega) (by rw [e1, e2]; omega)
  rw [e1, e2] at H2
  exact ⟨h2, e, H2, F⟩
def lowf (f : Nat → Int32) (m n : Nat) : Nat → Int32 := rvz (rvz (rvz f 0 (n - 1)) n (m - 1)) 0 (m - 1)
theorem lowf_at {f : Nat → Int32} {m n i : Nat} (hn : n ≤ m) (hi : i < m) : lowf f m n i = f ((i + n) % m) := by
  unfold lowf
  have e1 : rvz (rvz (rvz f 0 (n - 1)) n (m - 1)) 0 (m - 1) i = rvz (rvz f 0 (n - 1)) n (m - 1) (m - 1 - i) := by
    show (if _ then _ else _) = _
    rw [if_pos (by omega)]; congr 1; omega
  rw [e1]
  by_cases h1 : i + n < m
  · rw [Nat.mod_eq_of_lt h1]
    have e2 : rvz (rvz f 0 (n - 1)) n (m - 1) (m - 1 - i) = rvz f 0 (n - 1) (i + n) := by
      show (if _ then _ else _) = _
      rw [if_pos (by omega)]; congr 1; omega
    rw [e2]
    show (if _ then _ else _) = _
    rw [if_neg (by omega)]
  · have e3 : (i + n) % m = i + n - m := by rw [Nat.mod_eq_sub_mod (by omega), Nat.mod_eq_of_lt (by omega)]
    rw [e3]
    have e2 : rvz (rvz f 0 (n - 1)) n (m - 1) (m - 1 - i) = rvz f 0 (n - 1) (m - 1 - i) := by
      show (if _ then _ else _) = _
      rw [if_neg (by omega)]
    rw [e2]
    show (if _ then _ else _) = _
    rw [if_pos (by omega)]; congr 1; omega
theorem Row_lower_v (H : RwA h r c f m l n) {k : Nat} (hk : k ≤ m) : ∃ h2, Row_lower r (nI k) h = some h2 ∧ RwA h2 r c (lowf f m k) m l n ∧ Fr (rP r) h h2 := by
  have hm := H.1
  have t := tin (show m < 2 ^ 31 by omega)
  have tk := tin (show k < 2 ^ 31 by omega)
  have t1 : (nI m - (1 : Int32)).toInt = m - 1 := ti_sub (by rw [t, ti1]) (by omega) (by omega)
  have t2 : (nI k - (1 : Int32)).toInt = k - 1 := ti_sub (by rw [tk, ti1]) (by omega) (by omega)
  unfold Row_lower
  rw [if_pos H.o]
  obtain ⟨h1, e1, H1, F1⟩ := Row_reverse_v H (0 : Int32) (nI k - (1 : Int32))
  rw [e1]
  simp only [Option.bind_some]
  rw [H1.g1]
  simp only [Option.bind_some]
  obtain ⟨h2, e2, H2, F2⟩ := Row_reverse_v H1 (nI k) (nI m - (1 : Int32))
  rw [e2]
  simp only [Option.bind_some]
  rw [H2.g1]
  simp only [Option.bind_some]
  obtain ⟨h3, e3, H3, F3⟩ := Row_reverse_v H2 (0 : Int32) (nI m - (1 : Int32))
  rw [e3]
  refine ⟨h3, rfl, ?_, (F1.tr F2).tr F3⟩
  rw [t1, t2, tk, ti0, show min ((k : Int) - 1) (m - 1) = k - 1 by omega, show max (0 : Int) 0 = 0 by omega, show max (k : Int) 0 = k by omega, show min ((m : Int) - 1) (m - 1) = m - 1 by omega] at H3
  exact H3
def apt (r s : Nat) : Prop := s ≠ r ∧ s ≠ r + 1 ∧ s + 1 ≠ r
theorem Row_copy_v {s c2 m2 : Nat} {f2 : Nat → Int32} {l2 n2 : Int32} (H : RwA h r c f m l n) (H2 : RwA h s c2 f2 m2 l2 n2) (ha : apt r s) : ∃ h2, Row_copy r s h = some h2 ∧ RwA h2 r c2 (va_cpy f2 f 0 0 13) m2 l2 n2 ∧ Fr (rP r) h h2 := by
  obtain ⟨a1, a2, a3⟩ := ha
  have p0 : ¬ rP r s := by rintro (z | z) <;> omega
  have p1 : ¬ rP r (s + 1) := by rintro (z | z) <;> omega
  unfold Row_copy
  rw [if_pos H.o, H2.g0, H.g0]
  simp only [Option.bind_some]
  have e0 : cpy h (s + 1) (0 : Int32) (r + 1) (0 : Int32) (13 : Int32) = some (h.set (r + 1) (.inl (0, 13, .inl (va_cpy f2 f 0 0 13)))) := by
    unfold cpy
    rw [arI_of H2.2.2, arI_of H.2.2]
    simp only [Option.bind_some]
    rw [if_pos (by decide)]
    rfl
  rw [e0]
  simp only [Option.bind_some]
  have G1 : RwA (h.set (r + 1) (.inl (0, 13, .inl (va_cpy f2 f 0 0 13)))) r c (va_cpy f2 f 0 0 13) m l n := ⟨H.1, by rw [List.getElem?_set_ne (by omega)]; exact H.2.1, set_at H.2.2⟩
  have F1 : Fr (rP r) h (h.set (r + 1) (.inl (0, 13, .inl (va_cpy f2 f 0 0 13)))) := Fr.set (Or.inr rfl)
  rw [(H2.fr F1 p0 p1).g1]
  simp only [Option.bind_some]
  obtain ⟨h3, e3, G3, F3⟩ := G1.p1 H2.1
  rw [e3]
  simp only [Option.bind_some]
  rw [(H2.fr (F1.tr F3) p0 p1).g2]
  simp only [Option.bind_some]
  obtain ⟨h4, e4, G4, F4⟩ := G3.p2 c2
  rw [e4]
  simp only [Option.bind_some]
  rw [(H2.fr ((F1.tr F3).tr F4) p0 p1).g3]
  simp only [Option.bind_some]
  obtain ⟨h5, e5, G5, F5⟩ := G4.p3 l2
  rw [e5]
  simp only [Option.bind_some]
  rw [(H2.fr (((F1.tr F3).tr F4).tr F5) p0 p1).g4]
  simp only [Option.bind_some]
  obtain ⟨h6, e6, G6, F6⟩ := G5.p4 n2
  rw [e6]
  exact ⟨h6, rfl, G6, (((F1.tr F3).tr F4).tr F5).tr F6⟩
theorem nI_p1 (i : Nat) : nI i + (1 : Int32) = nI (i + 1) := (nI_add i 1)
theorem Row_rise_l : ∀ (k i : Nat) (h : am_H) (f : Nat → Int32), RwA h r c f m l n → i + k = m → ∃ h2, Row_rise_16 r (nI i) h = some h2 ∧ RwA h2 r 0 (fill f i k (fun j => nI (i + j + 1))) m 0 (-1) ∧ Fr (rP r) h h2 := by
  intro k
  induction k with
  | zero =>
    intro i h f H hk
    have hm := H.1
    have t := tin (show m < 2 ^ 31 by omega)
    have tk := tin (show i < 2 ^ 31 by omega)
    rw [Row_rise_16_e, H.g1]
    simp only [Option.bind_some]
    rw [if_pos (tile.mpr (by omega))]
    obtain ⟨h3, e3, G3, F3⟩ := H.p2 0
    rw [show (0 : Int32) = nI 0 from rfl, e3]
    simp only [Option.bind_some]
    obtain ⟨h4, e4, G4, F4⟩ := G3.p3 (nI 0)
    rw [e4]
    simp only [Option.bind_some]
    obtain ⟨h5, e5, G5, F5⟩ := G4.p4 (-1)
    rw [e5]
    exact ⟨h5, rfl, by rw [fill_0]; exact G5, (F3.tr F4).tr F5⟩
  | succ k ih =>
    intro i h f H hk
    have hm := H.1
    have t := tin (show m < 2 ^ 31 by omega)
    have tk := tin (show i < 2 ^ 31 by omega)
    rw [Row_rise_16_e, H.g1]
    simp only [Option.bind_some]
    rw [if_neg (fun z => by have := tile.mp z; omega), H.g0]
    simp only [Option.bind_some]
    obtain ⟨h3, e3, G3, F3⟩ := H.si (i := nI i) (show inN (nI i) 13 by omega) (nI i + (1 : Int32))
    rw [e3]
    simp only [Option.bind_some]
    rw [nI_p1] at G3 ⊢
    obtain ⟨h4, e4, G4, F4⟩ := ih (i + 1) h3 _ G3 (by omega)
    refine ⟨h4, e4, ?_, F3.tr F4⟩
    have : fill (upd f (nI i).toInt.toNat (nI (i + 1))) (i + 1) k (fun j => nI (i + 1 + j + 1)) = fill f i (k + 1) (fun j => nI (i + j + 1)) := by
      funext a
      unfold fill upd
      rw [tk]
      by_cases q : i + 1 ≤ a ∧ a < i + 1 + k
      · rw [if_pos q, if_pos (by omega)]; exact congrArg nI (by omega)
      · rw [if_neg q]
        by_cases q2 : a = (i : Int).toNat
        · rw [if_pos q2, if_pos (by omega)]; exact congrArg nI (by omega)
        · rw [if_neg q2, if_neg (by omega)]
    rw [this] at G4
    exact G4
theorem Row_rise_v (H : RwA h r c f m l n) {k : Nat} (hk : k ≤ 13) : ∃ h2, Row_rise r (nI k) h = some h2 ∧ RwA h2 r 0 (fill f 0 k (fun j => nI (j + 1))) k 0 (-1) ∧ Fr (rP r) h h2 := by
  have tk := tin (show k < 2 ^ 31 by omega)
  have t13 : (13 : Int32).toInt = 13 := by decide
  unfold Row_rise
  rw [if_pos H.o]
  have e1 : (if (0 : Int32) < (if (13 : Int32) < nI k then (13 : Int32) else nI k) then (if (13 : Int32) < nI k then (13 : Int32) else nI k) else (0 : Int32)) = nI k := by
    have e0 : (if (13 : Int32) < nI k then (13 : Int32) else nI k) = nI k := if_neg (fun z => by have := tilt.mp z; omega)
    rw [e0]
    by_cases q : k = 0
    · subst q; rfl
    · rw [if_pos (tilt.mpr (by rw [tk, ti0]; omega))]
  rw [e1]
  obtain ⟨h3, e3, G3, F3⟩ := H.p1 hk
  rw [e3]
  simp only [Option.bind_some]
  obtain ⟨h4, e4, G4, F4⟩ := Row_rise_l k 0 h3 f G3 (by omega)
  refine ⟨h4, e4, ?_, F3.tr F4⟩
  have : (fun j => nI (0 + j + 1)) = fun j => nI (j + 1) := by funext j; congr 1; omega
  rw [this] at G4
  exact G4
theorem Row_rises_l (H : RwA h r c f m l n) : ∀ (k i : Nat), 1 ≤ i → i + k = m → ris f i = true → Row_rises_2 r (nI i) h = some (if ris f m = true then 1 else 0) := by
  have hm := H.1
  have t := tin (show m < 2 ^ 31 by omega)
  intro k
  induction k with
  | zero =>
    intro i h1 hk hr
    have tk := tin (show i < 2 ^ 31 by omega)
    obtain rfl : i = m := by omega
    rw [Row_rises_2_e, H.g1]
    simp only [Option.bind_some]
    rw [if_pos (tile.mpr (by omega)), if_pos hr]
  | succ k ih =>
    intro i h1 hk hr
    have tk := tin (show i < 2 ^ 31 by omega)
    have t1 : (nI i - (1 : Int32)).toInt = i - 1 := ti_sub (by rw [tk, ti1]) (by omega) (by omega)
    rw [Row_rises_2_e, H.g1]
    simp only [Option.bind_some]
    rw [if_neg (fun z => by have := tile.mp z; omega), H.g0]
    simp only [Option.bind_some]
    rw [H.ai (show inN (nI i - (1 : Int32)) 13 by omega), H.ai (show inN (nI i) 13 by omega), t1, tk, show ((i : Int) - 1).toNat = i - 1 by omega, show (i : Int).toNat = i by omega]
    simp only [Option.bind_some]
    by_cases q : f (i - 1) ≤ f i
    · rw [if_pos q, nI_p1]
      exact ih (i + 1) (by omega) (by omega) (ris_s.mpr ⟨hr, Or.inr q⟩)
    · rw [if_neg q, if_neg]
      intro z
      have key : ∀ d, ris f (i + 1 + d) = true → ris f (i + 1) = true := by
        intro d
        induction d with
        | zero => exact fun z => z
        | succ d ihd => exact fun z => ihd (ris_s.mp z).1
      have := key (m - (i + 1)) (by rw [show i + 1 + (m - (i + 1)) = m by omega]; exact z)
      rcases (ris_s.mp this).2 with z2 | z2
      · omega
      · exact q z2
theorem Row_rises_v (H : RwA h r c f m l n) (h1 : 1 ≤ m) : Row_rises r h = some (if ris f m = true then 1 else 0) := by
  unfold Row_rises
  rw [if_pos H.o]
  exact Row_rises_l H (m - 1) 1 (by omega) (by omega) (by simp [ris])
def pkf (f : Nat → Int32) (a : Int64) : Nat → Int64
  | 0 => a
  | k + 1 => (pkf f a k <<< (Int32.toInt64 (4 : Int32) &&& 63)) ||| Int32.toInt64 (f k)
theorem Row_packed_l (H : RwA h r c f m l n) (a : Int64) : ∀ (k i : Nat), i + k = m → Row_packed_8 r (pkf f a i) (nI i) h = some (pkf f a m) := by
  have hm := H.1
  have t := tin (show m < 2 ^ 31 by omega)
  intro k
  induction k with
  | zero =>
    intro i hk
    have tk := tin (show i < 2 ^ 31 by omega)
    obtain rfl : i = m := by omega
    rw [Row_packed_8_e, H.g1]
    simp only [Option.bind_some]
    rw [if_pos (tile.mpr (by omega))]
  | succ k ih =>
    intro i hk
    have tk := tin (show i < 2 ^ 31 by omega)
    rw [Row_packed_8_e, H.g1]
    simp only [Option.bind_some]
    rw [if_neg (fun z => by have := tile.mp z; omega), H.g0]
    simp only [Option.bind_some]
    rw [H.ai (show inN (nI i) 13 by omega), tk, show (i : Int).toNat = i by omega, nI_p1]
    exact ih (i + 1) (by omega)
theorem Row_packed_v (H : RwA h r c f m l n) : Row_packed r h = some (pkf f (Int32.toInt64 l) m) := by
  unfold Row_packed
  rw [if_pos H.o, H.g3]
  exact Row_packed_l H _ m 0 (by omega)
end RowP
