/-! PURE: a row's cards sorted from a place on -/
def cnx (f : Nat → Int32) (x : Int32) : Nat → Nat
  | 0 => 0
  | k + 1 => cnx f x k + (if f k = x then 1 else 0)
def srt (f : Nat → Int32) (a b : Nat) : Prop := ∀ i j, a ≤ i → i ≤ j → j < b → (f i).toInt ≤ (f j).toInt
theorem cnx_upd {f : Nat → Int32} {x v : Int32} {k : Nat} : ∀ {m : Nat}, (m ≤ k → cnx (upd f k v) x m = cnx f x m) ∧ (k < m → cnx (upd f k v) x m + (if f k = x then 1 else 0) = cnx f x m + (if v = x then 1 else 0))
  | 0 => ⟨fun _ => rfl, fun h => by omega⟩
  | m + 1 => by
    obtain ⟨h1, h2⟩ := cnx_upd (f := f) (x := x) (v := v) (k := k) (m := m)
    refine ⟨fun h => ?_, fun h => ?_⟩
    · show cnx (upd f k v) x m + (if upd f k v m = x then 1 else 0) = cnx f x m + (if f m = x then 1 else 0)
      rw [h1 (by omega), show upd f k v m = f m from if_neg (by omega)]
    · show cnx (upd f k v) x m + (if upd f k v m = x then 1 else 0) + _ = cnx f x m + (if f m = x then 1 else 0) + _
      by_cases e : k = m
      · subst e
        rw [h1 (Nat.le_refl _), show upd f k v k = v from if_pos rfl]; omega
      · have := h2 (by omega)
        rw [show upd f k v m = f m from if_neg (fun z => e z.symm)]; omega
theorem cnx_swp {f : Nat → Int32} {x : Int32} {a b m : Nat} (ha : a < m) (hb : b < m) : cnx (swp f a b) x m = cnx f x m := by
  unfold swp
  have h1 := (cnx_upd (f := f) (x := x) (v := f b) (k := a) (m := m)).2 ha
  have h2 := (cnx_upd (f := upd f a (f b)) (x := x) (v := f a) (k := b) (m := m)).2 hb
  have e : upd f a (f b) b = f b := by
    unfold upd
    split
    · rfl
    · rfl
  rw [e] at h2
  omega
section Srt
variable {r c m : Nat} {l n : Int32}
theorem Row_order_18_l {fr i : Nat} (hi : i < m) : ∀ (j : Nat) (h : am_H) (f : Nat → Int32), fr ≤ j → j ≤ i → RwA h r c f m l n → (∀ a b, fr ≤ a → a ≤ b → b ≤ i → a ≠ j → b ≠ j → (f a).toInt ≤ (f b).toInt) → (∀ b, j < b → b ≤ i → (f j).toInt ≤ (f b).toInt) → ∃ h2 f2, Row_order_18 r (nI fr) (nI i) (nI j) h = Row_order_58 r (nI fr) (nI i) h2 ∧ RwA h2 r c f2 m l n ∧ srt f2 fr (i + 1) ∧ (∀ x, cnx f2 x m = cnx f x m) ∧ (∀ a, a < fr ∨ i < a → f2 a = f a) ∧ Fr (rP r) h h2 := by
  intro j
  induction j with
  | zero =>
    intro h f h1 h2 H g1 g2
    have hm := H.1
    have tf := tin (show fr < 2 ^ 31 by omega)
    refine ⟨h, f, ?_, H, fun a b ha hab hb => ?_, fun x => rfl, fun a _ => rfl, Fr.rf⟩
    · rw [Row_order_18_e, if_pos (tile.mpr (by rw [tf, tin (by omega)]; omega))]
    · by_cases e : a = 0
      · subst e
        by_cases e2 : b = 0
        · subst e2; exact Int.le_refl _
        · exact g2 b (by omega) (by omega)
      · exact g1 a b ha hab (by omega) e (by omega)
  | succ j ih =>
    intro h f h1 h2 H g1 g2
    have hm := H.1
    have tf := tin (show fr < 2 ^ 31 by omega)
    have tj := tin (show j + 1 < 2 ^ 31 by omega)
    have tj0 := tin (show j < 2 ^ 31 by omega)
    have stop : (fr = j + 1 ∨ (f j).toInt ≤ (f (j + 1)).toInt) → srt f fr (i + 1) := by
      intro hs a b ha hab hb
      by_cases e : a = j + 1
      · subst e
        by_cases e2 : b = j + 1
        · subst e2; exact Int.le_refl _
        · exact g2 b (by omega) (by omega)
      · by_cases e2 : b = j + 1
        · subst e2
          rcases hs with hs | hs
          · omega
          · by_cases e3 : a = j
            · subst e3; exact hs
            · exact Int.le_trans (g1 a j ha (by omega) (by omega) e (by omega)) hs
        · exact g1 a b ha hab (by omega) e e2
    rw [Row_order_18_e]
    by_cases q1 : j + 1 ≤ fr
    · rw [if_pos (tile.mpr (by omega))]
      exact ⟨h, f, rfl, H, stop (Or.inl (by omega)), fun x => rfl, fun a _ => rfl, Fr.rf⟩
    · have ej : nI (j + 1) - (1 : Int32) = nI j := pk_sub (a := j + 1) (b := 1) (by omega)
      rw [if_neg (fun z => by have := tile.mp z; omega), if_neg (fun z => by have := tile.mp z; rw [tj, ti0] at this; omega), H.g0, ej]
      simp only [Option.bind_some]
      rw [H.ai (show inN (nI j) 13 by omega), H.ai (show inN (nI (j + 1)) 13 by omega), tj, tj0, show (j : Int).toNat = j by omega, show ((j + 1 : Nat) : Int).toNat = j + 1 by omega]
      simp only [Option.bind_some]
      by_cases q2 : f j ≤ f (j + 1)
      · rw [if_pos q2]
        exact ⟨h, f, rfl, H, stop (Or.inr (tile.mp q2)), fun x => rfl, fun a _ => rfl, Fr.rf⟩
      · rw [if_neg q2]
        have q3 : (f (j + 1)).toInt < (f j).toInt := by have := mt tile.mpr q2; omega
        obtain ⟨h3, e3, H3, F3⟩ := Row_exchange_v H (i := nI j) (j := nI (j + 1)) (by omega) (by omega)
        rw [tj, tj0, show (j : Int).toNat = j by omega, show ((j + 1 : Nat) : Int).toNat = j + 1 by omega] at H3
        rw [e3]
        simp only [Option.bind_some]
        rw [show nI (j + 1) + (-1 : Int32) = nI j from pk_m1 j]
        have sj : swp f j (j + 1) j = f (j + 1) := by unfold swp upd; rw [if_neg (by omega), if_pos rfl]
        have sj1 : swp f j (j + 1) (j + 1) = f j := by unfold swp upd; rw [if_pos rfl]
        have so : ∀ a, a ≠ j → a ≠ j + 1 → swp f j (j + 1) a = f a := fun a z1 z2 => by unfold swp upd; rw [if_neg z2, if_neg z1]
        obtain ⟨h4, f4, e4, H4, s4, c4, u4, F4⟩ := ih h3 _ (by omega) (by omega) H3 (fun a b ha hab hb na nb => by
          by_cases ea : a = j + 1
          · subst ea
            rw [sj1]
            by_cases eb : b = j + 1
            · subst eb; rw [sj1]; exact Int.le_refl _
            · rw [so b nb eb]; exact g1 j b (by omega) (by omega) hb (by omega) eb
          · rw [so a na ea]
            by_cases eb : b = j + 1
            · subst eb; rw [sj1]; exact g1 a j ha (by omega) (by omega) ea (by omega)
            · rw [so b nb eb]; exact g1 a b ha hab hb ea eb) (fun b hb hb2 => by
          rw [sj]
          by_cases eb : b = j + 1
          · subst eb; rw [sj1]; omega
          · rw [so b (by omega) eb]; exact g2 b (by omega) hb2)
        refine ⟨h4, f4, e4, H4, s4, fun x => (c4 x).trans (cnx_swp (by omega) (by omega)), fun a ha => ?_, F3.tr F4⟩
        rw [u4 a ha]; exact so a (by omega) (by omega)
theorem Row_order_l {fr : Nat} : ∀ (k i : Nat) (h : am_H) (f : Nat → Int32), i + k = m → fr < i → RwA h r c f m l n → srt f fr i → ∃ h2 f2, Row_order_8 r (nI fr) (nI i) h = some h2 ∧ RwA h2 r c f2 m l n ∧ srt f2 fr m ∧ (∀ x, cnx f2 x m = cnx f x m) ∧ (∀ a, a < fr ∨ m ≤ a → f2 a = f a) ∧ Fr (rP r) h h2 := by
  intro k
  induction k with
  | zero =>
    intro i h f hi hf H hs
    have hm := H.1
    have ti := tin (show i < 2 ^ 31 by omega)
    have tm := tin (show m < 2 ^ 31 by omega)
    refine ⟨h, f, ?_, H, by rw [← (show i = m by omega)]; exact hs, fun x => rfl, fun a _ => rfl, Fr.rf⟩
    rw [Row_order_8_e, H.g1]
    simp only [Option.bind_some]
    rw [if_pos (tile.mpr (by omega))]
  | succ k ih =>
    intro i h f hi hf H hs
    have hm := H.1
    have ti := tin (show i < 2 ^ 31 by omega)
    have tm := tin (show m < 2 ^ 31 by omega)
    obtain ⟨h3, f3, e3, H3, s3, c3, u3, F3⟩ := Row_order_18_l (r := r) (c := c) (l := l) (n := n) (fr := fr) (i := i) (m := m) (by omega) i h f (by omega) (Nat.le_refl _) H (fun a b ha hab hb na nb => hs a b ha hab (by omega)) (fun b h1 h2 => by omega)
    obtain ⟨h4, f4, e4, H4, s4, c4, u4, F4⟩ := ih (i + 1) h3 f3 (by omega) (by omega) H3 s3
    refine ⟨h4, f4, ?_, H4, s4, fun x => (c4 x).trans (c3 x), fun a ha => (u4 a ha).trans (u3 a (by omega)), F3.tr F4⟩
    rw [Row_order_8_e, H.g1]
    simp only [Option.bind_some]
    rw [if_neg (fun z => by have := tile.mp z; omega), e3, Row_order_58_e, nI_p1]
    exact e4
theorem Row_order_v {h : am_H} {f : Nat → Int32} (H : RwA h r c f m l n) {fr : Nat} (hf : fr ≤ m) : ∃ h2 f2, Row_order r (nI fr) h = some h2 ∧ RwA h2 r c f2 m l n ∧ srt f2 fr m ∧ (∀ x, cnx f2 x m = cnx f x m) ∧ (∀ a, a < fr ∨ m ≤ a → f2 a = f a) ∧ Fr (rP r) h h2 := by
  have hm := H.1
  have tf := tin (show fr < 2 ^ 31 by omega)
  have tm := tin (show m < 2 ^ 31 by omega)
  have e0 : Row_order r (nI fr) h = Row_order_8 r (nI fr) (nI (fr + 1)) h := by
    unfold Row_order
    rw [if_pos H.o, if_neg (fun z => by have := tilt.mp z; rw [tf, ti0] at this; omega), nI_p1]
  rw [e0]
  by_cases q : fr + 1 ≤ m
  · exact Row_order_l (m - (fr + 1)) (fr + 1) h f (by omega) (by omega) H (fun a b ha hab hb => by
      obtain rfl : a = b := by omega
      exact Int.le_refl _)
  · refine ⟨h, f, ?_, H, fun a b ha hab hb => by omega, fun x => rfl, fun a _ => rfl, Fr.rf⟩
    rw [Row_order_8_e, H.g1]
    simp only [Option.bind_some]
    rw [if_pos (tile.mpr (by rw [tm, tin (by omega)]; omega))]
end Srt
/-- two sorted rows with the same cards are the same -/
theorem cnx_z {f : Nat → Int32} {x : Int32} : ∀ {m : Nat}, cnx f x m = 0 → ∀ i, i < m → f i ≠ x
  | 0, _, i, hi => by omega
  | m + 1, h, i, hi => by
    have h' : cnx f x m + (if f m = x then 1 else 0) = 0 := h
    have h1 : cnx f x m = 0 := by omega
    by_cases e : i = m
    · subst e
      intro z
      rw [if_pos z] at h'; omega
    · exact cnx_z h1 i (by omega)
theorem cnx_p {f : Nat → Int32} {i : Nat} : ∀ {m : Nat}, i < m → 0 < cnx f (f i) m
  | 0, h => by omega
  | m + 1, h => by
    show 0 < cnx f (f i) m + (if f m = f i then 1 else 0)
    by_cases e : i = m
    · subst e; rw [if_pos rfl]; omega
    · have := cnx_p (f := f) (i := i) (m := m) (by omega); omega
theorem srt_u {f g : Nat → Int32} : ∀ {m : Nat}, srt f 0 m → srt g 0 m → (∀ x, cnx f x m = cnx g x m) → ∀ i, i < m → f i = g i
  | 0, _, _, _, i, hi => by omega
  | m + 1, hf, hg, hc, i, hi => by
    have top : f m = g m := by
      apply Int32.toInt_inj.mp
      have a1 : (f m).toInt ≤ (g m).toInt := by
        have p := cnx_p (f := f) (i := m) (m := m + 1) (by omega)
        rw [hc] at p
        have : ∃ j, j < m + 1 ∧ g j = f m := by
          refine Classical.byContradiction (fun z => ?_)
          have key : ∀ k, k ≤ m + 1 → cnx g (f m) k = 0 := by
            intro k
            induction k with
            | zero => exact fun _ => rfl
            | succ k ih =>
              intro hk
              show cnx g (f m) k + (if g k = f m then 1 else 0) = 0
              rw [ih (by omega), if_neg (fun y => z ⟨k, by omega, y⟩)]
          have := key (m + 1) (Nat.le_refl _); omega
        obtain ⟨j, hj, e⟩ := this
        rw [← e]; exact hg j m (Nat.zero_le _) (by omega) (by omega)
      have a2 : (g m).toInt ≤ (f m).toInt := by
        have p := cnx_p (f := g) (i := m) (m := m + 1) (by omega)
        rw [← hc] at p
        have : ∃ j, j < m + 1 ∧ f j = g m := by
          refine Classical.byContradiction (fun z => ?_)
          have key : ∀ k, k ≤ m + 1 → cnx f (g m) k = 0 := by
            intro k
            induction k with
            | zero => exact fun _ => rfl
            | succ k ih =>
              intro hk
              show cnx f (g m) k + (if f k = g m then 1 else 0) = 0
              rw [ih (by omega), if_neg (fun y => z ⟨k, by omega, y⟩)]
          have := key (m + 1) (Nat.le_refl _); omega
        obtain ⟨j, hj, e⟩ := this
        rw [← e]; exact hf j m (Nat.zero_le _) (by omega) (by omega)
      omega
    by_cases e : i = m
    · subst e; exact top
    · refine srt_u (m := m) (fun a b h1 h2 h3 => hf a b h1 h2 (by omega)) (fun a b h1 h2 h3 => hg a b h1 h2 (by omega)) (fun x => ?_) i (by omega)
      have h1 : cnx f x m + (if f m = x then 1 else 0) = cnx g x m + (if g m = x then 1 else 0) := hc x
      rw [top] at h1
      omega
