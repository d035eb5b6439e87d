/-! PURE: a row of cards, what lies beyond its cards left open -/
def RowAt (h : am_H) (r c : Nat) (p : Po) : Prop := ∃ g, RwA h r c g p.2.1 p.2.2.1 p.2.2.2 ∧ ∀ i, i < p.2.1 → g i = p.1 i
section RowQ
variable {h : am_H} {r c s c2 : Nat} {p q : Po}
theorem RwA.at {f : Nat → Int32} {m : Nat} {l n : Int32} (H : RwA h r c f m l n) : RowAt h r c (f, m, l, n) := ⟨f, H, fun _ _ => rfl⟩
theorem RwA.at2 {f g : Nat → Int32} {m : Nat} {l n : Int32} (H : RwA h r c g m l n) (he : ∀ i, i < m → g i = f i) : RowAt h r c (f, m, l, n) := ⟨g, H, he⟩
theorem RowAt.m (H : RowAt h r c p) : p.2.1 ≤ 13 := by obtain ⟨g, H, _⟩ := H; exact H.1
theorem RowAt.eq (H : RowAt h r c p) (he : ∀ i, i < p.2.1 → p.1 i = q.1 i) (h2 : p.2 = q.2) : RowAt h r c q := by
  obtain ⟨g, H, e⟩ := H
  obtain ⟨f, m, l, n⟩ := p
  obtain ⟨f2, m2, l2, n2⟩ := q
  cases h2
  exact ⟨g, H, fun i hi => (e i hi).trans (he i hi)⟩
theorem RowAt.fr {P : Nat → Prop} {h2 : am_H} (H : RowAt h r c p) (F : Fr P h h2) (p0 : ¬ P r) (p1 : ¬ P (r + 1)) : RowAt h2 r c p := by
  obtain ⟨g, H, e⟩ := H
  exact ⟨g, H.fr F p0 p1, e⟩
theorem RowAt.o (H : RowAt h r c p) : isO h 4 r = true := by obtain ⟨g, H, _⟩ := H; exact H.o
theorem RowAt.g1 (H : RowAt h r c p) : gI h 4 r 1 = some (nI p.2.1) := by obtain ⟨g, H, _⟩ := H; exact H.g1
theorem RowAt.g2 (H : RowAt h r c p) : gI h 4 r 2 = some (nI c) := by obtain ⟨g, H, _⟩ := H; exact H.g2
theorem RowAt.g3 (H : RowAt h r c p) : gI h 4 r 3 = some p.2.2.1 := by obtain ⟨g, H, _⟩ := H; exact H.g3
theorem RowAt.g4 (H : RowAt h r c p) : gI h 4 r 4 = some p.2.2.2 := by obtain ⟨g, H, _⟩ := H; exact H.g4
theorem RowAt.card (H : RowAt h r c p) (x : Int32) : Row_card r x h = some (if inN x p.2.1 then p.1 x.toInt.toNat else -1) := by
  obtain ⟨g, H, e⟩ := H
  rw [Row_card_v H]
  by_cases q : inN x p.2.1
  · rw [if_pos q, if_pos q, e _ (by omega)]
  · rw [if_neg q, if_neg q]
theorem RowAt.cardN (H : RowAt h r c p) {i : Nat} (hi : i < p.2.1) : Row_card r (nI i) h = some (p.1 i) := by
  have := H.m
  have t := tin (show i < 2 ^ 31 by omega)
  rw [H.card, if_pos (by omega), t]; rfl
theorem RowAt.has (H : RowAt h r c p) (x : Int32) : Row_has r x h = some (if inN x p.2.1 then 1 else 0) := by
  obtain ⟨g, H, e⟩ := H
  exact Row_has_v H x
theorem RowAt.exch (H : RowAt h r c p) {i j : Int32} (hi : inN i p.2.1) (hj : inN j p.2.1) : ∃ h2, Row_exchange r i j h = some h2 ∧ RowAt h2 r c (swp p.1 i.toInt.toNat j.toInt.toNat, p.2) ∧ Fr (rP r) h h2 := by
  obtain ⟨g, H, e⟩ := H
  obtain ⟨h2, e1, H2, F⟩ := Row_exchange_v H hi hj
  refine ⟨h2, e1, ⟨_, H2, fun a ha => ?_⟩, F⟩
  have hp : a < p.2.1 := ha
  show swp g i.toInt.toNat j.toInt.toNat a = swp p.1 i.toInt.toNat j.toInt.toNat a
  unfold swp upd
  rw [e _ (show j.toInt.toNat < p.2.1 by omega), e _ (show i.toInt.toNat < p.2.1 by omega), e _ hp]
theorem RowAt.rev (H : RowAt h r c p) (a b : Int32) : ∃ h2, Row_reverse r a b h = some h2 ∧ RowAt h2 r c (rvz p.1 (max a.toInt 0) (min b.toInt (p.2.1 - 1)), p.2) ∧ Fr (rP r) h h2 := by
  obtain ⟨g, H, e⟩ := H
  obtain ⟨h2, e1, H2, F⟩ := Row_reverse_v H a b
  refine ⟨h2, e1, ⟨_, H2, fun i hi => ?_⟩, F⟩
  have hp : i < p.2.1 := hi
  show rvz g _ _ i = rvz p.1 _ _ i
  unfold rvz
  split
  · exact e _ (by omega)
  · exact e _ hp
theorem RowAt.low (H : RowAt h r c p) {k : Nat} (hk : k ≤ p.2.1) : ∃ h2, Row_lower r (nI k) h = some h2 ∧ RowAt h2 r c (fun i => p.1 ((i + k) % p.2.1), p.2) ∧ Fr (rP r) h h2 := by
  obtain ⟨g, H, e⟩ := H
  obtain ⟨h2, e1, H2, F⟩ := Row_lower_v H hk
  refine ⟨h2, e1, ⟨_, H2, fun i hi => ?_⟩, F⟩
  have hp : i < p.2.1 := hi
  show lowf g p.2.1 k i = p.1 ((i + k) % p.2.1)
  rw [lowf_at hk hp]
  exact e _ (Nat.mod_lt _ (by omega))
theorem RowAt.copy (H : RowAt h r c p) (H2 : RowAt h s c2 q) (ha : apt r s) : ∃ h2, Row_copy r s h = some h2 ∧ RowAt h2 r c2 q ∧ Fr (rP r) h h2 := by
  obtain ⟨g, H, e⟩ := H
  obtain ⟨g2, H2, e2⟩ := H2
  have := H2.1
  obtain ⟨h2, e1, H3, F⟩ := Row_copy_v H H2 ha
  refine ⟨h2, e1, ⟨_, H3, fun i hi => ?_⟩, F⟩
  unfold va_cpy
  rw [if_pos (by omega), ← e2 i hi]
  congr 1; omega
theorem RowAt.rise (H : RowAt h r c p) {k : Nat} (hk : k ≤ 13) : ∃ h2, Row_rise r (nI k) h = some h2 ∧ RowAt h2 r 0 (fun i => nI (i + 1), k, 0, -1) ∧ Fr (rP r) h h2 := by
  obtain ⟨g, H, e⟩ := H
  obtain ⟨h2, e1, H3, F⟩ := Row_rise_v H hk
  refine ⟨h2, e1, ⟨_, H3, fun i hi => ?_⟩, F⟩
  have : i < k := hi
  show fill g 0 k (fun j => nI (j + 1)) i = nI (i + 1)
  unfold fill
  rw [if_pos (by omega)]; rfl
theorem ris_q {f g : Nat → Int32} {m : Nat} (h : ∀ i, i < m → f i = g i) : ris f m = ris g m := by
  induction m with
  | zero => rfl
  | succ m ih =>
    have e := ih (fun i hi => h i (by omega))
    rw [Bool.eq_iff_iff, ris_s, ris_s, e, h m (by omega)]
    by_cases q : m = 0
    · subst q; simp
    · rw [h (m - 1) (by omega)]
theorem RowAt.rises (H : RowAt h r c p) (h1 : 1 ≤ p.2.1) : Row_rises r h = some (if ris p.1 p.2.1 = true then 1 else 0) := by
  obtain ⟨g, H, e⟩ := H
  rw [Row_rises_v H h1, ris_q e]
theorem pkf_q {f g : Nat → Int32} {a : Int64} : ∀ {m : Nat}, (∀ i, i < m → f i = g i) → pkf f a m = pkf g a m
  | 0, _ => rfl
  | m + 1, h => by
    show (pkf f a m <<< _) ||| _ = (pkf g a m <<< _) ||| _
    rw [pkf_q (fun i hi => h i (by omega)), h m (by omega)]
theorem RowAt.packed (H : RowAt h r c p) : Row_packed r h = some (pkf p.1 (Int32.toInt64 p.2.2.1) p.2.1) := by
  obtain ⟨g, H, e⟩ := H
  rw [Row_packed_v H, pkf_q e]
theorem RowAt.p2 (H : RowAt h r c p) (k : Nat) : ∃ h2, pV h 4 r 2 (.int (nI k)) = some h2 ∧ RowAt h2 r k p ∧ Fr (rP r) h h2 := by
  obtain ⟨g, H, e⟩ := H
  obtain ⟨h2, e1, H3, F⟩ := H.p2 k
  exact ⟨h2, e1, ⟨g, H3, e⟩, F⟩
theorem RowAt.p3 (H : RowAt h r c p) (x : Int32) : ∃ h2, pV h 4 r 3 (.int x) = some h2 ∧ RowAt h2 r c (p.1, p.2.1, x, p.2.2.2) ∧ Fr (rP r) h h2 := by
  obtain ⟨g, H, e⟩ := H
  obtain ⟨h2, e1, H3, F⟩ := H.p3 x
  exact ⟨h2, e1, ⟨g, H3, e⟩, F⟩
theorem RowAt.p4 (H : RowAt h r c p) (x : Int32) : ∃ h2, pV h 4 r 4 (.int x) = some h2 ∧ RowAt h2 r c (p.1, p.2.1, p.2.2.1, x) ∧ Fr (rP r) h h2 := by
  obtain ⟨g, H, e⟩ := H
  obtain ⟨h2, e1, H3, F⟩ := H.p4 x
  exact ⟨h2, e1, ⟨g, H3, e⟩, F⟩
theorem RowAt.p1 (H : RowAt h r c p) {k : Nat} (hk : k ≤ p.2.1) : ∃ h2, pV h 4 r 1 (.int (nI k)) = some h2 ∧ RowAt h2 r c (p.1, k, p.2.2.1, p.2.2.2) ∧ Fr (rP r) h h2 := by
  have := H.m
  obtain ⟨g, H, e⟩ := H
  obtain ⟨h2, e1, H3, F⟩ := H.p1 (m2 := k) (by omega)
  exact ⟨h2, e1, ⟨g, H3, fun i hi => e i (Nat.lt_of_lt_of_le hi hk)⟩, F⟩
end RowQ
/-- rows of cards from place B on -/
def RwsA (h : am_H) (B k : Nat) (C : Nat → Nat) (D : Nat → Po) : Prop := ∀ j, j < k → RowAt h (B + 2 * j) (C j) (D j)
theorem RwsA.fr {P : Nat → Prop} {h h2 : am_H} {B k : Nat} {C : Nat → Nat} {D : Nat → Po} (H : RwsA h B k C D) (F : Fr P h h2) (hp : ∀ a, B ≤ a → a < B + 2 * k → ¬ P a) : RwsA h2 B k C D := fun j hj => (H j hj).fr F (hp _ (by omega) (by omega)) (hp _ (by omega) (by omega))
def up1 {α : Type} (f : Nat → α) (i : Nat) (x : α) : Nat → α := fun j => if j = i then x else f j
theorem RwsA.up {h h2 : am_H} {B k i c : Nat} {C : Nat → Nat} {D : Nat → Po} {p : Po} (H : RwsA h B k C D) (F : Fr (rP (B + 2 * i)) h h2) (H2 : RowAt h2 (B + 2 * i) c p) : RwsA h2 B k (up1 C i c) (up1 D i p) := by
  intro j hj
  unfold up1
  by_cases q : j = i
  · subst q; rw [if_pos rfl, if_pos rfl]; exact H2
  · rw [if_neg q, if_neg q]
    exact (H j hj).fr F (by rintro (z | z) <;> omega) (by rintro (z | z) <;> omega)
section CopyP
variable {T S n s w n2 s2 w2 : Nat} {fo mo ah fo2 mo2 ah2 : Int32} {ss sc ss2 sc2 : Nat → Int32} {tx tx2 : Nat → Option Nat} {C C2 : Nat → Nat} {D D2 : Nat → Po}
/-- the places of a table's rows -/
abbrev trP (T : Nat) : Nat → Prop := fun a => T + 5 ≤ a ∧ a < T + 17
theorem Table_copyHeaps_l (ha : T + 17 ≤ S ∨ S + 17 ≤ T) : ∀ (k i : Nat) (h : am_H) (C : Nat → Nat) (D : Nat → Po), i + k = 6 → TbA h T n s w fo mo ah ss sc tx → TbA h S n2 s2 w2 fo2 mo2 ah2 ss2 sc2 tx2 → RwsA h (T + 5) 6 C D → RwsA h (S + 5) 6 C2 D2 → (∀ j, j < i → C j = C2 j ∧ D j = D2 j) → ∃ h2, Table_copyHeaps_2 T S (nI i) h = some h2 ∧ RwsA h2 (T + 5) 6 C2 D2 ∧ Fr (trP T) h h2 := by
  intro k
  induction k with
  | zero =>
    intro i h C D hk HT HS H1 H2 he
    obtain ⟨a1, a2, a3, a4, ⟨fr, a5, a6⟩, a7, a8, a9⟩ := HT
    rw [Table_copyHeaps_2_e]
    have ti := tin (show i < 2 ^ 31 by omega)
    have t6 : (Int32.ofNat 6).toInt = 6 := by decide
    refine ⟨h, ?_, fun j hj => ?_, Fr.rf⟩
    · simp (disch := omega) only [gR, ob_of a4, aL_of a5 (by decide : 4 < 7), vR, Option.bind_some, List.getElem?_cons_succ, List.getElem?_cons_zero, tile, ti, t6, if_pos]
    · have := H1 j hj
      rw [(he j (by omega)).1, (he j (by omega)).2] at this
      exact this
  | succ k ih =>
    intro i h C D hk HT HS H1 H2 he
    have HT0 := HT
    have HS0 := HS
    obtain ⟨a1, a2, a3, a4, ⟨fr, a5, a6⟩, a7, a8, a9⟩ := HT
    obtain ⟨b1, b2, b3, b4, ⟨fr2, b5, b6⟩, b7, b8, b9⟩ := HS
    have ti := tin (show i < 2 ^ 31 by omega)
    have t6 : (Int32.ofNat 6).toInt = 6 := by decide
    have e1 := a6 i (by omega)
    have e2 := b6 i (by omega)
    obtain ⟨h3, e3, G3, F3⟩ := (H1 i (by omega)).copy (H2 i (by omega)) (show apt (T + 5 + 2 * i) (S + 5 + 2 * i) from ⟨by omega, by omega, by omega⟩)
    have F3' : Fr (trP T) h h3 := F3.mono (fun x hx => by rcases hx with hx | hx <;> (show T + 5 ≤ x ∧ _; omega))
    obtain ⟨h4, e4, G4, F4⟩ := ih (i + 1) h3 _ _ (by omega) (HT0.fr F3' (fun a h1 h2 z => by omega)) (HS0.fr F3' (fun a h1 h2 z => by omega)) (H1.up F3 G3) (H2.fr F3' (fun a h1 h2 z => by omega)) (fun j hj => by
      unfold up1
      by_cases q : j = i
      · subst q; rw [if_pos rfl, if_pos rfl]; exact ⟨rfl, rfl⟩
      · rw [if_neg q, if_neg q]; exact he j (by omega))
    refine ⟨h4, ?_, G4, F3'.tr F4⟩
    rw [Table_copyHeaps_2_e]
    simp (disch := omega) only [gR, ob_of a4, ob_of b4, aL_of a5 (by decide : 4 < 7), aN, arN_of a5, arN_of b5, vR, Option.bind_some, List.getElem?_cons_succ, List.getElem?_cons_zero, tile, ti, t6, if_pos, if_neg, Int.toNat_natCast, e1, e2, e3, nI_p1, e4]
theorem Table_copyHeaps_v {h : am_H} (ha : T + 17 ≤ S ∨ S + 17 ≤ T) (HT : TbA h T n s w fo mo ah ss sc tx) (HS : TbA h S n2 s2 w2 fo2 mo2 ah2 ss2 sc2 tx2) (H1 : RwsA h (T + 5) 6 C D) (H2 : RwsA h (S + 5) 6 C2 D2) : ∃ h2, Table_copyHeaps T S h = some h2 ∧ RwsA h2 (T + 5) 6 C2 D2 ∧ Fr (trP T) h h2 := by
  obtain ⟨h2, e, g⟩ := Table_copyHeaps_l ha 6 0 h C D (by omega) HT HS H1 H2 (fun j hj => by omega)
  refine ⟨h2, ?_, g⟩
  unfold Table_copyHeaps
  rw [if_pos (isO_of HT.2.2.2.1)]
  exact e
end CopyP
