/-! PURE: the next unlike row -/
def lwa (f : Nat → Int32) (fr : Nat) : Nat → Option Nat
  | 0 => none
  | k + 1 => if k < fr then none else if f k < f (k + 1) then some k else lwa f fr k
def hia (f : Nat → Int32) (lo : Nat) : Nat → Nat
  | 0 => 0
  | k + 1 => if f lo < f (k + 1) then k + 1 else hia f lo k
/-- the next unlike row of m cards by those from the place fr on -/
def nxa (f : Nat → Int32) (m fr : Nat) : Option (Nat → Int32) := (lwa f fr (m - 1)).map (fun lo => rvz (swp f lo (hia f lo (m - 1))) (lo + 1) (m - 1))
theorem lwa_s {f : Nat → Int32} {fr lo : Nat} : ∀ {k : Nat}, lwa f fr k = some lo → lo < k ∧ fr ≤ lo ∧ f lo < f (lo + 1)
  | 0, h => by cases h
  | k + 1, h => by
    unfold lwa at h
    split at h
    · cases h
    · rename_i q
      split at h
      · rename_i q2
        cases h
        exact ⟨by omega, by omega, q2⟩
      · have := lwa_s h
        exact ⟨by omega, this.2⟩
theorem hia_s {f : Nat → Int32} {lo : Nat} (hl : f lo < f (lo + 1)) : ∀ {k : Nat}, lo < k → lo < hia f lo k ∧ hia f lo k ≤ k ∧ f lo < f (hia f lo k)
  | 0, h => by omega
  | k + 1, h => by
    unfold hia
    split
    · rename_i q; exact ⟨h, Nat.le_refl _, q⟩
    · rename_i q
      by_cases e : lo = k
      · subst e; exact absurd hl q
      · have := hia_s hl (k := k) (by omega)
        exact ⟨this.1, by omega, this.2.2⟩
section Adv
variable {h : am_H} {r c m : Nat} {f : Nat → Int32} {l n : Int32}
theorem Row_advance_57_l (H : RwA h r c f m l n) {lo : Nat} (hl : f lo < f (lo + 1)) : ∀ (k : Nat), lo < k → k < m → Row_advance_57 r (nI lo) (nI k) h = Row_advance_83 r (nI lo) (nI (hia f lo k)) h := by
  have hm := H.1
  intro k
  induction k with
  | zero => intro h1; omega
  | succ k ih =>
    intro h1 h2
    have tl := tin (show lo < 2 ^ 31 by omega)
    have tk := tin (show k + 1 < 2 ^ 31 by omega)
    rw [Row_advance_57_e, if_neg (fun z => by have := tile.mp z; omega), H.g0]
    simp only [Option.bind_some]
    rw [H.ai (show inN (nI (k + 1)) 13 by omega), H.ai (show inN (nI lo) 13 by omega), tk, tl, show ((k + 1 : Nat) : Int).toNat = k + 1 by omega, show (lo : Int).toNat = lo by omega]
    simp only [Option.bind_some]
    by_cases q : f lo < f (k + 1)
    · rw [if_pos q, show hia f lo (k + 1) = k + 1 from if_pos q]
    · have hk : lo < k := by
        refine Nat.lt_of_le_of_ne (by omega) (fun z => q ?_)
        subst z; exact hl
      rw [if_neg q, show nI (k + 1) + (-1 : Int32) = nI k from pk_m1 k, ih hk (by omega), show hia f lo (k + 1) = hia f lo k from if_neg q]
theorem Row_advance_7_l (H : RwA h r c f m l n) {fr : Nat} (hf : fr ≤ 13) : ∀ (k : Nat), k + 1 ≤ m → Row_advance_7 r (nI fr) (hS k) h = match lwa f fr k with
    | none => some (0, h)
    | some lo => Row_advance_57 r (nI lo) (nI (m - 1)) h := by
  have hm := H.1
  have tf := tin (show fr < 2 ^ 31 by omega)
  intro k
  induction k with
  | zero =>
    intro _
    have hlt : hS 0 < nI fr := tilt.mpr (by rw [tf]; show (-1 : Int32).toInt < _; rw [tim1]; omega)
    rw [Row_advance_7_e, if_pos hlt]
    unfold Row_advance_39
    rw [if_pos hlt]; rfl
  | succ k ih =>
    intro hk
    have tk := tin (show k < 2 ^ 31 by omega)
    have tk1 : (nI k + (1 : Int32)).toInt = k + 1 := by rw [nI_p1, tin (by omega)]; omega
    rw [Row_advance_7_e, show hS (k + 1) = nI k from rfl]
    by_cases q1 : k < fr
    · have hlt : nI k < nI fr := tilt.mpr (by omega)
      rw [if_pos hlt, show lwa f fr (k + 1) = none from if_pos q1]
      unfold Row_advance_39
      rw [if_pos hlt]
    · have hlt : ¬ nI k < nI fr := fun z => by have := tilt.mp z; omega
      have h0 : ¬ nI k < 0 := fun z => by have := tilt.mp z; rw [tk, ti0] at this; omega
      rw [if_neg hlt, if_neg h0, H.g0]
      simp only [Option.bind_some]
      rw [H.ai (show inN (nI k) 13 by omega), H.ai (show inN (nI k + (1 : Int32)) 13 by omega), tk, tk1, show (k : Int).toNat = k by omega, show ((k : Int) + 1).toNat = k + 1 by omega]
      simp only [Option.bind_some]
      by_cases q2 : f k < f (k + 1)
      · rw [if_pos q2, show lwa f fr (k + 1) = some k from (if_neg q1).trans (if_pos q2)]
        unfold Row_advance_39
        rw [if_neg hlt, if_pos (tile.mpr (by rw [ti0, tk]; omega)), H.g1]
        simp only [Option.bind_some]
        rw [show nI m - (1 : Int32) = nI (m - 1) from pk_sub (a := m) (b := 1) (by omega)]
      · rw [if_neg q2, hS_m, ih (by omega), show lwa f fr (k + 1) = lwa f fr k from (if_neg q1).trans (if_neg q2)]
theorem Row_advance_v (H : RwA h r c f m l n) (h1 : 1 ≤ m) {fr : Nat} (hf : fr ≤ 13) : (nxa f m fr = none → Row_advance r (nI fr) h = some (0, h)) ∧ (∀ f2, nxa f m fr = some f2 → ∃ h2, Row_advance r (nI fr) h = some (1, h2) ∧ RwA h2 r c f2 m l n ∧ Fr (rP r) h h2) := by
  have hm := H.1
  have tm := tin (show m < 2 ^ 31 by omega)
  have e0 : nI m - (2 : Int32) = hS (m - 1) := by
    rw [← hS_m]
    apply Int32.toInt_inj.mp
    have t2 : (2 : Int32).toInt = 2 := by decide
    rw [ti_sub (z := (m : Int) - 2) (by rw [tm, t2]) (by omega) (by omega), ti_add (z := (m : Int) - 2) (by rw [tin (show m - 1 < 2 ^ 31 by omega), tim1]; omega) (by omega) (by omega)]
  have E : Row_advance r (nI fr) h = match lwa f fr (m - 1) with
      | none => some (0, h)
      | some lo => Row_advance_57 r (nI lo) (nI (m - 1)) h := by
    unfold Row_advance
    rw [if_pos H.o, H.g1]
    simp only [Option.bind_some]
    rw [e0]
    exact Row_advance_7_l H hf (m - 1) (by omega)
  unfold nxa
  rw [E]
  cases hl : lwa f fr (m - 1) with
  | none => exact ⟨fun _ => rfl, fun f2 z => by cases z⟩
  | some lo =>
    refine ⟨fun z => (by cases z), fun f2 z => ?_⟩
    obtain ⟨l1, l2, l3⟩ := lwa_s hl
    obtain ⟨k1, k2, k3⟩ := hia_s l3 (k := m - 1) l1
    have tl := tin (show lo < 2 ^ 31 by omega)
    have th := tin (show hia f lo (m - 1) < 2 ^ 31 by omega)
    cases z
    obtain ⟨h3, e3, H3, F3⟩ := Row_exchange_v H (i := nI lo) (j := nI (hia f lo (m - 1))) (by omega) (by omega)
    obtain ⟨h4, e4, H4, F4⟩ := Row_reverse_v H3 (nI lo + (1 : Int32)) (nI m - (1 : Int32))
    have t1 : (nI lo + (1 : Int32)).toInt = lo + 1 := by rw [nI_p1, tin (by omega)]; omega
    have t2 : (nI m - (1 : Int32)).toInt = m - 1 := ti_sub (by rw [tm, ti1]) (by omega) (by omega)
    rw [t1, t2, tl, th, show max ((lo : Int) + 1) 0 = lo + 1 by omega, show min ((m : Int) - 1) (m - 1) = m - 1 by omega, show (lo : Int).toNat = lo by omega, show ((hia f lo (m - 1) : Nat) : Int).toNat = hia f lo (m - 1) by omega] at H4
    refine ⟨h4, ?_, H4, F3.tr F4⟩
    show Row_advance_57 r (nI lo) (nI (m - 1)) h = _
    rw [Row_advance_57_l H l3 (m - 1) l1 (by omega)]
    unfold Row_advance_83
    rw [e3]
    simp only [Option.bind_some]
    rw [H3.g1]
    simp only [Option.bind_some]
    rw [e4]
    rfl
end Adv
theorem lwa_q {f g : Nat → Int32} {fr : Nat} : ∀ {k : Nat}, (∀ i, i ≤ k → f i = g i) → lwa f fr k = lwa g fr k
  | 0, _ => rfl
  | k + 1, h => by
    unfold lwa
    rw [h k (by omega), h (k + 1) (Nat.le_refl _), lwa_q (fun i hi => h i (by omega))]
theorem hia_q {f g : Nat → Int32} {lo : Nat} : ∀ {k : Nat}, lo ≤ k → (∀ i, i ≤ k → f i = g i) → hia f lo k = hia g lo k
  | 0, _, _ => rfl
  | k + 1, hl, h => by
    unfold hia
    rw [h lo hl, h (k + 1) (Nat.le_refl _)]
    by_cases e : lo = k + 1
    · subst e
      have : ∀ x : Nat → Int32, hia x (k + 1) k = hia x (k + 1) k := fun _ => rfl
      split
      · rfl
      · have key : ∀ j, j ≤ k → hia f (k + 1) j = hia g (k + 1) j := by
          intro j
          induction j with
          | zero => exact fun _ => rfl
          | succ j ih =>
            intro hj
            unfold hia
            rw [h (k + 1) (Nat.le_refl _), h (j + 1) (by omega), ih (by omega)]
        exact key k (Nat.le_refl _)
    · rw [hia_q (by omega) (fun i hi => h i (by omega))]
theorem swp_q {f g : Nat → Int32} {m lo hi i : Nat} (h : ∀ i, i < m → f i = g i) (h1 : lo < m) (h2 : hi < m) (h3 : i < m) : swp f lo hi i = swp g lo hi i := by
  unfold swp upd
  rw [h lo h1, h hi h2, h i h3]
theorem rvz_q {f g : Nat → Int32} {m lo i : Nat} (h : ∀ i, i < m → f i = g i) (h3 : i < m) : rvz f ((lo : Int) + 1) ((m : Int) - 1) i = rvz g ((lo : Int) + 1) ((m : Int) - 1) i := by
  unfold rvz
  split
  · rename_i q
    exact h _ (by omega)
  · exact h i h3
/-- only the cards matter -/
theorem nxa_q {f g : Nat → Int32} {m fr : Nat} (h1 : 1 ≤ m) (h : ∀ i, i < m → f i = g i) : (nxa f m fr = none ↔ nxa g m fr = none) ∧ ∀ f2, nxa f m fr = some f2 → ∃ g2, nxa g m fr = some g2 ∧ ∀ i, i < m → f2 i = g2 i := by
  have e1 : lwa f fr (m - 1) = lwa g fr (m - 1) := lwa_q (fun i hi => h i (by omega))
  unfold nxa
  rw [e1]
  cases hl : lwa g fr (m - 1) with
  | none => exact ⟨⟨fun _ => rfl, fun _ => rfl⟩, fun f2 z => (by cases z)⟩
  | some lo =>
    obtain ⟨l1, l2, l3⟩ := lwa_s hl
    obtain ⟨k1, k2, k3⟩ := hia_s l3 (k := m - 1) l1
    have e2 : hia f lo (m - 1) = hia g lo (m - 1) := hia_q (by omega) (fun i hi => h i (by omega))
    have hs : ∀ i, i < m → swp f lo (hia f lo (m - 1)) i = swp g lo (hia g lo (m - 1)) i := fun i hi => by
      rw [e2]; exact swp_q h (by omega) (by omega) hi
    exact ⟨⟨fun z => (by cases z), fun z => (by cases z)⟩, fun f2 z => ⟨_, rfl, fun i hi => (congrFun (Option.some.inj z) i).symm.trans (rvz_q hs hi)⟩⟩
