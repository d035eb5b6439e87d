/-! PURE: words: which one stands on the tape, in the class's lists and in the reference's -/
def slc (f : Nat → Int32) (y n : Nat) : List Int32 := (List.range n).map fun i => f (y + i)
def fdw : List (List Int32) → List Int32 → Nat → Option Nat
  | [], _, _ => none
  | w :: r, L, k => if L = w then some k else fdw r L (k + 1)
def prm (f : Nat → Int32) (t y n : Nat) : Nat → List Int32 → Bool
  | _, [] => true
  | cn, c :: r => decide (cn < n) && decide (y + cn < t) && decide (f (y + cn) = c) && prm f t y n (cn + 1) r
def jnw : List (List Int32) → List Int32
  | [] => []
  | [w] => w
  | w :: v :: r => w ++ 32 :: jnw (v :: r)
def oI : Option Nat → Int32
  | none => -1
  | some k => nI k
def wds : List (List Int32) := [[116, 117, 114, 110, 115], [115, 105, 110, 107, 115], [101, 110, 100, 115], [105, 102], [111, 114], [97, 110, 100], [110, 111, 116], [115, 101, 99, 111, 110, 100], [116, 104, 105, 114, 100], [117, 110, 100, 101, 114], [108, 97, 115, 116], [104, 101, 97, 112], [109, 111, 111, 100], [116, 111, 112], [109, 97, 110, 121], [104, 101, 97, 112, 115], [100, 111, 110, 101], [108, 97, 116, 101, 115, 116], [99, 108, 97, 112, 115], [115, 116, 101, 112], [115, 119, 97, 112], [119, 105, 116, 104], [111, 102], [99, 117, 116], [116, 105, 109, 101, 115]]
def wdc (w : Nat) : List (List Int32) := ([[[115, 116, 101, 112], [115, 119, 97, 112], [99, 117, 116]], [[104, 101, 97, 112, 115], [100, 111, 110, 101], [108, 97, 116, 101, 115, 116], [116, 111, 112], [99, 108, 97, 112, 115], [109, 97, 110, 121]], [[116, 111, 112], [115, 101, 99, 111, 110, 100], [116, 104, 105, 114, 100], [117, 110, 100, 101, 114], [109, 97, 110, 121], [108, 97, 115, 116], [104, 101, 97, 112], [109, 111, 111, 100]], [[119, 105, 116, 104]], [[111, 102]], [[116, 105, 109, 101, 115]], [[105, 102]], [[110, 111, 116]], [[97, 110, 100]], [[111, 114]], [[116, 117, 114, 110, 115], [115, 105, 110, 107, 115], [101, 110, 100, 115]]] : List (List (List Int32))).getD w []
section WordI
variable {f : Nat → Int32} {t y n : Nat}
theorem amr_w : ∀ (w rest : List Int32) (wh cn : Nat) (al : Bool), (∀ c ∈ w, ¬ c = 32) → amr f t y n (w ++ rest) wh cn al = amr f t y n rest wh (cn + w.length) (al && prm f t y n cn w)
  | [], rest, wh, cn, al, _ => by simp [prm]
  | c :: w, rest, wh, cn, al, h => by
    show amr f t y n (c :: (w ++ rest)) wh cn al = _
    rw [amr, if_neg (h c (List.mem_cons_self ..)), amr_w w rest wh (cn + 1) _ (fun d hd => h d (List.mem_cons_of_mem _ hd))]
    rw [show cn + (c :: w).length = cn + 1 + w.length by rw [List.length_cons]; omega]
    congr 1
    simp only [prm, Bool.and_assoc]
theorem prm_iff : ∀ (w : List Int32) (cn : Nat), prm f t y n cn w = true ↔ ∀ i, i < w.length → cn + i < n ∧ y + (cn + i) < t ∧ f (y + (cn + i)) = w.getD i 0
  | [], cn => by simp [prm]
  | c :: w, cn => by
    have ih := prm_iff w (cn + 1)
    constructor
    · intro h i hi
      simp only [prm, Bool.and_eq_true, decide_eq_true_eq] at h
      obtain ⟨⟨⟨h1, h2⟩, h3⟩, h4⟩ := h
      cases i with
      | zero => exact ⟨h1, h2, h3⟩
      | succ i =>
        have := ih.mp h4 i (by rw [List.length_cons] at hi; omega)
        rw [show cn + 1 + i = cn + (i + 1) by omega] at this
        exact this
    · intro h
      simp only [prm, Bool.and_eq_true, decide_eq_true_eq]
      have h0 := h 0 (by rw [List.length_cons]; omega)
      refine ⟨⟨⟨h0.1, h0.2.1⟩, h0.2.2⟩, ih.mpr (fun i hi => ?_)⟩
      have := h (i + 1) (by rw [List.length_cons]; omega)
      rw [show cn + (i + 1) = cn + 1 + i by omega] at this
      exact this
theorem slc_len : (slc f y n).length = n := by simp [slc]
theorem slc_at {i : Nat} (hi : i < n) : (slc f y n).getD i 0 = f (y + i) := by
  unfold slc
  rw [List.getD_eq_getElem?_getD, List.getElem?_map, List.getElem?_range hi]
  rfl
theorem slc_eq {w : List Int32} : slc f y n = w ↔ n = w.length ∧ ∀ i, i < n → f (y + i) = w.getD i 0 := by
  constructor
  · intro h
    subst h
    exact ⟨slc_len.symm, fun i hi => (slc_at hi).symm⟩
  · rintro ⟨h1, h2⟩
    apply List.ext_getElem
    · rw [slc_len]; exact h1
    · intro i hi1 hi2
      rw [slc_len] at hi1
      have a1 := slc_at (f := f) (y := y) hi1
      have a2 := h2 i hi1
      rw [List.getD_eq_getElem?_getD, List.getElem?_eq_getElem (by rw [slc_len]; exact hi1)] at a1
      rw [List.getD_eq_getElem?_getD, List.getElem?_eq_getElem hi2] at a2
      exact a1.trans a2
theorem prm_slc (ht : y + n ≤ t) {w : List Int32} : (prm f t y n 0 w = true ∧ w.length = n) ↔ slc f y n = w := by
  rw [prm_iff, slc_eq]
  constructor
  · rintro ⟨h1, h2⟩
    exact ⟨h2.symm, fun i hi => by have := (h1 i (by omega)).2.2; rwa [Nat.zero_add] at this⟩
  · rintro ⟨h1, h2⟩
    exact ⟨fun i hi => ⟨by omega, by omega, by rw [Nat.zero_add]; exact h2 i (by omega)⟩, h1.symm⟩
theorem amr_j (ht : y + n ≤ t) : ∀ (W : List (List Int32)) (wh : Nat), ¬ W = [] → (∀ w ∈ W, ∀ c ∈ w, ¬ c = 32) → amr f t y n (jnw W) wh 0 true = oI (fdw W (slc f y n) wh)
  | [], _, h, _ => absurd rfl h
  | [w], wh, _, hW => by
    have e := amr_w (f := f) (t := t) (y := y) (n := n) w [] wh 0 true (hW w (List.mem_cons_self ..))
    rw [List.append_nil] at e
    show amr f t y n w wh 0 true = _
    rw [e, amr]
    unfold fdw
    have p := prm_slc (f := f) ht (w := w)
    rw [Nat.zero_add, Bool.true_and]
    by_cases q : slc f y n = w
    · rw [if_pos (p.mpr q), if_pos q]; rfl
    · rw [if_neg (fun z => q (p.mp z)), if_neg q]; rfl
  | w :: v :: r, wh, _, hW => by
    have e := amr_w (f := f) (t := t) (y := y) (n := n) w (32 :: jnw (v :: r)) wh 0 true (hW w (List.mem_cons_self ..))
    show amr f t y n (w ++ 32 :: jnw (v :: r)) wh 0 true = _
    rw [e, amr, if_pos rfl]
    unfold fdw
    have p := prm_slc (f := f) ht (w := w)
    rw [Nat.zero_add, Bool.true_and]
    by_cases q : slc f y n = w
    · rw [if_pos (p.mpr q), if_pos q]; rfl
    · rw [if_neg (fun z => q (p.mp z)), if_neg q]
      exact amr_j ht (v :: r) (wh + 1) (by simp) (fun w hw => hW w (List.mem_cons_of_mem _ hw))
theorem wdc_b : ∀ w, w < 11 → am_byt.getD w [] = jnw (wdc w) ∧ ¬ wdc w = [] ∧ ∀ x ∈ wdc w, ∀ c ∈ x, ¬ c = 32 := by decide +kernel
theorem fdw_b : ∀ (W : List (List Int32)) (L : List Int32) (k i : Nat), fdw W L k = some i → k ≤ i ∧ i < k + W.length ∧ L = W.getD (i - k) []
  | [], _, _, _, h => absurd h (by simp [fdw])
  | w :: r, L, k, i, h => by
    unfold fdw at h
    by_cases q : L = w
    · rw [if_pos q] at h
      have h : k = i := Option.some.inj h
      subst h
      refine ⟨Nat.le_refl _, by rw [List.length_cons]; omega, ?_⟩
      rw [Nat.sub_self]; exact q
    · rw [if_neg q] at h
      obtain ⟨h1, h2, h3⟩ := fdw_b r L (k + 1) i h
      refine ⟨by omega, by rw [List.length_cons]; omega, ?_⟩
      rw [h3, show i - k = i - (k + 1) + 1 by omega]
      rfl
/-- the letters of the token at y -/
abbrev tsl (f : Nat → Int32) (t y : Nat) : List Int32 := slc f y (tnx f t y - y)
theorem amg_f {s : PSt} {w : Nat} (hw : w < 11) (hs : s.1 ≤ t) (hk : tkd f t s.1 = 1) : amg f t w s = oI (fdw (wdc w) (tsl f t s.1) 0) := by
  obtain ⟨e, h1, h2⟩ := wdc_b w hw
  have h3 := tnx_le (f := f) hs
  have h4 : s.1 < t := tkd_y (f := f) (by omega)
  have h5 := h3.2 h4
  unfold amg
  rw [if_pos hk, e]
  exact amr_j (by omega) _ _ h1 h2
theorem wdp_f {s : PSt} {w : Nat} (hw : w < 11) (hs : s.1 ≤ t) : wdp f t w s ↔ tkd f t s.1 = 1 ∧ fdw (wdc w) (tsl f t s.1) 0 = some 0 := by
  obtain ⟨e, h1, h2⟩ := wdc_b w hw
  have h3 := tnx_le (f := f) hs
  unfold wdp
  refine and_congr_right (fun hk => ?_)
  have h4 : s.1 < t := tkd_y (f := f) (by omega)
  have h5 := h3.2 h4
  rw [e, amr_j (by omega) _ _ h1 h2]
  have hl : (wdc w).length < 12 := by
    have : ∀ w, w < 11 → (wdc w).length < 12 := by decide
    exact this w hw
  cases hf : fdw (wdc w) (slc f s.1 (tnx f t s.1 - s.1)) 0 with
  | none => exact ⟨fun z => absurd z (by decide), fun z => absurd z (by simp)⟩
  | some k =>
    have := (fdw_b _ _ _ _ hf).2.1
    show nI k = 0 ↔ some k = some 0
    refine ⟨fun z => ?_, fun z => by rw [Option.some.inj z]; rfl⟩
    rw [(nI_eq (b := 0) (by omega) (by decide)).mp z]
theorem hAm_v (ht : ∀ s : PSt, s.1 ≤ t ∨ t < s.1) : hAm f t := by
  intro s
  have K : ∀ w m, w < 11 → (wdc w).length = m → ¬ amg f t w s = -1 → (amg f t w s).toInt.toNat < m := fun w m hw hm q => by
    by_cases hk : tkd f t s.1 = 1
    · have hs : s.1 ≤ t := Nat.le_of_lt (tkd_y (f := f) (by omega))
      rw [amg_f hw hs hk] at q ⊢
      cases hf : fdw (wdc w) (tsl f t s.1) 0 with
      | none => rw [hf] at q; exact absurd rfl q
      | some k =>
        have := (fdw_b _ _ _ _ hf).2.1
        have hl : (wdc w).length < 12 := by
          have : ∀ w, w < 11 → (wdc w).length < 12 := by decide
          exact this w hw
        show (nI k).toInt.toNat < m
        rw [tin (show k < 2 ^ 31 by omega)]
        omega
    · exact absurd (if_neg hk) q
  exact ⟨K 2 8 (by decide) rfl, K 1 6 (by decide) rfl⟩
/-- the reference's code of the token at y -/
def cdN (f : Nat → Int32) (t y : Nat) : Nat := if tkd f t y = 1 then (fdw wds (tsl f t y) 1).getD 0 else if tkd f t y = 2 then 50 else if tkd f t y = 3 then 100 + ((f y).toInt % 256).toNat else 0
end WordI
