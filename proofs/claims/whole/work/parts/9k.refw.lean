/-! PURE: the reference finds a word -/
def flw : List (List Int32) → List Int32
  | [] => []
  | w :: r => w ++ 32 :: flw r
/-- the reference's words lie in its row -/
def WdR (σ : am_S) : Prop := ∀ i, i < 126 → σ.2.1 5 i = (flw wds).getD i 0
theorem flw_l : (flw wds).length = 126 := by decide +kernel
def cmw (f : Nat → Int32) (y : Nat) (w : List Int32) : Nat → Nat → Bool → Bool
  | 0, _, sm => sm
  | j + 1, i, sm => if sm = true then cmw f y w j (i + 1) (decide (f (y + i) = w.getD i 0)) else false
theorem cmw_iff {f : Nat → Int32} {y : Nat} {w : List Int32} : ∀ (j i : Nat) (sm : Bool), cmw f y w j i sm = true ↔ sm = true ∧ ∀ x, i ≤ x → x < i + j → f (y + x) = w.getD x 0
  | 0, i, sm => ⟨fun h => ⟨h, fun x h1 h2 => by omega⟩, fun h => h.1⟩
  | j + 1, i, sm => by
    unfold cmw
    by_cases q : sm = true
    · rw [if_pos q, cmw_iff j (i + 1)]
      constructor
      · rintro ⟨h1, h2⟩
        refine ⟨q, fun x hx1 hx2 => ?_⟩
        by_cases e : x = i
        · rw [e]; exact of_decide_eq_true h1
        · exact h2 x (by omega) (by omega)
      · rintro ⟨_, h2⟩
        exact ⟨decide_eq_true (h2 i (Nat.le_refl _) (by omega)), fun x hx1 hx2 => h2 x (by omega) (by omega)⟩
    · rw [if_neg q]
      exact ⟨fun z => absurd z Bool.false_ne_true, fun z => absurd z.1 q⟩
theorem getD_app1 {l r : List Int32} {i : Nat} (h : i < l.length) : (l ++ r).getD i 0 = l.getD i 0 := by
  rw [List.getD_eq_getElem?_getD, List.getElem?_append_left h, ← List.getD_eq_getElem?_getD]
theorem getD_app2 {l r : List Int32} {i : Nat} : (l ++ r).getD (l.length + i) 0 = r.getD i 0 := by
  rw [List.getD_eq_getElem?_getD, List.getElem?_append_right (by omega), ← List.getD_eq_getElem?_getD]
  congr 1; omega
section WordK
variable {f : Nat → Int32} {t y n b : Nat} {h : am_H} {σ : am_S}
theorem Ref_wordOf_18_l (H : Mo b h σ) {w : List Int32} {r : List Int32} {k : Nat} {v1 v2 v3 : Int32} (hk : k + (w ++ 32 :: r).length ≤ 126) (hw : ∀ i, i < (w ++ 32 :: r).length → σ.2.1 5 (k + i) = (w ++ 32 :: r).getD i 0) (hn : ∀ c ∈ w, ¬ c = 32) : ∀ (j i : Nat), i + j = w.length → Ref_wordOf_18 b v1 v2 v3 (nI k) (nI i) h = if nI w.length = v2 - v1 then Ref_wordOf_52 b v1 v2 v3 (nI k) (nI w.length) 1 h else Ref_wordOf_52 b v1 v2 v3 (nI k) (nI w.length) 0 h
  | 0, i, hi => by
    have hi : i = w.length := by omega
    subst hi
    rw [List.length_append, List.length_cons] at hk
    have e := hw w.length (by rw [List.length_append, List.length_cons]; omega)
    rw [show w.length = w.length + 0 from rfl, getD_app2] at e
    have e : σ.2.1 5 (k + w.length) = 32 := e
    rw [Ref_wordOf_18_e, H.r6]
    simp only [Option.bind_some]
    rw [nI_add, show aI h 1 (b + 1 + 5) (nI (k + w.length)) = _ from H.rd (r := 5) (by decide) (by decide) (show k + w.length < 126 by omega), e]
    simp only [Option.bind_some]
    rw [if_pos (by first | rfl | trivial)]
  | j + 1, i, hi => by
    rw [List.length_append, List.length_cons] at hk
    have e := hw i (by rw [List.length_append, List.length_cons]; omega)
    rw [getD_app1 (by omega)] at e
    have e2 : ¬ w.getD i 0 = 32 := by
      rw [List.getD_eq_getElem?_getD, List.getElem?_eq_getElem (by omega)]
      exact hn _ (List.getElem_mem _)
    rw [Ref_wordOf_18_e, H.r6]
    simp only [Option.bind_some]
    rw [nI_add, show aI h 1 (b + 1 + 5) (nI (k + i)) = _ from H.rd (r := 5) (by decide) (by decide) (show k + i < 126 by omega), e]
    simp only [Option.bind_some]
    rw [if_neg e2, nI_p1]
    exact Ref_wordOf_18_l H (by rw [List.length_append, List.length_cons]; omega) hw hn j (i + 1) (by omega)
theorem Ref_wordOf_57_l (H : Mo b h σ) (hT : ∀ i, i < t → σ.2.1 6 i = f i) (hyn : y + n ≤ t) (ht : t ≤ 400) {w r : List Int32} {k : Nat} {v2 v3 : Int32} (hk : k + (w ++ 32 :: r).length ≤ 126) (hw : ∀ i, i < (w ++ 32 :: r).length → σ.2.1 5 (k + i) = (w ++ 32 :: r).getD i 0) : ∀ (j i : Nat) (sm : Bool), i + j = w.length → (sm = true → w.length = n) → Ref_wordOf_57 b (nI y) v2 v3 (nI k) (nI w.length) (bI sm) (nI i) h = Ref_wordOf_104 b (nI y) v2 v3 (nI k) (nI w.length) (bI (cmw f y w j i sm)) h
  | 0, i, sm, hi, hs => by
    rw [List.length_append, List.length_cons] at hk
    have ti := tin (show i < 2 ^ 31 by omega)
    have tw := tin (show w.length < 2 ^ 31 by omega)
    rw [Ref_wordOf_57_e, if_pos (tile.mpr (by omega))]
    rfl
  | j + 1, i, sm, hi, hs => by
    have hk2 := hk
    rw [List.length_append, List.length_cons] at hk
    have ti := tin (show i < 2 ^ 31 by omega)
    have tw := tin (show w.length < 2 ^ 31 by omega)
    rw [Ref_wordOf_57_e, if_neg (fun z => by have := tile.mp z; omega)]
    unfold cmw
    by_cases q : sm = true
    · have hs := hs q
      have e := hw i (by rw [List.length_append, List.length_cons]; omega)
      rw [getD_app1 (by omega)] at e
      rw [if_neg (fun x => bI_0.mp x q), if_pos q, H.r6, H.r10]
      simp only [Option.bind_some]
      rw [nI_add, nI_add, show aI h 1 (b + 1 + 5) (nI (k + i)) = _ from H.rd (r := 5) (by decide) (by decide) (show k + i < 126 by omega), show aI h 1 (b + 1 + 6) (nI (y + i)) = _ from H.rd (r := 6) (by decide) (by decide) (show y + i < 400 by omega), e, hT (y + i) (by omega)]
      simp only [Option.bind_some]
      have IH := Ref_wordOf_57_l H hT hyn ht (v2 := v2) (v3 := v3) hk2 hw j (i + 1) (decide (f (y + i) = w.getD i 0)) (by omega) (fun _ => hs)
      rw [← IH]
      by_cases q2 : w.getD i 0 = f (y + i)
      · rw [if_pos q2, Ref_wordOf_96_e, nI_p1, show bI (decide (f (y + i) = w.getD i 0)) = 1 from if_pos (decide_eq_true q2.symm)]
      · rw [if_neg q2, Ref_wordOf_96_e, nI_p1, show bI (decide (f (y + i) = w.getD i 0)) = 0 from if_neg (fun z => q2 (of_decide_eq_true z).symm)]
    · rw [if_pos (bI_0.mpr q), if_neg q, show sm = false by cases sm <;> simp_all]
theorem Ref_wordOf_5_l (H : Mo b h σ) (hT : ∀ i, i < t → σ.2.1 6 i = f i) (hyn : y + n ≤ t) (ht : t ≤ 400) : ∀ (W : List (List Int32)) (k v : Nat), k + (flw W).length = 126 → (∀ i, i < (flw W).length → σ.2.1 5 (k + i) = (flw W).getD i 0) → (∀ w ∈ W, ∀ c ∈ w, ¬ c = 32) → Ref_wordOf_5 b (nI y) (nI (y + n)) (nI v) (nI k) h = some (nI ((fdw W (slc f y n) v).getD 0))
  | [], k, v, hk, _, _ => by
    have hk : k + 0 = 126 := hk
    have tk := tin (show k < 2 ^ 31 by omega)
    have t126 : (nI (mlen 5)).toInt = 126 := by decide
    rw [Ref_wordOf_5_e, H.r6]
    simp only [Option.bind_some]
    rw [H.ln (r := 5) (by decide) (by decide)]
    simp only [Option.bind_some]
    rw [if_pos (tile.mpr (by omega))]
    rfl
  | w :: r, k, v, hk, hw, hn => by
    have hl : (flw (w :: r)).length = w.length + 1 + (flw r).length := by
      show (w ++ 32 :: flw r).length = _
      rw [List.length_append, List.length_cons]; omega
    have tk := tin (show k < 2 ^ 31 by omega)
    have t126 : (nI (mlen 5)).toInt = 126 := by decide
    have hk2 : k + (w ++ 32 :: flw r).length ≤ 126 := Nat.le_of_eq hk
    rw [Ref_wordOf_5_e, H.r6]
    simp only [Option.bind_some]
    rw [H.ln (r := 5) (by decide) (by decide)]
    simp only [Option.bind_some]
    rw [if_neg (fun z => by have := tile.mp z; omega)]
    have e18 := Ref_wordOf_18_l (v1 := nI y) (v2 := nI (y + n)) (v3 := nI v) H hk2 hw (hn w (List.mem_cons_self ..)) w.length 0 (Nat.zero_add _)
    rw [show Ref_wordOf_18 b (nI y) (nI (y + n)) (nI v) (nI k) 0 h = _ from e18]
    have esub : nI (y + n) - nI y = nI n := by rw [show nI (y + n) - nI y = nI (y + n - y) from pk_sub (a := y + n) (b := y) (by omega), Nat.add_sub_cancel_left]
    have e52 : (if nI w.length = nI (y + n) - nI y then Ref_wordOf_52 b (nI y) (nI (y + n)) (nI v) (nI k) (nI w.length) 1 h else Ref_wordOf_52 b (nI y) (nI (y + n)) (nI v) (nI k) (nI w.length) 0 h) = Ref_wordOf_57 b (nI y) (nI (y + n)) (nI v) (nI k) (nI w.length) (bI (decide (w.length = n))) (nI 0) h := by
      rw [esub]
      by_cases q : w.length = n
      · rw [if_pos (by rw [q]), Ref_wordOf_52_e, show bI (decide (w.length = n)) = 1 from if_pos (decide_eq_true q)]
        rfl
      · rw [if_neg (fun z => q ((nI_eq (by omega) (by omega)).mp z)), Ref_wordOf_52_e, show bI (decide (w.length = n)) = 0 from if_neg (fun z => q (of_decide_eq_true z))]
        rfl
    rw [e52, Ref_wordOf_57_l H hT hyn ht hk2 hw w.length 0 _ (Nat.zero_add _) (fun z => of_decide_eq_true z), Ref_wordOf_104_e]
    have c : cmw f y w w.length 0 (decide (w.length = n)) = true ↔ slc f y n = w := by
      rw [cmw_iff, slc_eq]
      constructor
      · rintro ⟨h1, h2⟩
        have h1 := of_decide_eq_true h1
        exact ⟨h1.symm, fun i hi => h2 i (Nat.zero_le _) (by omega)⟩
      · rintro ⟨h1, h2⟩
        exact ⟨decide_eq_true h1.symm, fun x _ hx => h2 x (by omega)⟩
    unfold fdw
    by_cases q : slc f y n = w
    · rw [if_pos q, if_neg (fun x => bI_0.mp x (c.mpr q))]
      rfl
    · rw [if_neg q, if_pos (bI_0.mpr (fun z => q (c.mp z))), nI_p1, nI_p1, nI_add]
      refine Ref_wordOf_5_l H hT hyn ht r (k + (w.length + 1)) (v + 1) (by omega) (fun i hi => ?_) (fun x hx => hn x (List.mem_cons_of_mem _ hx))
      have e := hw (w.length + 1 + i) (by omega)
      have e3 : (flw (w :: r)).getD (w.length + 1 + i) 0 = (flw r).getD i 0 := by
        show (w ++ 32 :: flw r).getD (w.length + 1 + i) 0 = _
        rw [Nat.add_assoc, getD_app2, Nat.add_comm 1 i]
        rfl
      rw [e3] at e
      rw [← e]
      exact congrArg (σ.2.1 5) (by omega)
theorem Ref_wordOf_v (H : Mo b h σ) (hW : WdR σ) (hT : ∀ i, i < t → σ.2.1 6 i = f i) (hyn : y + n ≤ t) (ht : t ≤ 400) : Ref_wordOf b (nI y) (nI (y + n)) h = some (nI ((fdw wds (slc f y n) 1).getD 0)) := by
  unfold Ref_wordOf
  rw [if_pos H.o]
  have hc : ∀ w ∈ wds, ∀ c ∈ w, ¬ c = 32 := by decide
  have l := flw_l
  exact Ref_wordOf_5_l H hT hyn ht wds 0 1 (by omega) (fun i hi => by rw [Nat.zero_add]; exact hW i (by omega)) hc
end WordK
