/-! PURE: the table, what can be undone -/
abbrev tabF (T : Nat) (n s w fo mo ah : Int32) : List Value := [.int n, .int s, .int w, .int fo, .int mo, .int ah, .ref (T + 1), .ref (T + 2), .ref (T + 3), .ref (T + 4)]
/-- a table at place T, without its rows of cards -/
def TbA (h : am_H) (T n s w : Nat) (fo mo ah : Int32) (ss sc : Nat → Int32) (tx : Nat → Option Nat) : Prop := n ≤ 6 ∧ s ≤ 8 ∧ w ≤ 6 ∧ h[T]? = some (.inr (7, tabF T (nI n) (nI s) (nI w) fo mo ah)) ∧ (∃ fr, h[T + 1]? = some (.inl (4, 6, .inr (.inr (.inr (.inr fr))))) ∧ ∀ i, i < 6 → fr i = some (T + 5 + 2 * i)) ∧ h[T + 2]? = some (.inl (0, 8, .inl ss)) ∧ h[T + 3]? = some (.inl (0, 8, .inl sc)) ∧ h[T + 4]? = some (.inl (6, 6, .inr (.inr (.inr (.inr tx)))))
abbrev tP (T : Nat) : Nat → Prop := fun a => T ≤ a ∧ a ≤ T + 4
section TabP
variable {h : am_H} {T n s w : Nat} {fo mo ah : Int32} {ss sc : Nat → Int32} {tx : Nat → Option Nat}
theorem TbA.fr {P : Nat → Prop} {h2 : am_H} (H : TbA h T n s w fo mo ah ss sc tx) (F : Fr P h h2) (hp : ∀ a, T ≤ a → a ≤ T + 4 → ¬ P a) : TbA h2 T n s w fo mo ah ss sc tx := by
  obtain ⟨a1, a2, a3, a4, ⟨fr, a5, a6⟩, a7, a8, a9⟩ := H
  exact ⟨a1, a2, a3, (F _ (hp _ (by omega) (by omega))).trans a4, ⟨fr, (F _ (hp _ (by omega) (by omega))).trans a5, a6⟩, (F _ (hp _ (by omega) (by omega))).trans a7, (F _ (hp _ (by omega) (by omega))).trans a8, (F _ (hp _ (by omega) (by omega))).trans a9⟩
theorem len_of {h : am_H} {a : Nat} {e : va_E} (H : h[a]? = some e) : a < h.length := (List.getElem?_eq_some_iff.mp H).1
theorem Table_at_v (H : TbA h T n s w fo mo ah ss sc tx) (x : Int32) : Table_at T x h = some (if inN x n then some (T + 5 + 2 * x.toInt.toNat) else none) := by
  obtain ⟨a1, a2, a3, a4, ⟨fr, a5, a6⟩, a7, a8, a9⟩ := H
  have t := tin (show n < 2 ^ 31 by omega)
  have t6 : (Int32.ofNat 6).toInt = 6 := by decide
  by_cases q : inN x n
  · have e := a6 x.toInt.toNat (by omega)
    rw [if_pos q]
    simp (disch := (first | omega | (simp only [List.length_set]; omega))) only [Table_at, isO, gR, gI, gN, gJ, pV, aI, sI, aN, vR, vI, vN, vJ, Option.bind_some, Option.isSome_some, List.getElem?_cons_succ, List.getElem?_cons_zero, ↓reduceIte, List.length_cons, List.length_nil, List.set_cons_succ, List.set_cons_zero, Nat.reduceAdd, Nat.reduceLT, tile, tilt, Int32.reduceToInt, if_pos, if_neg, Int.toNat_natCast, ob_ne, ob_eq, arI_ne, arI_eq, arN_ne, arN_eq, ob_of a4, arN_of a5, aL_of a5 (by decide), t, t6, e]
  · rw [if_neg q]
    by_cases q2 : x.toInt < 0
    · simp (disch := (first | omega | (simp only [List.length_set]; omega))) only [Table_at, isO, gR, gI, gN, gJ, pV, aI, sI, aN, vR, vI, vN, vJ, Option.bind_some, Option.isSome_some, List.getElem?_cons_succ, List.getElem?_cons_zero, ↓reduceIte, List.length_cons, List.length_nil, List.set_cons_succ, List.set_cons_zero, Nat.reduceAdd, Nat.reduceLT, tile, tilt, Int32.reduceToInt, if_pos, if_neg, Int.toNat_natCast, ob_ne, ob_eq, arI_ne, arI_eq, arN_ne, arN_eq, ob_of a4, arN_of a5, aL_of a5 (by decide), t, t6]
    · simp (disch := (first | omega | (simp only [List.length_set]; omega))) only [Table_at, isO, gR, gI, gN, gJ, pV, aI, sI, aN, vR, vI, vN, vJ, Option.bind_some, Option.isSome_some, List.getElem?_cons_succ, List.getElem?_cons_zero, ↓reduceIte, List.length_cons, List.length_nil, List.set_cons_succ, List.set_cons_zero, Nat.reduceAdd, Nat.reduceLT, tile, tilt, Int32.reduceToInt, if_pos, if_neg, Int.toNat_natCast, ob_ne, ob_eq, arI_ne, arI_eq, arN_ne, arN_eq, ob_of a4, arN_of a5, aL_of a5 (by decide), t, t6]
theorem Table_inForce_v (H : TbA h T n s w fo mo ah ss sc tx) (hf : -1 ≤ fo.toInt ∧ fo.toInt < 6) : Table_inForce T h = some (if fo.toInt = -1 then none else tx fo.toInt.toNat) := by
  obtain ⟨a1, a2, a3, a4, ⟨fr, a5, a6⟩, a7, a8, a9⟩ := H
  have t6 : (Int32.ofNat 6).toInt = 6 := by decide
  by_cases q : fo.toInt = -1
  · rw [if_pos q]
    simp (disch := (first | omega | (simp only [List.length_set]; omega))) only [Table_inForce, isO, gR, gI, gN, gJ, pV, aI, sI, aN, vR, vI, vN, vJ, Option.bind_some, Option.isSome_some, List.getElem?_cons_succ, List.getElem?_cons_zero, ↓reduceIte, List.length_cons, List.length_nil, List.set_cons_succ, List.set_cons_zero, Nat.reduceAdd, Nat.reduceLT, tile, tilt, Int32.reduceToInt, if_pos, if_neg, Int.toNat_natCast, ob_ne, ob_eq, arI_ne, arI_eq, arN_ne, arN_eq, ob_of a4, arN_of a9, aL_of a9 (by decide), t6, q]
  · rw [if_neg q]
    simp (disch := (first | omega | (simp only [List.length_set]; omega))) only [Table_inForce, isO, gR, gI, gN, gJ, pV, aI, sI, aN, vR, vI, vN, vJ, Option.bind_some, Option.isSome_some, List.getElem?_cons_succ, List.getElem?_cons_zero, ↓reduceIte, List.length_cons, List.length_nil, List.set_cons_succ, List.set_cons_zero, Nat.reduceAdd, Nat.reduceLT, tile, tilt, Int32.reduceToInt, if_pos, if_neg, Int.toNat_natCast, ob_ne, ob_eq, arI_ne, arI_eq, arN_ne, arN_eq, ob_of a4, arN_of a9, aL_of a9 (by decide), t6]
theorem Table_stepsOf_v (H : TbA h T n s w fo mo ah ss sc tx) {i : Nat} (hi : i < s) : Table_stepsOf T (nI i) h = some (ss i) := by
  obtain ⟨a1, a2, a3, a4, ⟨fr, a5, a6⟩, a7, a8, a9⟩ := H
  have t := tin (show s < 2 ^ 31 by omega)
  have ti := tin (show i < 2 ^ 31 by omega)
  simp (disch := (first | omega | (simp only [List.length_set]; omega))) only [Table_stepsOf, isO, gR, gI, gN, gJ, pV, aI, sI, aN, vR, vI, vN, vJ, Option.bind_some, Option.isSome_some, List.getElem?_cons_succ, List.getElem?_cons_zero, ↓reduceIte, List.length_cons, List.length_nil, List.set_cons_succ, List.set_cons_zero, Nat.reduceAdd, Nat.reduceLT, tile, tilt, Int32.reduceToInt, if_pos, if_neg, Int.toNat_natCast, ob_ne, ob_eq, arI_ne, arI_eq, arN_ne, arN_eq, ob_of a4, arI_of a7, t, ti]
theorem Table_cardOf_v (H : TbA h T n s w fo mo ah ss sc tx) {i : Nat} (hi : i < s) : Table_cardOf T (nI i) h = some (sc i) := by
  obtain ⟨a1, a2, a3, a4, ⟨fr, a5, a6⟩, a7, a8, a9⟩ := H
  have t := tin (show s < 2 ^ 31 by omega)
  have ti := tin (show i < 2 ^ 31 by omega)
  simp (disch := (first | omega | (simp only [List.length_set]; omega))) only [Table_cardOf, isO, gR, gI, gN, gJ, pV, aI, sI, aN, vR, vI, vN, vJ, Option.bind_some, Option.isSome_some, List.getElem?_cons_succ, List.getElem?_cons_zero, ↓reduceIte, List.length_cons, List.length_nil, List.set_cons_succ, List.set_cons_zero, Nat.reduceAdd, Nat.reduceLT, tile, tilt, Int32.reduceToInt, if_pos, if_neg, Int.toNat_natCast, ob_ne, ob_eq, arI_ne, arI_eq, arN_ne, arN_eq, ob_of a4, arI_of a8, t, ti]
theorem TbA.set (H : TbA h T n s w fo mo ah ss sc tx) {n2 s2 w2 : Nat} {f2 m2 a2 : Int32} (h1 : n2 ≤ 6) (h2 : s2 ≤ 8) (h3 : w2 ≤ 6) : TbA (h.set T (.inr (7, tabF T (nI n2) (nI s2) (nI w2) f2 m2 a2))) T n2 s2 w2 f2 m2 a2 ss sc tx := by
  obtain ⟨a1, a2, a3, a4, ⟨fr, a5, a6⟩, a7, a8, a9⟩ := H
  refine ⟨h1, h2, h3, set_at a4, ⟨fr, ?_, a6⟩, ?_, ?_, ?_⟩ <;> rw [List.getElem?_set_ne (by omega)] <;> assumption
theorem TbA.setS (H : TbA h T n s w fo mo ah ss sc tx) {f : Nat → Int32} : TbA (h.set (T + 2) (.inl (0, 8, .inl f))) T n s w fo mo ah f sc tx := by
  obtain ⟨a1, a2, a3, a4, ⟨fr, a5, a6⟩, a7, a8, a9⟩ := H
  refine ⟨a1, a2, a3, ?_, ⟨fr, ?_, a6⟩, set_at a7, ?_, ?_⟩ <;> rw [List.getElem?_set_ne (by omega)] <;> assumption
theorem TbA.setC (H : TbA h T n s w fo mo ah ss sc tx) {f : Nat → Int32} : TbA (h.set (T + 3) (.inl (0, 8, .inl f))) T n s w fo mo ah ss f tx := by
  obtain ⟨a1, a2, a3, a4, ⟨fr, a5, a6⟩, a7, a8, a9⟩ := H
  refine ⟨a1, a2, a3, ?_, ⟨fr, ?_, a6⟩, ?_, set_at a8, ?_⟩ <;> rw [List.getElem?_set_ne (by omega)] <;> assumption
theorem TbA.setX (H : TbA h T n s w fo mo ah ss sc tx) {f : Nat → Option Nat} : TbA (h.set (T + 4) (.inl (6, 6, .inr (.inr (.inr (.inr f)))))) T n s w fo mo ah ss sc f := by
  obtain ⟨a1, a2, a3, a4, ⟨fr, a5, a6⟩, a7, a8, a9⟩ := H
  refine ⟨a1, a2, a3, ?_, ⟨fr, ?_, a6⟩, ?_, ?_, set_at a9⟩ <;> rw [List.getElem?_set_ne (by omega)] <;> assumption
theorem Table_addSight_v (H : TbA h T n s w fo mo ah ss sc tx) (hs8 : s < 8) (x y : Int32) : ∃ h2, Table_addSight T x y h = some (nI (s + 1), h2) ∧ TbA h2 T n (s + 1) w fo mo ah (upd ss s x) (upd sc s y) tx ∧ Fr (tP T) h h2 := by
  refine ⟨((h.set (T + 2) (.inl (0, 8, .inl (upd ss s x)))).set (T + 3) (.inl (0, 8, .inl (upd sc s y)))).set T (.inr (7, tabF T (nI n) (nI (s + 1)) (nI w) fo mo ah)), ?_, ?_, ?_⟩
  · have H9 := H
    obtain ⟨a1, a2, a3, a4, ⟨fr, a5, a6⟩, a7, a8, a9⟩ := H
    have t := tin (show s < 2 ^ 31 by omega)
    have l0 := len_of a4
    have l2 := len_of a7
    have l3 := len_of a8
    simp (disch := (first | omega | (simp only [List.length_set]; omega))) only [Table_addSight, isO, gR, gI, gN, gJ, pV, aI, sI, aN, vR, vI, vN, vJ, Option.bind_some, Option.isSome_some, List.getElem?_cons_succ, List.getElem?_cons_zero, ↓reduceIte, List.length_cons, List.length_nil, List.set_cons_succ, List.set_cons_zero, Nat.reduceAdd, Nat.reduceLT, tile, tilt, Int32.reduceToInt, if_pos, if_neg, Int.toNat_natCast, ob_ne, ob_eq, arI_ne, arI_eq, arN_ne, arN_eq, ob_of a4, arI_of a7, arI_of a8, t, List.length_set, nI_p1]
  · exact (H.setS.setC).set H.1 (by omega) H.2.2.1
  · exact ((Fr.set (by show T ≤ T + 2 ∧ _; omega)).tr (Fr.set (by show T ≤ T + 3 ∧ _; omega))).tr (Fr.set (by show T ≤ T ∧ _; omega))
end TabP
