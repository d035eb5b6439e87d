/-! PURE: tables copied, heaps laid -/
/-- a table, what lies beyond its rows left open -/
def TabA (h : am_H) (T n s w : Nat) (fo mo ah : Int32) (ss sc : Nat → Int32) (tx : Nat → Option Nat) : Prop := ∃ ss2 sc2 tx2, TbA h T n s w fo mo ah ss2 sc2 tx2 ∧ (∀ i, i < 8 → ss2 i = ss i) ∧ (∀ i, i < 8 → sc2 i = sc i) ∧ ∀ i, i < 6 → tx2 i = tx i
abbrev taP (T : Nat) : Nat → Prop := fun a => T ≤ a ∧ a < T + 17
theorem isO_fr {P : Nat → Prop} {h h2 : am_H} {ci a : Nat} (F : Fr P h h2) (hp : ¬ P a) : isO h2 ci a = isO h ci a := by unfold isO ob; rw [F a hp]
section TabC
variable {T S n s w n2 s2 w2 : Nat} {fo mo ah fo2 mo2 ah2 : Int32} {ss sc ss2 sc2 : Nat → Int32} {tx tx2 : Nat → Option Nat} {C C2 : Nat → Nat} {D D2 : Nat → Po}
theorem Table_copy_l (ha : T + 17 ≤ S ∨ S + 17 ≤ T) : ∀ (k i : Nat) (h : am_H) (tx : Nat → Option Nat), i + k = 6 → TbA h T n s w fo mo ah ss sc tx → TbA h S n2 s2 w2 fo2 mo2 ah2 ss2 sc2 tx2 → (∀ j b, j < 6 → tx2 j = some b → isO h 9 b = true ∧ (b < T ∨ T + 17 ≤ b)) → (∀ j, j < i → tx j = tx2 j) → ∃ h2 tx3, Table_copy_85 T S (nI i) h = some h2 ∧ TbA h2 T n s w fo mo ah ss sc tx3 ∧ (∀ j, j < 6 → tx3 j = tx2 j) ∧ Fr (fun a => a = T + 4) h h2 := by
  intro k
  induction k with
  | zero =>
    intro i h tx hk HT HS hx he
    have HT0 := HT
    obtain ⟨a1, a2, a3, a4, ⟨fr, a5, a6⟩, a7, a8, a9⟩ := HT
    have ti := tin (show i < 2 ^ 31 by omega)
    have t6 : (Int32.ofNat 6).toInt = 6 := by decide
    refine ⟨h, tx, ?_, HT0, fun j hj => he j (by omega), Fr.rf⟩
    rw [Table_copy_85_e]
    simp (disch := (first | omega | (simp only [List.length_set]; omega))) only [gR, isO, gR, gI, gN, gJ, pV, aI, sI, aN, vR, vI, vN, vJ, Option.bind_some, Option.isSome_some, List.getElem?_cons_succ, List.getElem?_cons_zero, ↓reduceIte, List.length_cons, List.length_nil, List.set_cons_succ, List.set_cons_zero, Nat.reduceAdd, Nat.reduceLT, tile, tilt, Int32.reduceToInt, if_pos, if_neg, Int.toNat_natCast, ob_ne, ob_eq, arI_ne, arI_eq, arN_ne, arN_eq, ob_of a4, aL_of a9 (by decide : 6 < 7), ti, t6]
  | succ k ih =>
    intro i h tx hk HT HS hx he
    have HT0 := HT
    have HS0 := HS
    obtain ⟨a1, a2, a3, a4, ⟨fr, a5, a6⟩, a7, a8, a9⟩ := HT
    obtain ⟨b1, b2, b3, b4, ⟨fr2, b5, b6⟩, b7, b8, b9⟩ := HS
    have ti := tin (show i < 2 ^ 31 by omega)
    have t6 : (Int32.ofNat 6).toInt = 6 := by decide
    have F : Fr (fun a => a = T + 4) h (h.set (T + 4) (.inl (6, 6, .inr (.inr (.inr (.inr (va_up tx i (tx2 i)))))))) := Fr.set rfl
    obtain ⟨h3, tx3, e3, G3, g3, F3⟩ := ih (i + 1) _ _ (by omega) (HT0.setX (f := va_up tx i (tx2 i))) (HS0.fr F (fun a h1 h2 z => by omega)) (fun j b hj hb => ⟨by rw [isO_fr F (by have := (hx j b hj hb).2; omega)]; exact (hx j b hj hb).1, (hx j b hj hb).2⟩) (fun j hj => by
      unfold va_up
      by_cases q : j = i
      · subst q; rw [if_pos rfl]
      · rw [if_neg q]; exact he j (by omega))
    refine ⟨h3, tx3, ?_, G3, g3, F.tr F3⟩
    rw [Table_copy_85_e]
    have es : sN h 6 (T + 4) (nI i) (tx2 i) = some (h.set (T + 4) (.inl (6, 6, .inr (.inr (.inr (.inr (va_up tx i (tx2 i)))))))) := by
      unfold sN
      rw [arN_of a9]
      simp only [Option.bind_some]
      rw [if_pos ⟨by omega, by simp, fun b hb => (hx i b (by omega) hb).1⟩, ti]; rfl
    simp (disch := (first | omega | (simp only [List.length_set]; omega))) only [gR, isO, gR, gI, gN, gJ, pV, aI, sI, aN, vR, vI, vN, vJ, Option.bind_some, Option.isSome_some, List.getElem?_cons_succ, List.getElem?_cons_zero, ↓reduceIte, List.length_cons, List.length_nil, List.set_cons_succ, List.set_cons_zero, Nat.reduceAdd, Nat.reduceLT, tile, tilt, Int32.reduceToInt, if_pos, if_neg, Int.toNat_natCast, ob_ne, ob_eq, arI_ne, arI_eq, arN_ne, arN_eq, ob_of a4, ob_of b4, aL_of a9 (by decide : 6 < 7), arN_of b9, ti, t6, es, nI_p1, e3]
theorem Table_copy_v {h : am_H} (ha : T + 17 ≤ S ∨ S + 17 ≤ T) (HT : TabA h T n s w fo mo ah ss sc tx) (HS : TabA h S n2 s2 w2 fo2 mo2 ah2 ss2 sc2 tx2) (H1 : RwsA h (T + 5) 6 C D) (H2 : RwsA h (S + 5) 6 C2 D2) (hx : ∀ j b, j < 6 → tx2 j = some b → isO h 9 b = true ∧ (b < T ∨ T + 17 ≤ b)) : ∃ h2, Table_copy T S h = some h2 ∧ TabA h2 T n2 s2 w2 fo2 mo2 ah2 ss2 sc2 tx2 ∧ RwsA h2 (T + 5) 6 C2 D2 ∧ Fr (taP T) h h2 := by
  obtain ⟨ss1, sc1, tx1, HT, es1, ec1, ex1⟩ := HT
  obtain ⟨ss3, sc3, tx3, HS, es3, ec3, ex3⟩ := HS
  have HT0 := HT
  have HS0 := HS
  have G0 : TbA (h.set T (.inr (7, tabF T (nI n2) (nI s2) (nI w2) fo2 mo2 ah2))) T n2 s2 w2 fo2 mo2 ah2 ss1 sc1 tx1 := HT.set HS.1 HS.2.1 HS.2.2.1
  have F0 : Fr (fun a => a = T) h (h.set T (.inr (7, tabF T (nI n2) (nI s2) (nI w2) fo2 mo2 ah2))) := Fr.set rfl
  obtain ⟨h1, e1, R1, F1⟩ := Table_copyHeaps_v ha G0 (HS.fr F0 (fun a _ _ z => by omega)) (H1.fr F0 (fun a _ _ z => by omega)) (H2.fr F0 (fun a _ _ z => by omega))
  have G1 := G0.fr F1 (fun a _ _ z => by omega)
  have S1 := (HS.fr F0 (fun a _ _ z => by omega)).fr F1 (fun a _ _ z => by omega)
  have G2 := G1.setS (f := va_cpy ss3 ss1 0 0 8)
  have F2 : Fr (fun a => a = T + 2) h1 (h1.set (T + 2) (.inl (0, 8, .inl (va_cpy ss3 ss1 0 0 8)))) := Fr.set rfl
  have S2 := S1.fr F2 (fun a _ _ z => by omega)
  have G3 := G2.setC (f := va_cpy sc3 sc1 0 0 8)
  have F3 : Fr (fun a => a = T + 3) (h1.set (T + 2) (.inl (0, 8, .inl (va_cpy ss3 ss1 0 0 8)))) ((h1.set (T + 2) (.inl (0, 8, .inl (va_cpy ss3 ss1 0 0 8)))).set (T + 3) (.inl (0, 8, .inl (va_cpy sc3 sc1 0 0 8)))) := Fr.set rfl
  have S3 := S2.fr F3 (fun a _ _ z => by omega)
  have FA : Fr (taP T) h ((h1.set (T + 2) (.inl (0, 8, .inl (va_cpy ss3 ss1 0 0 8)))).set (T + 3) (.inl (0, 8, .inl (va_cpy sc3 sc1 0 0 8)))) := (((F0.mono (fun x hx => by show T ≤ x ∧ _; omega)).tr (F1.mono (fun x hx => by show T ≤ x ∧ _; omega))).tr (F2.mono (fun x hx => by show T ≤ x ∧ _; omega))).tr (F3.mono (fun x hx => by show T ≤ x ∧ _; omega))
  obtain ⟨h4, tx4, e4, G4, g4, F4⟩ := Table_copy_l ha 6 0 _ tx1 (by omega) G3 S3 (fun j b hj hb => by
    have z := hx j b hj (by rw [← ex3 j hj]; exact hb)
    exact ⟨by rw [isO_fr FA (by omega)]; exact z.1, z.2⟩) (fun j hj => by omega)
  have cq : ∀ (f g : Nat → Int32) (i : Nat), i < 8 → va_cpy f g 0 0 8 i = f i := fun f g i hi => by
    unfold va_cpy; rw [if_pos (by omega)]; congr 1; omega
  refine ⟨h4, ?_, ⟨_, _, _, G4, fun i hi => (cq _ _ i hi).trans (es3 i hi), fun i hi => (cq _ _ i hi).trans (ec3 i hi), fun i hi => (g4 i hi).trans (ex3 i hi)⟩, ?_, FA.tr (F4.mono (fun x hx => by show T ≤ x ∧ _; omega))⟩
  · have c1 : cpy h1 (S + 2) (0 : Int32) (T + 2) (0 : Int32) (8 : Int32) = some (h1.set (T + 2) (.inl (0, 8, .inl (va_cpy ss3 ss1 0 0 8)))) := by
      unfold cpy
      rw [arI_of S1.2.2.2.2.2.1, arI_of G1.2.2.2.2.2.1]
      simp only [Option.bind_some]
      rw [if_pos (by decide)]; rfl
    have c2 : cpy (h1.set (T + 2) (.inl (0, 8, .inl (va_cpy ss3 ss1 0 0 8)))) (S + 3) (0 : Int32) (T + 3) (0 : Int32) (8 : Int32) = some ((h1.set (T + 2) (.inl (0, 8, .inl (va_cpy ss3 ss1 0 0 8)))).set (T + 3) (.inl (0, 8, .inl (va_cpy sc3 sc1 0 0 8)))) := by
      unfold cpy
      rw [arI_of S2.2.2.2.2.2.2.1, arI_of G2.2.2.2.2.2.2.1]
      simp only [Option.bind_some]
      rw [if_pos (by decide)]; rfl
    have k1 := ob_of G1.2.2.2.1
    have k2 := ob_of S1.2.2.2.1
    have k3 := ob_of G2.2.2.2.1
    have k4 := ob_of S2.2.2.2.1
    have q1 := ob_of HT0.2.2.2.1
    have q2 := ob_of HS0.2.2.2.1
    have l0 := len_of HT0.2.2.2.1
    have nz : S ≠ T := by omega
    have e4' : Table_copy_85 T S (0 : Int32) ((h1.set (T + 2) (.inl (0, 8, .inl (va_cpy ss3 ss1 0 0 8)))).set (T + 3) (.inl (0, 8, .inl (va_cpy sc3 sc1 0 0 8)))) = some h4 := e4
    simp (disch := (first | omega | (simp only [List.length_set]; omega))) only [Table_copy, isO, gR, gI, gN, gJ, pV, aI, sI, aN, vR, vI, vN, vJ, Option.bind_some, Option.isSome_some, List.getElem?_cons_succ, List.getElem?_cons_zero, ↓reduceIte, List.length_cons, List.length_nil, List.set_cons_succ, List.set_cons_zero, Nat.reduceAdd, Nat.reduceLT, tile, tilt, Int32.reduceToInt, if_pos, if_neg, Int.toNat_natCast, ob_ne, ob_eq, arI_ne, arI_eq, arN_ne, arN_eq, q1, q2, List.set_set, e1, k1, k2, c1, k3, k4, c2, e4']
  · exact (((R1.fr F2 (fun a _ _ z => by omega)).fr F3 (fun a _ _ z => by omega))).fr F4 (fun a _ _ z => by omega)
end TabC
