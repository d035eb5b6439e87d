/-! PURE: orders: the words that an order's clauses ask -/
def hv (h : am_H) (g : Nat → Int32) : am_H := h.set 155 (.inl (0, 21, .inl g))
theorem hv_fr (h : am_H) (g : Nat → Int32) : Fr (fun a => a = 155) h (hv h g) := Fr.set rfl
theorem hv_at {h : am_H} (hl : 155 < h.length) (g : Nat → Int32) : (hv h g)[155]? = some (.inl (0, 21, .inl g)) := List.getElem?_set_self hl
theorem hv_st {h : am_H} (hl : 155 < h.length) {g : Nat → Int32} {k : Nat} (hk : k < 21) (x : Int32) : sI (hv h g) 155 (nI k) x = some (hv h (upd g k x)) := by
  rw [sI_at (hv_at hl g) hk (by decide)]
  exact congrArg some (List.set_set ..)
def wrh (n : Nat) (dn la : Int32) (C : Nat → Nat) (D : Nat → Po) : Nat → Int32 := fun i => if i = 0 then nI n else if i = 1 then dn else if i = 2 then la else if i < 9 then (if i - 3 < n then (D (i - 3)).1 0 else -1) else if i < 15 then (if i - 9 < n then nI (C (i - 9)) else -1) else (if i - 15 < n then nI (D (i - 15)).2.1 else -1)
theorem wrh_3 {n : Nat} {dn la : Int32} {C : Nat → Nat} {D : Nat → Po} {v : Nat} (hv : v < 6) : wrh n dn la C D (3 + v) = (if v < n then (D v).1 0 else -1) ∧ wrh n dn la C D (3 + v + 6) = (if v < n then nI (C v) else -1) ∧ wrh n dn la C D (3 + v + 12) = (if v < n then nI (D v).2.1 else -1) := by
  unfold wrh
  refine ⟨?_, ?_, ?_⟩
  · rw [if_neg (by omega), if_neg (by omega), if_neg (by omega), if_pos (by omega), show 3 + v - 3 = v by omega]
  · rw [if_neg (by omega), if_neg (by omega), if_neg (by omega), if_neg (by omega), if_pos (by omega), show 3 + v + 6 - 9 = v by omega]
  · rw [if_neg (by omega), if_neg (by omega), if_neg (by omega), if_neg (by omega), if_neg (by omega), show 3 + v + 12 - 15 = v by omega]
section Orders
variable {h : am_H} {st dn la : Int32} {n s w : Nat} {fo mo ah : Int32} {ss sc : Nat → Int32} {tx : Nat → Option Nat} {C : Nat → Nat} {D : Nat → Po}
theorem Hands_fillWords_l (HH : h[102]? = some (.inr (1, hanF st dn la))) (hl : 155 < h.length) (HT : TbA h 3 n s w fo mo ah ss sc tx) (HQ : RwsA h 8 6 C D) (hm : ∀ j, j < n → 1 ≤ (D j).2.1) : ∀ (k v : Nat) (g : Nat → Int32), v + k = 6 → (∀ i, i < 3 + v ∨ (9 ≤ i ∧ i < 9 + v) ∨ (15 ≤ i ∧ i < 15 + v) → g i = wrh n dn la C D i) → ∃ g2, Hands_fillWords_35 102 (nI v) (hv h g) = some (hv h g2) ∧ ∀ i, i < 21 → g2 i = wrh n dn la C D i := by
  have hn := HT.1
  have t6 : (6 : Int32).toInt = 6 := by decide
  have e1 : ∀ g, gR (hv h g) 1 102 1 = some 3 := fun g => by unfold gR; rw [ob_of ((hv_fr h g 102 (by decide)).trans HH)]; rfl
  have e6 : ∀ g, gR (hv h g) 1 102 6 = some 155 := fun g => by unfold gR; rw [ob_of ((hv_fr h g 102 (by decide)).trans HH)]; rfl
  have T := fun g => HT.fr (hv_fr h g) (fun a h1 h2 z => by have z : a = 155 := z; omega)
  intro k
  induction k with
  | zero =>
    intro v g hk hg
    have tv := tin (show v < 2 ^ 31 by omega)
    refine ⟨g, ?_, fun i hi => hg i (by omega)⟩
    rw [Hands_fillWords_35_e, if_pos (tile.mpr (by omega))]
  | succ k ih =>
    intro v g hk hg
    have tv := tin (show v < 2 ^ 31 by omega)
    have R := fun g => (HQ v (by omega)).fr (hv_fr h g) (fun z => by have z : 8 + 2 * v = 155 := z; omega) (fun z => by have z : 8 + 2 * v + 1 = 155 := z; omega)
    obtain ⟨w1, w2, w3⟩ := wrh_3 (n := n) (dn := dn) (la := la) (C := C) (D := D) (show v < 6 by omega)
    have a3 : (3 : Int32) + nI v = nI (3 + v) := by rw [show (3 : Int32) = nI 3 from rfl, nI_add]
    have a6 : nI (3 + v) + (6 : Int32) = nI (3 + v + 6) := by rw [show (6 : Int32) = nI 6 from rfl, nI_add]
    have a12 : nI (3 + v) + (12 : Int32) = nI (3 + v + 12) := by rw [show (12 : Int32) = nI 12 from rfl, nI_add]
    have key : Hands_fillWords_35 102 (nI v) (hv h g) = Hands_fillWords_35 102 (nI (v + 1)) (hv h (upd (upd (upd g (3 + v) (wrh n dn la C D (3 + v))) (3 + v + 6) (wrh n dn la C D (3 + v + 6))) (3 + v + 12) (wrh n dn la C D (3 + v + 12)))) := by
      rw [w1, w2, w3, Hands_fillWords_35_e, if_neg (fun z => by have := tile.mp z; omega), e1]
      simp only [Option.bind_some]
      rw [Table_at_v (T g), e6]
      simp only [Option.bind_some]
      by_cases q : v < n
      · rw [if_pos (show inN (nI v) n by omega), if_neg (by simp), tv, show (3 + 5 + 2 * (v : Int).toNat) = 8 + 2 * v by omega, if_pos q, if_pos q, if_pos q]
        simp only [Option.bind_some]
        rw [show Row_card (8 + 2 * v) (0 : Int32) (hv h g) = some ((D v).1 0) from (R g).cardN (i := 0) (hm v q)]
        simp only [Option.bind_some]
        rw [a3, Hands_fillWords_72_e, hv_st hl (by omega)]
        simp only [Option.bind_some]
        rw [e6]
        simp only [Option.bind_some]
        rw [if_neg (by simp), (R _).g2]
        simp only [Option.bind_some]
        rw [a6, Hands_fillWords_93_e, hv_st hl (by omega)]
        simp only [Option.bind_some]
        rw [e6]
        simp only [Option.bind_some]
        rw [if_neg (by simp), (R _).g1]
        simp only [Option.bind_some]
        rw [a12, Hands_fillWords_114_e, hv_st hl (by omega)]
        simp only [Option.bind_some]
        rw [nI_p1]
      · rw [if_neg (show ¬ inN (nI v) n from fun z => by have := z.2; omega), if_pos rfl, if_neg q, if_neg q, if_neg q, a3, Hands_fillWords_72_e, hv_st hl (by omega)]
        simp only [Option.bind_some]
        rw [e6]
        simp only [Option.bind_some]
        rw [if_pos (by first | rfl | trivial), a6, Hands_fillWords_93_e, hv_st hl (by omega)]
        simp only [Option.bind_some]
        rw [e6]
        simp only [Option.bind_some]
        rw [if_pos (by first | rfl | trivial), a12, Hands_fillWords_114_e, hv_st hl (by omega)]
        simp only [Option.bind_some]
        rw [nI_p1]
    rw [key]
    refine ih (v + 1) _ (by omega) (fun i hi => ?_)
    unfold upd
    by_cases q1 : i = 3 + v + 12
    · rw [if_pos q1, q1]
    · rw [if_neg q1]
      by_cases q2 : i = 3 + v + 6
      · rw [if_pos q2, q2]
      · rw [if_neg q2]
        by_cases q3 : i = 3 + v
        · rw [if_pos q3, q3]
        · rw [if_neg q3]; exact hg i (by omega)
theorem Hands_fillWords_v {wf : Nat → Int32} (HH : h[102]? = some (.inr (1, hanF st dn la))) (HV : h[155]? = some (.inl (0, 21, .inl wf))) (HT : TbA h 3 n s w fo mo ah ss sc tx) (HQ : RwsA h 8 6 C D) (hm : ∀ j, j < n → 1 ≤ (D j).2.1) : ∃ g2, Hands_fillWords 102 h = some (hv h g2) ∧ ∀ i, i < 21 → g2 i = wrh n dn la C D i := by
  have hl := len_of HV
  have e1 : ∀ g, gR (hv h g) 1 102 1 = some 3 := fun g => by unfold gR; rw [ob_of ((hv_fr h g 102 (by decide)).trans HH)]; rfl
  have e6 : ∀ g, gR (hv h g) 1 102 6 = some 155 := fun g => by unfold gR; rw [ob_of ((hv_fr h g 102 (by decide)).trans HH)]; rfl
  have e7 : ∀ g, gI (hv h g) 1 102 7 = some dn := fun g => by unfold gI; rw [ob_of ((hv_fr h g 102 (by decide)).trans HH)]; rfl
  have e8 : ∀ g, gI (hv h g) 1 102 8 = some la := fun g => by unfold gI; rw [ob_of ((hv_fr h g 102 (by decide)).trans HH)]; rfl
  have e0 : ∀ g, gI (hv h g) 7 3 0 = some (nI n) := fun g => by unfold gI; rw [ob_of ((hv_fr h g 3 (by decide)).trans HT.2.2.2.1)]; rfl
  have eo : isO (hv h wf) 1 102 = true := isO_of ((hv_fr h wf 102 (by decide)).trans HH)
  have es0 : ∀ g x, sI (hv h g) 155 (0 : Int32) x = some (hv h (upd g 0 x)) := fun g x => hv_st hl (by decide) x
  have es1 : ∀ g x, sI (hv h g) 155 (1 : Int32) x = some (hv h (upd g 1 x)) := fun g x => hv_st hl (by decide) x
  have es2 : ∀ g x, sI (hv h g) 155 (2 : Int32) x = some (hv h (upd g 2 x)) := fun g x => hv_st hl (by decide) x
  obtain ⟨g2, e2, hg⟩ := Hands_fillWords_l HH hl HT HQ hm 6 0 (upd (upd (upd wf 0 (nI n)) 1 dn) 2 la) rfl (fun i hi => by
    rcases (show i = 0 ∨ i = 1 ∨ i = 2 by omega) with rfl | rfl | rfl <;> rfl)
  refine ⟨g2, (congrArg (Hands_fillWords 102) (set_self HV).symm).trans ?_, hg⟩
  show Hands_fillWords 102 (hv h wf) = _
  unfold Hands_fillWords
  rw [if_pos eo]
  simp only [e1, e6, e7, e8, e0, es0, es1, es2, Option.bind_some]
  exact e2
end Orders
