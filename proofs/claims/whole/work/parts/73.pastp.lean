/-! PURE: what can be undone; the tape's cards -/
abbrev pasF (P : Nat) (u x : Int32) : List Value := [.int u, .int x, .ref (P + 1), .ref (P + 2)]
def PaA (h : am_H) (P u x : Nat) (kd : Nat → Int32) : Prop := u ≤ 16 ∧ x < 16 ∧ h[P]? = some (.inr (2, pasF P (nI u) (nI x))) ∧ (∃ fr, h[P + 1]? = some (.inl (4, 16, .inr (.inr (.inr (.inr fr))))) ∧ ∀ i, i < 16 → fr i = some (P + 3 + 2 * i)) ∧ h[P + 2]? = some (.inl (0, 16, .inl kd))
abbrev paP (P : Nat) : Nat → Prop := fun a => P ≤ a ∧ a < P + 35
section PastP
variable {h : am_H} {P u x : Nat} {kd : Nat → Int32}
theorem PaA.fr {R : Nat → Prop} {h2 : am_H} (H : PaA h P u x kd) (F : Fr R h h2) (hp : ∀ a, P ≤ a → a ≤ P + 2 → ¬ R a) : PaA h2 P u x kd := by
  obtain ⟨a1, a2, a3, ⟨fr, a4, a5⟩, a6⟩ := H
  exact ⟨a1, a2, (F _ (hp _ (by omega) (by omega))).trans a3, ⟨fr, (F _ (hp _ (by omega) (by omega))).trans a4, a5⟩, (F _ (hp _ (by omega) (by omega))).trans a6⟩
theorem PaA.set (H : PaA h P u x kd) {u2 x2 : Nat} (h1 : u2 ≤ 16) (h2 : x2 < 16) : PaA (h.set P (.inr (2, pasF P (nI u2) (nI x2)))) P u2 x2 kd := by
  obtain ⟨a1, a2, a3, ⟨fr, a4, a5⟩, a6⟩ := H
  refine ⟨h1, h2, set_at a3, ⟨fr, ?_, a5⟩, ?_⟩ <;> rw [List.getElem?_set_ne (by omega)] <;> assumption
theorem PaA.setK (H : PaA h P u x kd) {f : Nat → Int32} : PaA (h.set (P + 2) (.inl (0, 16, .inl f))) P u x f := by
  obtain ⟨a1, a2, a3, ⟨fr, a4, a5⟩, a6⟩ := H
  refine ⟨a1, a2, ?_, ⟨fr, ?_, a5⟩, set_at a6⟩ <;> rw [List.getElem?_set_ne (by omega)] <;> assumption
theorem PaA.row (H : PaA h P u x kd) {i : Nat} (hi : i < 16) : gR h 2 P 2 = some (P + 1) ∧ aN h 4 (P + 1) (nI i) = some (some (P + 3 + 2 * i)) := by
  obtain ⟨a1, a2, a3, ⟨fr, a4, a5⟩, a6⟩ := H
  have ti := tin (show i < 2 ^ 31 by omega)
  constructor
  · unfold gR; rw [ob_of a3]; rfl
  · unfold aN; rw [arN_of a4]; simp only [Option.bind_some]; rw [if_pos (by omega), ti]; exact congrArg some (a5 i hi)
theorem PaA.g0 (H : PaA h P u x kd) : gI h 2 P 0 = some (nI u) := by unfold gI; rw [ob_of H.2.2.1]; rfl
theorem PaA.g1 (H : PaA h P u x kd) : gI h 2 P 1 = some (nI x) := by unfold gI; rw [ob_of H.2.2.1]; rfl
theorem PaA.g3 (H : PaA h P u x kd) : gR h 2 P 3 = some (P + 2) := by unfold gR; rw [ob_of H.2.2.1]; rfl
theorem PaA.p1 (H : PaA h P u x kd) (y : Nat) : pV h 2 P 1 (.int (nI y)) = some (h.set P (.inr (2, pasF P (nI u) (nI y)))) := by unfold pV; rw [ob_of H.2.2.1]; rfl
theorem PaA.p0 (H : PaA h P u x kd) (y : Nat) : pV h 2 P 0 (.int (nI y)) = some (h.set P (.inr (2, pasF P (nI y) (nI x)))) := by unfold pV; rw [ob_of H.2.2.1]; rfl
theorem PaA.ak (H : PaA h P u x kd) {i : Nat} (hi : i < 16) : aI h 0 (P + 2) (nI i) = some (kd i) := by
  have ti := tin (show i < 2 ^ 31 by omega)
  unfold aI; rw [arI_of H.2.2.2.2]; simp only [Option.bind_some]; rw [if_pos (by omega), ti]; rfl
theorem PaA.sk (H : PaA h P u x kd) {i : Nat} (hi : i < 16) (y : Int32) : sI h (P + 2) (nI i) y = some (h.set (P + 2) (.inl (0, 16, .inl (upd kd i y)))) := by
  have ti := tin (show i < 2 ^ 31 by omega)
  unfold sI; rw [arI_of H.2.2.2.2]; simp only [Option.bind_some]; rw [if_pos (by omega), ti]; rfl
theorem rmI_n {a b : Nat} (ha : a < 2 ^ 31) (h0 : 0 < b) (hb : b < 2 ^ 31) : rmI (nI a) (nI b) = some (nI (a % b)) := by
  unfold rmI; rw [if_neg (nI_ne0 h0 hb), pk_rem ha h0 hb]
theorem Past_clear_v (H : PaA h P u x kd) : ∃ h2, Past_clear P h = some h2 ∧ PaA h2 P 0 0 kd ∧ Fr (fun a => a = P) h h2 := by
  have G1 := H.set (u2 := 0) (x2 := x) (by omega) H.2.1
  have G2 := G1.set (u2 := 0) (x2 := 0) (by omega) (by omega)
  refine ⟨_, ?_, G2, (Fr.set (P := fun a => a = P) rfl).tr (Fr.set rfl)⟩
  unfold Past_clear
  rw [if_pos (isO_of H.2.2.1), show pV h 2 P 0 (.int (0 : Int32)) = _ from H.p0 0]
  simp only [Option.bind_some]
  rw [show pV _ 2 P 1 (.int (0 : Int32)) = _ from G1.p1 0]
  rfl
theorem Past_keep_v {C : Nat → Nat} {D : Nat → Po} {r c : Nat} {p : Po} (H : PaA h P u x kd) (HR : RwsA h (P + 3) 16 C D) (hr : r + 1 < P ∨ P + 35 ≤ r) (H2 : RowAt h r c p) (kn : Int32) : ∃ h2, Past_keep P kn r h = some h2 ∧ PaA h2 P (min (u + 1) 16) ((x + 1) % 16) (upd kd x kn) ∧ RwsA h2 (P + 3) 16 (up1 C x c) (up1 D x p) ∧ Fr (paP P) h h2 := by
  have hu := H.1
  have hx := H.2.1
  have tx := tin (show x < 2 ^ 31 by omega)
  have tu := tin (show u + 1 < 2 ^ 31 by omega)
  obtain ⟨h1, e1, R1, F1⟩ := (HR x hx).copy H2 (show apt (P + 3 + 2 * x) r from ⟨by omega, by omega, by omega⟩)
  have G1 := H.fr F1 (fun a _ _ z => by rcases z with z | z <;> omega)
  have Q1 := HR.up F1 R1
  have F2 : Fr (fun a => a = P + 2) h1 (h1.set (P + 2) (.inl (0, 16, .inl (upd kd x kn)))) := Fr.set rfl
  have G2 := G1.setK (f := upd kd x kn)
  have G3 := G2.set (u2 := u) (x2 := (x + 1) % 16) hu (Nat.mod_lt _ (by omega))
  have F3 : Fr (fun a => a = P) (h1.set (P + 2) (.inl (0, 16, .inl (upd kd x kn)))) ((h1.set (P + 2) (.inl (0, 16, .inl (upd kd x kn)))).set P (.inr (2, pasF P (nI u) (nI ((x + 1) % 16))))) := Fr.set rfl
  have G4 := G3.set (u2 := min (u + 1) 16) (x2 := (x + 1) % 16) (by omega) (Nat.mod_lt _ (by omega))
  have F4 : Fr (fun a => a = P) ((h1.set (P + 2) (.inl (0, 16, .inl (upd kd x kn)))).set P (.inr (2, pasF P (nI u) (nI ((x + 1) % 16))))) (((h1.set (P + 2) (.inl (0, 16, .inl (upd kd x kn)))).set P (.inr (2, pasF P (nI u) (nI ((x + 1) % 16))))).set P (.inr (2, pasF P (nI (min (u + 1) 16)) (nI ((x + 1) % 16))))) := Fr.set rfl
  refine ⟨_, ?_, G4, (((Q1.fr F2 (fun a _ _ z => by omega)).fr F3 (fun a _ _ z => by omega)).fr F4 (fun a _ _ z => by omega)), (((F1.mono (fun y hy => by show P ≤ y ∧ _; rcases hy with hy | hy <;> omega)).tr (F2.mono (fun y hy => by show P ≤ y ∧ _; omega))).tr (F3.mono (fun y hy => by show P ≤ y ∧ _; omega))).tr (F4.mono (fun y hy => by show P ≤ y ∧ _; omega))⟩
  have t16 : (16 : Int32).toInt = 16 := by decide
  have em : (if (16 : Int32) < nI u + (1 : Int32) then (16 : Int32) else nI u + (1 : Int32)) = nI (min (u + 1) 16) := by
    rw [nI_p1]
    by_cases q : u + 1 ≤ 16
    · rw [if_neg (fun z => by have := tilt.mp z; omega)]; congr 1; omega
    · rw [if_pos (tilt.mpr (by omega))]; exact congrArg nI (show 16 = min (u + 1) 16 by omega)
  unfold Past_keep
  rw [if_pos (isO_of H.2.2.1), H.g1]
  simp only [Option.bind_some]
  rw [if_neg (fun z => by have := tilt.mp z; rw [tx, ti0] at this; omega), if_pos (tilt.mpr (by omega))]
  unfold Past_keep_21
  rw [(H.row hx).1, H.g1]
  simp only [Option.bind_some]
  rw [(H.row hx).2]
  simp only [Option.bind_some]
  rw [e1]
  simp only [Option.bind_some]
  rw [G1.g3, G1.g1]
  simp only [Option.bind_some]
  rw [G1.sk hx]
  simp only [Option.bind_some]
  rw [G2.g1]
  simp only [Option.bind_some]
  rw [nI_p1, show (16 : Int32) = nI 16 from rfl, rmI_n (by omega) (by omega) (by decide)]
  simp only [Option.bind_some]
  rw [G2.p1]
  simp only [Option.bind_some]
  rw [G3.g0]
  simp only [Option.bind_some]
  rw [show (nI 16) = (16 : Int32) from rfl, em, G3.p0]
  rfl
theorem Past_takeBack_v {C C2 : Nat → Nat} {D D2 : Nat → Po} {T n s w j : Nat} {fo mo ah : Int32} {ss sc : Nat → Int32} {tx : Nat → Option Nat} (H : PaA h P (u + 1) x kd) (HR : RwsA h (P + 3) 16 C D) (HT : TbA h T n s w fo mo ah ss sc tx) (HQ : RwsA h (T + 5) 6 C2 D2) (ha : T + 17 ≤ P ∨ P + 35 ≤ T) (hj : j < n) (hn : (D ((x + 15) % 16)).2.2.2 = nI j) : ∃ h2, Past_takeBack P T h = some (kd ((x + 15) % 16), h2) ∧ PaA h2 P u ((x + 15) % 16) kd ∧ RwsA h2 (T + 5) 6 (up1 C2 j (C ((x + 15) % 16))) (up1 D2 j (D ((x + 15) % 16))) ∧ Fr (fun a => a = P ∨ taP T a) h h2 := by
  have hu := H.1
  have hx := H.2.1
  have hn6 := HT.1
  generalize hy : (x + 15) % 16 = y at *
  have hy16 : y < 16 := by rw [← hy]; exact Nat.mod_lt _ (by omega)
  have ty := tin (show y < 2 ^ 31 by omega)
  have tj := tin (show j < 2 ^ 31 by omega)
  have tu := tin (show u < 2 ^ 31 by omega)
  have G1 := H.set (u2 := u + 1) (x2 := y) hu hy16
  have F1 : Fr (fun a => a = P) h (h.set P (.inr (2, pasF P (nI (u + 1)) (nI y)))) := Fr.set rfl
  have G2 := G1.set (u2 := u) (x2 := y) (by omega) hy16
  have F2 : Fr (fun a => a = P) (h.set P (.inr (2, pasF P (nI (u + 1)) (nI y)))) ((h.set P (.inr (2, pasF P (nI (u + 1)) (nI y)))).set P (.inr (2, pasF P (nI u) (nI y)))) := Fr.set rfl
  have F12 := F1.tr F2
  have R2 := HR.fr F12 (fun a _ _ z => by omega)
  have T2 := HT.fr F12 (fun a _ _ z => by omega)
  have Q2 := HQ.fr F12 (fun a _ _ z => by omega)
  obtain ⟨h3, e3, R3, F3⟩ := (Q2 j (by omega)).copy (R2 y hy16) (show apt (T + 5 + 2 * j) (P + 3 + 2 * y) from ⟨by omega, by omega, by omega⟩)
  have G3 := G2.fr F3 (fun a _ _ z => by rcases z with z | z <;> omega)
  refine ⟨h3, ?_, G3, Q2.up F3 R3, (F12.mono (fun a ha => Or.inl ha)).tr (F3.mono (fun a hz => Or.inr (by show T ≤ a ∧ _; rcases hz with hz | hz <;> omega)))⟩
  have e0 : (nI x + (16 : Int32)) - (1 : Int32) = nI (x + 15) := by
    rw [show (16 : Int32) = nI 16 from rfl, nI_add, show (1 : Int32) = nI 1 from rfl, pk_sub (by omega)]; congr 1
  have eu : (if nI (u + 1) - (1 : Int32) < (0 : Int32) then (0 : Int32) else nI (u + 1) - (1 : Int32)) = nI u := by
    rw [show (1 : Int32) = nI 1 from rfl, pk_sub (by omega), if_neg (fun z => by have := tilt.mp z; rw [show u + 1 - 1 = u by omega, tu, ti0] at this; omega)]; congr 1
  unfold Past_takeBack
  rw [if_pos (isO_of H.2.2.1), H.g1]
  simp only [Option.bind_some]
  rw [e0, show (16 : Int32) = nI 16 from rfl, rmI_n (by omega) (by omega) (by decide), hy]
  simp only [Option.bind_some]
  rw [H.p1]
  simp only [Option.bind_some]
  rw [G1.g0]
  simp only [Option.bind_some]
  rw [eu, G1.p0]
  simp only [Option.bind_some]
  rw [G2.g1]
  simp only [Option.bind_some]
  rw [if_pos (tile.mpr (by rw [ti0, ty]; omega)), (G2.row hy16).1]
  simp only [Option.bind_some]
  rw [(G2.row hy16).2]
  simp only [Option.bind_some]
  rw [(R2 y hy16).g4, hn]
  simp only [Option.bind_some]
  rw [Table_at_v T2, if_pos (by omega), tj]
  simp only [Option.bind_some]
  rw [if_neg (by simp), show (j : Int).toNat = j by omega, e3]
  simp only [Option.bind_some]
  rw [G3.g3, G3.g1]
  simp only [Option.bind_some]
  rw [G3.ak hy16]
  rfl
end PastP
def crd (f : Nat → Int32) (m : Nat) : Prop := ∀ i, i < m → 0 ≤ (f i).toInt ∧ (f i).toInt ≤ 13
theorem Tape_holds_l {h : am_H} {f : Nat → Int32} {t k p x : Int32} {m : Nat} (H : TapA h f t k p x) (hm : m ≤ 13) : ∀ (n i : Nat), i + n = m → ((∀ j, i ≤ j → j < m → 0 ≤ (f j).toInt ∧ (f j).toInt ≤ 13) → Tape_holdsCards_15 1 (nI m) (nI i) h = some 1) ∧ (¬ (∀ j, i ≤ j → j < m → 0 ≤ (f j).toInt ∧ (f j).toInt ≤ 13) → Tape_holdsCards_15 1 (nI m) (nI i) h = some 0) := by
  obtain ⟨H1, H2⟩ := H
  have tm := tin (show m < 2 ^ 31 by omega)
  have t13 : (13 : Int32).toInt = 13 := by decide
  have g0 : gR h 8 1 0 = some 2 := by unfold gR; rw [ob_of H1]; rfl
  intro n
  induction n with
  | zero =>
    intro i hi
    have ti := tin (show i < 2 ^ 31 by omega)
    constructor
    · intro _; rw [Tape_holdsCards_15_e, if_pos (tile.mpr (by omega))]
    · intro z; exact absurd (fun j h1 h2 => absurd h2 (by omega)) z
  | succ n ih =>
    intro i hi
    have ti := tin (show i < 2 ^ 31 by omega)
    have a1 : aI h 1 2 (nI i) = some (f i) := by unfold aI; rw [arI_of H2]; simp only [Option.bind_some]; rw [if_pos (by omega), ti]; rfl
    have ih := ih (i + 1) (by omega)
    rw [Tape_holdsCards_15_e, if_neg (fun z => by have := tile.mp z; omega), g0]
    simp only [Option.bind_some]
    rw [a1]
    simp only [Option.bind_some]
    constructor
    · intro z
      have := z i (by omega) (by omega)
      rw [if_neg (fun y => by have := tilt.mp y; rw [ti0] at this; omega), if_pos (tile.mpr (by omega)), nI_p1]
      exact ih.1 (fun j h1 h2 => z j (by omega) h2)
    · intro z
      by_cases q1 : f i < 0
      · rw [if_pos q1]
      · rw [if_neg q1]
        by_cases q2 : f i ≤ 13
        · rw [if_pos q2, nI_p1]
          refine ih.2 (fun y => z (fun j h1 h2 => ?_))
          by_cases e : j = i
          · subst e; have := tile.mp q2; have := mt tilt.mpr q1; rw [ti0] at this; omega
          · exact y j (by omega) h2
        · rw [if_neg q2]
theorem Tape_holdsCards_v {h : am_H} {f : Nat → Int32} {t k p x : Int32} {m : Nat} (H : TapA h f t k p x) (hm : m ≤ 400) : (1 ≤ m ∧ m ≤ 13 ∧ crd f m → Tape_holdsCards 1 (nI m) h = some 1) ∧ (¬ (1 ≤ m ∧ m ≤ 13 ∧ crd f m) → Tape_holdsCards 1 (nI m) h = some 0) := by
  have tm := tin (show m < 2 ^ 31 by omega)
  have t13 : (13 : Int32).toInt = 13 := by decide
  unfold Tape_holdsCards
  rw [if_pos (isO_of H.1)]
  by_cases q1 : m = 0
  · subst q1
    exact ⟨fun z => by omega, fun _ => by rw [if_pos (by decide)]⟩
  · rw [if_neg (fun z => by have := tilt.mp z; rw [tm, ti1] at this; omega)]
    by_cases q2 : m ≤ 13
    · rw [if_pos (tile.mpr (by omega))]
      have := Tape_holds_l H q2 m 0 (by omega)
      exact ⟨fun z => this.1 (fun j _ hj => z.2.2 j hj), fun z => this.2 (fun y => z ⟨by omega, q2, fun j hj => y j (by omega) hj⟩)⟩
    · rw [if_neg (fun z => by have := tile.mp z; omega)]
      exact ⟨fun z => by omega, fun _ => rfl⟩
