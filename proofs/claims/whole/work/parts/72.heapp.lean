/-! PURE: heaps laid; the tape -/
section AddHeap
variable {T n s w : Nat} {fo mo ah : Int32} {ss sc : Nat → Int32} {tx : Nat → Option Nat} {v : Nat} {f : Nat → Int32}
theorem Table_addHeap_l {c m r : Nat} {l nm : Int32} (hr : r = T + 5 + 2 * n) (hn : n < 6) (hv : v < T ∨ T + 17 ≤ v) (hm : m ≤ 13) : ∀ (k i : Nat) (h : am_H) (g : Nat → Int32), i + k = m → TbA h T n s w fo mo ah ss sc tx → h[v]? = some (.inl (1, 400, .inl f)) → RwA h r c g m l nm → (∀ j, j < i → g j = f j) → ∃ h2, Table_addHeap_46 T v r (nI i) h = some (nI n, h2) ∧ TbA h2 T (n + 1) s w fo mo ah ss sc tx ∧ RowAt h2 r 0 (f, m, 0, nI n) ∧ Fr (fun a => a = T ∨ a = r ∨ a = r + 1) h h2 := by
  intro k
  induction k with
  | zero =>
    intro i h g hk HT HV HR he
    obtain rfl : i = m := by omega
    have ti := tin (show i < 2 ^ 31 by omega)
    rw [Table_addHeap_46_e, HR.g1]
    simp only [Option.bind_some]
    rw [if_pos (tile.mpr (by omega))]
    obtain ⟨h1, e1, R1, F1⟩ := HR.p2 0
    rw [show pV h 4 r 2 (.int (0 : Int32)) = some h1 from e1]
    simp only [Option.bind_some]
    obtain ⟨h2, e2, R2, F2⟩ := R1.p3 0
    rw [e2]
    simp only [Option.bind_some]
    have F12 := F1.tr F2
    have T2 := HT.fr F12 (fun a _ _ z => by rcases z with z | z <;> omega)
    have k2 := ob_of T2.2.2.2.1
    obtain ⟨h3, e3, R3, F3⟩ := R2.p4 (nI n)
    have F13 := F12.tr F3
    have T3 := HT.fr F13 (fun a _ _ z => by rcases z with z | z <;> omega)
    have k3 := ob_of T3.2.2.2.1
    have F4 : Fr (fun a => a = T) h3 (h3.set T (.inr (7, tabF T (nI (n + 1)) (nI s) (nI w) fo mo ah))) := Fr.set rfl
    have R4 := R3.fr F4 (by omega) (by omega)
    have k4 := R4.g4
    refine ⟨h3.set T (.inr (7, tabF T (nI (n + 1)) (nI s) (nI w) fo mo ah)), ?_, T3.set (by omega) HT.2.1 HT.2.2.1, R4.at2 (fun j hj => he j hj), (F13.mono (fun x hx => by rcases hx with hx | hx <;> simp [hx])).tr (F4.mono (fun x hx => Or.inl hx))⟩
    have q2 : gI h2 7 T 0 = some (nI n) := by unfold gI; rw [k2]; rfl
    have q3 : gI h3 7 T 0 = some (nI n) := by unfold gI; rw [k3]; rfl
    have q5 : pV h3 7 T 0 (.int (nI n + (1 : Int32))) = some (h3.set T (.inr (7, tabF T (nI (n + 1)) (nI s) (nI w) fo mo ah))) := by
      unfold pV; rw [k3, nI_p1]; rfl
    rw [q2]
    simp only [Option.bind_some]
    rw [e3]
    simp only [Option.bind_some]
    rw [q3]
    simp only [Option.bind_some]
    rw [q5]
    simp only [Option.bind_some]
    rw [k4]
    rfl
  | succ k ih =>
    intro i h g hk HT HV HR he
    have ti := tin (show i < 2 ^ 31 by omega)
    have tm := tin (show m < 2 ^ 31 by omega)
    rw [Table_addHeap_46_e, HR.g1]
    simp only [Option.bind_some]
    rw [if_neg (fun z => by have := tile.mp z; omega), HR.g0]
    simp only [Option.bind_some]
    have q1 : aI h 1 v (nI i) = some (f i) := by unfold aI; rw [arI_of HV]; simp only [Option.bind_some]; rw [if_pos (by omega), ti]; rfl
    rw [q1]
    simp only [Option.bind_some]
    obtain ⟨h1, e1, R1, F1⟩ := HR.si (i := nI i) (by omega) (f i)
    rw [e1]
    simp only [Option.bind_some]
    rw [nI_p1]
    obtain ⟨h2, e2, g2, g3, F2⟩ := ih (i + 1) h1 _ (by omega) (HT.fr F1 (fun a _ _ z => by rcases z with z | z <;> omega)) ((F1 v (by rintro (z | z) <;> omega)).trans HV) R1 (fun j hj => by
      rw [ti]
      unfold upd
      by_cases q : j = (i : Int).toNat
      · rw [if_pos q]; congr 1; omega
      · rw [if_neg q]; exact he j (by omega))
    exact ⟨h2, e2, g2, g3, (F1.mono (fun x hx => by rcases hx with hx | hx <;> simp [hx])).tr F2⟩
theorem Table_addHeap_v {h : am_H} {m : Nat} {C : Nat → Nat} {D : Nat → Po} (hn : n < 6) (hv : v < T ∨ T + 17 ≤ v) (hm : m ≤ 13) (HT : TbA h T n s w fo mo ah ss sc tx) (HR : RwsA h (T + 5) 6 C D) (HV : h[v]? = some (.inl (1, 400, .inl f))) : ∃ h2, Table_addHeap T v (nI m) h = some (nI n, h2) ∧ TbA h2 T (n + 1) s w fo mo ah ss sc tx ∧ RwsA h2 (T + 5) 6 (up1 C n 0) (up1 D n (f, m, 0, nI n)) ∧ Fr (taP T) h h2 := by
  have HT0 := HT
  obtain ⟨a1, a2, a3, a4, ⟨fr, a5, a6⟩, a7, a8, a9⟩ := HT
  have tn := tin (show n < 2 ^ 31 by omega)
  have tm := tin (show m < 2 ^ 31 by omega)
  have t6 : (Int32.ofNat 6).toInt = 6 := by decide
  have t400 : (Int32.ofNat 400).toInt = 400 := by decide
  have e6 := a6 n hn
  obtain ⟨g, HR1, eg⟩ := HR n hn
  obtain ⟨h1, e1, R1, F1⟩ := HR1.p1 hm
  obtain ⟨h2, e2, g2, g3, F2⟩ := Table_addHeap_l (c := C n) (m := m) (r := T + 5 + 2 * n) (l := (D n).2.2.1) (nm := (D n).2.2.2) rfl hn hv hm m 0 h1 g (by omega) (HT0.fr F1 (fun a _ _ z => by rcases z with z | z <;> omega)) ((F1 v (by rintro (z | z) <;> omega)).trans HV) R1 (fun j hj => by omega)
  have FA : Fr (fun a => a = T ∨ a = T + 5 + 2 * n ∨ a = T + 5 + 2 * n + 1) h h2 := (F1.mono (fun x hx => by rcases hx with hx | hx <;> simp [hx])).tr F2
  refine ⟨h2, ?_, g2, fun j hj => ?_, FA.mono (fun x hx => by show T ≤ x ∧ _; omega)⟩
  · have ei : (if (0 : Int32) < (if (if Int32.ofNat 400 < (13 : Int32) then Int32.ofNat 400 else (13 : Int32)) < nI m then (if Int32.ofNat 400 < (13 : Int32) then Int32.ofNat 400 else (13 : Int32)) else nI m) then (if (if Int32.ofNat 400 < (13 : Int32) then Int32.ofNat 400 else (13 : Int32)) < nI m then (if Int32.ofNat 400 < (13 : Int32) then Int32.ofNat 400 else (13 : Int32)) else nI m) else (0 : Int32)) = nI m := by
      have x1 : (if Int32.ofNat 400 < (13 : Int32) then Int32.ofNat 400 else (13 : Int32)) = 13 := by decide
      have t13 : (13 : Int32).toInt = 13 := by decide
      rw [x1]
      have x2 : (if (13 : Int32) < nI m then (13 : Int32) else nI m) = nI m := if_neg (fun z => by have := tilt.mp z; omega)
      rw [x2]
      by_cases q : m = 0
      · subst q; rfl
      · rw [if_pos (tilt.mpr (by rw [tm, ti0]; omega))]
    have e2' : Table_addHeap_46 T v (T + 5 + 2 * n) (0 : Int32) h1 = some (nI n, h2) := e2
    unfold Table_addHeap
    rw [if_pos (isO_of a4)]
    have q0 : gI h 7 T 0 = some (nI n) := by unfold gI; rw [ob_of a4]; rfl
    have q6 : gR h 7 T 6 = some (T + 1) := by unfold gR; rw [ob_of a4]; rfl
    have qn : aN h 4 (T + 1) (nI n) = some (some (T + 5 + 2 * n)) := by unfold aN; rw [arN_of a5]; simp only [Option.bind_some]; rw [if_pos (by omega), tn]; exact congrArg some e6
    rw [q0]
    simp only [Option.bind_some]
    rw [q6]
    simp only [Option.bind_some]
    rw [aL_of a5 (by decide)]
    simp only [Option.bind_some]
    rw [if_pos (tilt.mpr (by omega)), qn]
    simp only [Option.bind_some]
    rw [aL_of HV (by decide)]
    simp only [Option.bind_some]
    rw [ei, e1]
    exact e2'
  · unfold up1
    by_cases q : j = n
    · subst q; rw [if_pos rfl, if_pos rfl]; exact g3
    · rw [if_neg q, if_neg q]
      exact (HR j hj).fr FA (by omega) (by omega)
end AddHeap
def TapA (h : am_H) (f : Nat → Int32) (t k p x : Int32) : Prop := h[1]? = some (.inr (8, tapF t k p x)) ∧ h[2]? = some (.inl (1, 400, .inl f))
section TapeP
variable {h : am_H} {f : Nat → Int32} {k p x : Int32}
def b8 (y s : Int32) : Int32 := vp_nar .byte ((Int32.toInt8 (y >>> (s &&& 31))).toInt32)
theorem Tape_add1 {t : Nat} (H : TapA h f (nI t) k p x) (ht : t < 400) (y s : Int32) (hs : ¬ s < 0) : ∃ h2, Tape_addFour_3 1 y s h = Tape_addFour_3 1 y (s + (-8)) h2 ∧ TapA h2 (upd f t (b8 y s)) (nI (t + 1)) k p x ∧ Fr (fun a => a = 1 ∨ a = 2) h h2 := by
  obtain ⟨H1, H2⟩ := H
  have tt := tin (show t < 2 ^ 31 by omega)
  have l1 := len_of H1
  have l2 := len_of H2
  refine ⟨(h.set 2 (.inl (1, 400, .inl (upd f t (b8 y s))))).set 1 (.inr (8, tapF (nI (t + 1)) k p x)), ?_, ⟨?_, ?_⟩, (Fr.set (Or.inr rfl)).tr (Fr.set (Or.inl rfl))⟩
  · rw [Tape_addFour_3_e, if_neg hs]
    simp (disch := (first | omega | (simp only [List.length_set]; omega))) only [sB, isO, gR, gI, gN, gJ, pV, aI, sI, aN, vR, vI, vN, vJ, Option.bind_some, Option.isSome_some, List.getElem?_cons_succ, List.getElem?_cons_zero, ↓reduceIte, List.length_cons, List.length_nil, List.set_cons_succ, List.set_cons_zero, Nat.reduceAdd, Nat.reduceLT, tile, tilt, Int32.reduceToInt, if_pos, if_neg, Int.toNat_natCast, ob_ne, ob_eq, arI_ne, arI_eq, arN_ne, arN_eq, ob_of H1, arI_of H2, tt, nI_p1, b8]
    rw [Tape_addFour_40_e]
  · exact set_at (e0 := .inr (8, tapF (nI t) k p x)) (by rw [List.getElem?_set_ne (by decide)]; exact H1)
  · rw [List.getElem?_set_ne (by decide)]; exact set_at H2
def put4 (f : Nat → Int32) (t : Nat) (y : Int32) : Nat → Int32 := upd (upd (upd (upd f t (b8 y 24)) (t + 1) (b8 y 16)) (t + 2) (b8 y 8)) (t + 3) (b8 y 0)
theorem Tape_addFour_v {t : Nat} (H : TapA h f (nI t) k p x) (ht : t ≤ 396) (y : Int32) : ∃ h2, Tape_addFour 1 y h = some h2 ∧ TapA h2 (put4 f t y) (nI (t + 4)) k p x ∧ Fr (fun a => a = 1 ∨ a = 2) h h2 := by
  obtain ⟨h1, e1, H1, F1⟩ := Tape_add1 H (by omega) y 24 (by decide)
  obtain ⟨h2, e2, H2, F2⟩ := Tape_add1 H1 (by omega) y 16 (by decide)
  obtain ⟨h3, e3, H3, F3⟩ := Tape_add1 H2 (by omega) y 8 (by decide)
  obtain ⟨h4, e4, H4, F4⟩ := Tape_add1 H3 (by omega) y 0 (by decide)
  refine ⟨h4, ?_, H4, ((F1.tr F2).tr F3).tr F4⟩
  unfold Tape_addFour
  rw [if_pos (isO_of H.1), e1]
  have x1 : (24 : Int32) + (-8) = 16 := by decide
  have x2 : (16 : Int32) + (-8) = 8 := by decide
  have x3 : (8 : Int32) + (-8) = 0 := by decide
  have x4 : (0 : Int32) + (-8) = -8 := by decide
  rw [x1, e2, x2, e3, x3, e4, x4, Tape_addFour_3_e, if_pos (by decide)]
end TapeP
