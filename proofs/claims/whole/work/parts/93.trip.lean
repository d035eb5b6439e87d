/-! PURE: a text copied into new cells -/
/-- the cells h, an object behind them, and rows behind it -/
def kC (h : am_H) (o : List Value) (l : List va_E) : am_H := h ++ (.inr (9, o) :: l)
theorem kC_lo {h : am_H} {o : List Value} {l : List va_E} {x : Nat} (hx : x < h.length) : (kC h o l)[x]? = h[x]? := List.getElem?_append_left hx
theorem kC_o {h : am_H} {o : List Value} {l : List va_E} : (kC h o l)[h.length]? = some (.inr (9, o)) := by
  unfold kC
  rw [List.getElem?_append_right (Nat.le_refl _), Nat.sub_self]; rfl
theorem kC_len {h : am_H} {o : List Value} {l : List va_E} : (kC h o l).length = h.length + 1 + l.length := by
  unfold kC
  rw [List.length_append, List.length_cons]; omega
theorem kC_last {h : am_H} {o o2 : List Value} {l : List va_E} {e : va_E} : (kC h o (l ++ [e]))[(kC h o2 l).length]? = some e := by
  rw [kC_len]
  unfold kC
  rw [List.getElem?_append_right (by omega), show h.length + 1 + l.length - h.length = l.length + 1 by omega, List.getElem?_cons_succ, List.getElem?_append_right (Nat.le_refl _), Nat.sub_self]; rfl
theorem kC_at {h : am_H} {o : List Value} {l : List va_E} (k : Nat) : (kC h o l)[h.length + (k + 1)]? = l[k]? := by
  unfold kC
  rw [List.getElem?_append_right (by omega), show h.length + (k + 1) - h.length = k + 1 by omega, List.getElem?_cons_succ]
theorem kC_p {h : am_H} {o : List Value} {l : List va_E} {k : Nat} (hk : k < o.length) (v : Value) : pV (kC h o l) 9 h.length k v = some (kC h (o.set k v) l) := by
  unfold pV
  rw [ob_of kC_o]
  show (if k < o.length then _ else _) = _
  rw [if_pos hk]
  refine congrArg some ?_
  unfold kC
  rw [List.set_append_right _ _ (Nat.le_refl _), Nat.sub_self]; rfl
theorem kC_gI {h : am_H} {o : List Value} {l : List va_E} {k : Nat} {x : Int32} (hx : o[k]? = some (.int x)) : gI (kC h o l) 9 h.length k = some x := by
  unfold gI
  rw [ob_of kC_o]
  show vI o[k]? = _
  rw [hx]; rfl
theorem kC_gR {h : am_H} {o : List Value} {l : List va_E} {k x : Nat} (hx : o[k]? = some (.ref x)) : gR (kC h o l) 9 h.length k = some x := by
  unfold gR
  rw [ob_of kC_o]
  show vR o[k]? = _
  rw [hx]; rfl
theorem kC_n {h : am_H} {o : List Value} {l : List va_E} {m : Nat} (hm : m ≤ 1000000) : nA (kC h o l) 0 (nI m) = some (kC h o (l ++ [.inl (0, m, .inl (fun _ => 0))])) := by
  have tm := tin (show m < 2 ^ 31 by omega)
  unfold nA
  rw [if_pos (by omega), tm, show ((m : Nat) : Int).toNat = m by omega]
  refine congrArg some ?_
  unfold kC
  rw [List.append_assoc, List.cons_append]; rfl
theorem kC_set {h : am_H} {o o2 : List Value} {l : List va_E} {e e2 : va_E} : (kC h o (l ++ [e])).set (kC h o2 l).length e2 = kC h o (l ++ [e2]) := by
  rw [kC_len]
  unfold kC
  rw [List.set_append_right _ _ (by omega), show h.length + 1 + l.length - h.length = l.length + 1 by omega, List.set_cons_succ, List.set_append_right _ _ (Nat.le_refl _), Nat.sub_self]; rfl
theorem kC_c {h : am_H} {o o2 : List Value} {l : List va_E} {m M a : Nat} {f g : Nat → Int32} (ha : h[a]? = some (.inl (0, M, .inl f))) (hm : m ≤ M) (hm2 : m < 2 ^ 31) : cpy (kC h o (l ++ [.inl (0, m, .inl g)])) a (0 : Int32) (kC h o2 l).length (0 : Int32) (nI m) = some (kC h o (l ++ [.inl (0, m, .inl (va_cpy f g 0 0 m))])) := by
  have tm := tin hm2
  unfold cpy
  rw [arI_of ((kC_lo (len_of ha)).trans ha), arI_of kC_last]
  simp only [Option.bind_some]
  rw [if_pos (by rw [ti0, tm]; omega), ti0, tm, show ((m : Nat) : Int).toNat = m by omega, kC_set]; rfl
section Copy
variable {h : am_H} {a n c nC nK : Nat} {al : Int32} {cf kf sf tf mf : Nat → Int32}
theorem Text_trimmed_v (H : TxA h a n c nC nK al cf kf sf tf mf) (hal : al = 0 ∨ al = 1) (hl : 98 < h.length) : ∃ cf2 kf2 sf2 tf2 mf2, Text_trimmed a h = some (h.length, kC h (texF h.length (nI n) (nI c) al) [.inl (0, n, .inl cf2), .inl (0, c, .inl kf2), .inl (0, c * 3, .inl sf2), .inl (0, c, .inl tf2), .inl (0, c, .inl mf2)]) ∧ (∀ i, i < n → cf2 i = cf i) ∧ (∀ i, i < c → kf2 i = kf i) ∧ (∀ i, i < c * 3 → sf2 i = sf i) ∧ (∀ i, i < c → tf2 i = tf i) ∧ (∀ i, i < c → mf2 i = mf i) := by
  have h1 := H.1; have h2 := H.2.1; have h3 := H.2.2.1; have h4 := H.2.2.2.1
  obtain ⟨_, _, _, _, _, r0, r1, r2, r3, r4, r5⟩ := H
  have tn := tin (show n < 2 ^ 31 by omega)
  have tC := tin (show nC < 2 ^ 31 by omega)
  have tc := tin (show c < 2 ^ 31 by omega)
  have t12 : (12 : Int32).toInt = 12 := by decide
  have m1 : (if nI nC < nI n then nI nC else nI n) = nI n := by
    by_cases q : nC < n
    · omega
    · rw [if_neg (fun z => by have := tilt.mp z; omega)]
  have m2 : (if (0 : Int32) < nI n then nI n else 0) = nI n := by
    by_cases q : 0 < n
    · rw [if_pos (tilt.mpr (by rw [ti0]; omega))]
    · obtain rfl : n = 0 := by omega
      rfl
  have m3 : (if (12 : Int32) < nI c then (12 : Int32) else nI c) = nI c := by rw [if_neg (fun z => by have := tilt.mp z; omega)]
  have m4 : (if (0 : Int32) < nI c then nI c else 0) = nI c := by
    by_cases q : 0 < c
    · rw [if_pos (tilt.mpr (by rw [ti0]; omega))]
    · obtain rfl : c = 0 := by omega
      rfl
  have G : ∀ o l, (kC h o l)[a]? = some (.inr (9, texF a (nI n) (nI c) al)) := fun o l => (kC_lo (len_of r0)).trans r0
  have gi1 : ∀ o l, gI (kC h o l) 9 a 1 = some (nI n) := fun o l => by unfold gI; rw [ob_of (G o l)]; rfl
  have gi2 : ∀ o l, gI (kC h o l) 9 a 2 = some (nI c) := fun o l => by unfold gI; rw [ob_of (G o l)]; rfl
  have gi8 : ∀ o l, gI (kC h o l) 9 a 8 = some al := fun o l => by unfold gI; rw [ob_of (G o l)]; rfl
  have gr0 : ∀ o l, gR (kC h o l) 9 a 0 = some (a + 1) := fun o l => by unfold gR; rw [ob_of (G o l)]; rfl
  have gr3 : ∀ o l, gR (kC h o l) 9 a 3 = some (a + 2) := fun o l => by unfold gR; rw [ob_of (G o l)]; rfl
  have gr4 : ∀ o l, gR (kC h o l) 9 a 4 = some (a + 3) := fun o l => by unfold gR; rw [ob_of (G o l)]; rfl
  have gr5 : ∀ o l, gR (kC h o l) 9 a 5 = some (a + 4) := fun o l => by unfold gR; rw [ob_of (G o l)]; rfl
  have gr6 : ∀ o l, gR (kC h o l) 9 a 6 = some (a + 5) := fun o l => by unfold gR; rw [ob_of (G o l)]; rfl
  have gr7 : ∀ o l, gR (kC h o l) 9 a 7 = some 98 := fun o l => by unfold gR; rw [ob_of (G o l)]; rfl
  have gl : ∀ o l, aL (kC h o l) (a + 1) = some (nI nC) := fun o l => aL_of ((kC_lo (len_of r1)).trans r1) (by decide)
  have nz : nrZ al = some al := if_pos hal
  have c3 : nI c * (3 : Int32) = nI (c * 3) := nI_3 c
  have key : ∃ cf2 kf2 sf2 tf2 mf2, Text_init_ h.length a (kC h [.null, .int 0, .int 0, .null, .null, .null, .null, .null, .int 0] []) = some (kC h (texF h.length (nI n) (nI c) al) [.inl (0, n, .inl cf2), .inl (0, c, .inl kf2), .inl (0, c * 3, .inl sf2), .inl (0, c, .inl tf2), .inl (0, c, .inl mf2)]) ∧ (∀ i, i < n → cf2 i = cf i) ∧ (∀ i, i < c → kf2 i = kf i) ∧ (∀ i, i < c * 3 → sf2 i = sf i) ∧ (∀ i, i < c → tf2 i = tf i) ∧ (∀ i, i < c → mf2 i = mf i) := by
    have cp : ∀ (f : Nat → Int32) (m i : Nat), i < m → va_cpy f (fun _ => 0) 0 0 m i = f i := fun f m i hi => by
      show (if _ then _ else _) = _
      rw [if_pos (by omega)]
      exact congrArg f (by omega)
    refine ⟨va_cpy cf (fun _ => 0) 0 0 n, va_cpy kf (fun _ => 0) 0 0 c, va_cpy sf (fun _ => 0) 0 0 (c * 3), va_cpy tf (fun _ => 0) 0 0 c, va_cpy mf (fun _ => 0) 0 0 c, ?_, cp cf n, cp kf c, cp sf (c * 3), cp tf c, cp mf c⟩
    unfold Text_init_
    rw [if_pos (isO_of kC_o), gi1, gr0]
    simp only [Option.bind_some]
    rw [gl]
    simp only [Option.bind_some]
    rw [m1, m2, kC_p (by decide)]
    simp only [Option.bind_some]
    rw [gi2]
    simp only [Option.bind_some]
    rw [m3, m4, kC_p (by rw [List.length_set]; decide)]
    simp only [Option.bind_some]
    rw [kC_gI (x := nI n) rfl]
    simp only [Option.bind_some]
    rw [kC_n (by omega)]
    simp only [Option.bind_some]
    rw [kC_p (by simp only [List.length_set, List.length_cons, List.length_nil]; decide)]
    simp only [Option.bind_some]
    rw [gr0, kC_gR rfl, kC_gI (x := nI n) rfl]
    simp only [Option.bind_some]
    rw [kC_c r1 (by omega) (by omega)]
    simp only [Option.bind_some]
    rw [kC_gI (x := nI c) rfl]
    simp only [Option.bind_some]
    rw [kC_n (by omega)]
    simp only [Option.bind_some]
    rw [kC_p (by simp only [List.length_set, List.length_cons, List.length_nil]; decide)]
    simp only [Option.bind_some]
    rw [gr3, kC_gR rfl, kC_gI (x := nI c) rfl]
    simp only [Option.bind_some]
    rw [kC_c r2 (by omega) (by omega)]
    simp only [Option.bind_some]
    rw [kC_gI (x := nI c) rfl]
    simp only [Option.bind_some]
    rw [c3, kC_n (by omega)]
    simp only [Option.bind_some]
    rw [kC_p (by simp only [List.length_set, List.length_cons, List.length_nil]; decide)]
    simp only [Option.bind_some]
    rw [gr4, kC_gR rfl, kC_gI (x := nI c) rfl]
    simp only [Option.bind_some]
    rw [c3, kC_c r3 (by omega) (by omega)]
    simp only [Option.bind_some]
    rw [kC_gI (x := nI c) rfl]
    simp only [Option.bind_some]
    rw [kC_n (by omega)]
    simp only [Option.bind_some]
    rw [kC_p (by simp only [List.length_set, List.length_cons, List.length_nil]; decide)]
    simp only [Option.bind_some]
    rw [gr5, kC_gR rfl, kC_gI (x := nI c) rfl]
    simp only [Option.bind_some]
    rw [kC_c r4 (by omega) (by omega)]
    simp only [Option.bind_some]
    rw [kC_gI (x := nI c) rfl]
    simp only [Option.bind_some]
    rw [kC_n (by omega)]
    simp only [Option.bind_some]
    rw [kC_p (by simp only [List.length_set, List.length_cons, List.length_nil]; decide)]
    simp only [Option.bind_some]
    rw [gr6, kC_gR rfl, kC_gI (x := nI c) rfl]
    simp only [Option.bind_some]
    rw [kC_c r5 (by omega) (by omega)]
    simp only [Option.bind_some]
    rw [gr7]
    simp only [Option.bind_some]
    rw [kC_p (by simp only [List.length_set, List.length_cons, List.length_nil]; decide)]
    simp only [Option.bind_some]
    rw [gi8]
    simp only [Option.bind_some]
    rw [nz]
    simp only [Option.bind_some]
    rw [kC_p (by simp only [List.length_set, List.length_cons, List.length_nil]; decide)]
    simp only [Option.bind_some]
    refine congrArg some ?_
    simp only [kC_len, List.length_nil, List.length_cons, List.length_append, List.nil_append, List.cons_append]
    rfl
  obtain ⟨cf2, kf2, sf2, tf2, mf2, e, rest⟩ := key
  refine ⟨cf2, kf2, sf2, tf2, mf2, ?_, rest⟩
  unfold Text_trimmed
  rw [if_pos (isO_of r0)]
  simp only [Option.bind_some]
  rw [show h ++ [Sum.inr (9, [Value.null, .int 0, .int 0, .null, .null, .null, .null, .null, .int 0])] = kC h [.null, .int 0, .int 0, .null, .null, .null, .null, .null, .int 0] [] from rfl, e]
  rfl
end Copy
