/-! PURE: reading behind writing; the class's objects at their places; its simple methods -/
theorem ob_ne {h : am_H} {b ci a : Nat} {e : va_E} (hn : a ≠ b) : ob (h.set b e) ci a = ob h ci a := by unfold ob; rw [List.getElem?_set_ne (Ne.symm hn)]
theorem ob_eq {h : am_H} {b ci : Nat} {fs : List Value} (hl : b < h.length) : ob (h.set b (.inr (ci, fs))) ci b = some fs := ob_of (List.getElem?_set_self hl)
theorem arI_ne {h : am_H} {b t a : Nat} {e : va_E} (hn : a ≠ b) : arI (h.set b e) t a = arI h t a := by unfold arI; rw [List.getElem?_set_ne (Ne.symm hn)]
theorem arI_eq {h : am_H} {b t n : Nat} {f : Nat → Int32} (hl : b < h.length) : arI (h.set b (.inl (t, n, .inl f))) t b = some (n, f) := arI_of (List.getElem?_set_self hl)
theorem arJ_ne {h : am_H} {b a : Nat} {e : va_E} (hn : a ≠ b) : arJ (h.set b e) a = arJ h a := by unfold arJ; rw [List.getElem?_set_ne (Ne.symm hn)]
theorem arJ_eq {h : am_H} {b n : Nat} {f : Nat → Int64} (hl : b < h.length) : arJ (h.set b (.inl (3, n, .inr (.inl f)))) b = some (n, f) := arJ_of (List.getElem?_set_self hl)
theorem arN_ne {h : am_H} {b t a : Nat} {e : va_E} (hn : a ≠ b) : arN (h.set b e) t a = arN h t a := by unfold arN; rw [List.getElem?_set_ne (Ne.symm hn)]
theorem arN_eq {h : am_H} {b t n : Nat} {f : Nat → Option Nat} (hl : b < h.length) : arN (h.set b (.inl (t, n, .inr (.inr (.inr (.inr f)))))) t b = some (n, f) := arN_of (List.getElem?_set_self hl)
theorem aL_ne {h : am_H} {b a : Nat} {e : va_E} (hn : a ≠ b) : aL (h.set b e) a = aL h a := by unfold aL; rw [List.getElem?_set_ne (Ne.symm hn)]
theorem aL_of {h : am_H} {a t n : Nat} {x : (Nat → Int32) ⊕ (Nat → Int64) ⊕ (Nat → UInt32) ⊕ (Nat → UInt64) ⊕ (Nat → Option Nat)} (e : h[a]? = some (.inl (t, n, x))) (ht : t < 7) : aL h a = some (Int32.ofNat n) := by unfold aL; rw [e]; exact if_pos ht
abbrev topF (rf rs : Int32) : List Value := [.ref 1, .ref 3, .ref 20, .ref 55, .ref 56, .ref 91, .ref 99, .ref 102, .ref 156, .ref 168, .ref 171, .ref 174, .ref 176, .int rf, .int rs]
abbrev tapF (t k p x : Int32) : List Value := [.ref 2, .int t, .int k, .int p, .int x]
theorem Top_end_t {h : am_H} {rf rs t k p nx : Int32} (H0 : h[0]? = some (.inr (11, topF rf rs))) (H1 : h[1]? = some (.inr (8, tapF t k p nx))) (x : Int32) : Top_end 0 x h = some (if x < 0 then (-1, h) else if x ≤ t then (x, h.set 1 (.inr (8, tapF x k p nx))) else (-1, h)) := by
  simp only [Top_end, isO, gR, gI, pV, ob_of H0, ob_of H1, vR, vI, Option.bind_some, Option.isSome_some, topF, tapF, List.getElem?_cons_succ, List.getElem?_cons_zero, ↓reduceIte, List.length_cons, List.length_nil, List.set_cons_succ, List.set_cons_zero, Nat.reduceAdd, Nat.reduceLT]
  split
  · rfl
  · split <;> rfl
theorem Top_refuse_t {h : am_H} {rf rs : Int32} {g : Nat → Int32} (hL : 177 ≤ h.length) (H0 : h[0]? = some (.inr (11, topF rf rs))) (H1 : h[176]? = some (.inl (0, 7, .inl g))) (c : Nat) (hc : 1 ≤ c) (hc2 : c ≤ 6) (x : Int32) (hx : x.toInt = -(c : Int)) : Top_refuse 0 x h = some (x, (h.set 0 (.inr (11, topF rf x))).set 176 (.inl (0, 7, .inl (upd g c (g c + 1))))) := by
  have tx : (-x).toInt = c := by rw [Int32.toInt_neg, hx, Int.bmod_def]; omega
  simp (disch := omega) only [Top_refuse, isO, gR, gI, pV, aI, sI, ob_of H0, arI_of H1, ob_ne, ob_eq, arI_ne, arI_eq, vR, vI, Option.bind_some, Option.isSome_some, topF, tapF, List.getElem?_cons_succ, List.getElem?_cons_zero, ↓reduceIte, List.length_cons, List.length_nil, List.set_cons_succ, List.set_cons_zero, Nat.reduceAdd, Nat.reduceLT, tile, tilt, hx, tx, Int32.reduceToInt, if_pos, if_neg, Int.toNat_natCast]
