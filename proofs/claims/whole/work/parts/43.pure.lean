/-! PURE RUNS: what the code does to the picture's cells, as functions (printed by program, wip/whole/dec.py), and that the machine does the same -/
def ob (h : am_H) (ci a : Nat) : Option (List Value) := match h[a]? with
  | some (.inr (c, fs)) => if c = ci then some fs else none
  | _ => none
theorem ob_s {h : am_H} {ci a : Nat} {fs : List Value} (e : ob h ci a = some fs) : h[a]? = some (.inr (ci, fs)) := by
  unfold ob at e
  split at e
  · rename_i c fs2 hq
    by_cases hc : c = ci
    · rw [if_pos hc] at e; cases e; rw [hq, hc]
    · rw [if_neg hc] at e; cases e
  · cases e
theorem ob_of {h : am_H} {ci a : Nat} {fs : List Value} (e : h[a]? = some (.inr (ci, fs))) : ob h ci a = some fs := by
  unfold ob; rw [e]; exact if_pos rfl
def isO (h : am_H) (ci a : Nat) : Bool := (ob h ci a).isSome
theorem isO_s {h : am_H} {ci a : Nat} (e : isO h ci a = true) : ∃ fs, h[a]? = some (.inr (ci, fs)) := by
  unfold isO at e
  obtain ⟨fs, e2⟩ := Option.isSome_iff_exists.mp e
  exact ⟨fs, ob_s e2⟩
theorem isO_of {h : am_H} {ci a : Nat} {fs : List Value} (e : h[a]? = some (.inr (ci, fs))) : isO h ci a = true := by
  unfold isO; rw [ob_of e]; rfl
def vI : Option Value → Option Int32
  | some (.int x) => some x
  | _ => none
def vJ : Option Value → Option Int64
  | some (.long x) => some x
  | _ => none
def vR : Option Value → Option Nat
  | some (.ref a) => some a
  | _ => none
def vN : Option Value → Option (Option Nat)
  | some (.ref a) => some (some a)
  | some .null => some none
  | _ => none
theorem vI_s {o : Option Value} {x : Int32} (e : vI o = some x) : o = some (.int x) := by unfold vI at e; split at e <;> cases e; rfl
theorem vJ_s {o : Option Value} {x : Int64} (e : vJ o = some x) : o = some (.long x) := by unfold vJ at e; split at e <;> cases e; rfl
theorem vR_s {o : Option Value} {x : Nat} (e : vR o = some x) : o = some (.ref x) := by unfold vR at e; split at e <;> cases e; rfl
theorem vN_s {o : Option Value} {x : Option Nat} (e : vN o = some x) : o = some (va_rf x) := by unfold vN at e; split at e <;> cases e <;> rfl
def gI (h : am_H) (ci a k : Nat) : Option Int32 := (ob h ci a).bind fun fs => vI fs[k]?
def gJ (h : am_H) (ci a k : Nat) : Option Int64 := (ob h ci a).bind fun fs => vJ fs[k]?
def gR (h : am_H) (ci a k : Nat) : Option Nat := (ob h ci a).bind fun fs => vR fs[k]?
def gN (h : am_H) (ci a k : Nat) : Option (Option Nat) := (ob h ci a).bind fun fs => vN fs[k]?
def pV (h : am_H) (ci a k : Nat) (v : Value) : Option am_H := (ob h ci a).bind fun fs => if k < fs.length then some (h.set a (.inr (ci, fs.set k v))) else none
/-- rows of ints, bytes, truths: kind t -/
def arI (h : am_H) (t a : Nat) : Option (Nat × (Nat → Int32)) := match h[a]? with
  | some (.inl (c, n, .inl f)) => if c = t then some (n, f) else none
  | _ => none
def arJ (h : am_H) (a : Nat) : Option (Nat × (Nat → Int64)) := match h[a]? with
  | some (.inl (c, n, .inr (.inl f))) => if c = 3 then some (n, f) else none
  | _ => none
def arN (h : am_H) (t a : Nat) : Option (Nat × (Nat → Option Nat)) := match h[a]? with
  | some (.inl (c, n, .inr (.inr (.inr (.inr f))))) => if c = t then some (n, f) else none
  | _ => none
theorem arI_s {h : am_H} {t a : Nat} {p : Nat × (Nat → Int32)} (e : arI h t a = some p) : h[a]? = some (.inl (t, p.1, .inl p.2)) := by
  unfold arI at e
  split at e
  · rename_i c n f hq
    by_cases hc : c = t
    · rw [if_pos hc] at e; cases e; rw [hq, hc]
    · rw [if_neg hc] at e; cases e
  · cases e
theorem arI_of {h : am_H} {t a n : Nat} {f : Nat → Int32} (e : h[a]? = some (.inl (t, n, .inl f))) : arI h t a = some (n, f) := by
  unfold arI; rw [e]; exact if_pos rfl
theorem arJ_s {h : am_H} {a : Nat} {p : Nat × (Nat → Int64)} (e : arJ h a = some p) : h[a]? = some (.inl (3, p.1, .inr (.inl p.2))) := by
  unfold arJ at e
  split at e
  · rename_i c n f hq
    by_cases hc : c = 3
    · rw [if_pos hc] at e; cases e; rw [hq, hc]
    · rw [if_neg hc] at e; cases e
  · cases e
theorem arJ_of {h : am_H} {a n : Nat} {f : Nat → Int64} (e : h[a]? = some (.inl (3, n, .inr (.inl f)))) : arJ h a = some (n, f) := by
  unfold arJ; rw [e]; exact if_pos rfl
theorem arN_s {h : am_H} {t a : Nat} {p : Nat × (Nat → Option Nat)} (e : arN h t a = some p) : h[a]? = some (.inl (t, p.1, .inr (.inr (.inr (.inr p.2))))) := by
  unfold arN at e
  split at e
  · rename_i c n f hq
    by_cases hc : c = t
    · rw [if_pos hc] at e; cases e; rw [hq, hc]
    · rw [if_neg hc] at e; cases e
  · cases e
theorem arN_of {h : am_H} {t a n : Nat} {f : Nat → Option Nat} (e : h[a]? = some (.inl (t, n, .inr (.inr (.inr (.inr f)))))) : arN h t a = some (n, f) := by
  unfold arN; rw [e]; exact if_pos rfl
def aI (h : am_H) (t a : Nat) (i : Int32) : Option Int32 := (arI h t a).bind fun p => if inN i p.1 then some (p.2 i.toInt.toNat) else none
def aJ (h : am_H) (a : Nat) (i : Int32) : Option Int64 := (arJ h a).bind fun p => if inN i p.1 then some (p.2 i.toInt.toNat) else none
def aN (h : am_H) (t a : Nat) (i : Int32) : Option (Option Nat) := (arN h t a).bind fun p => if inN i p.1 then some (p.2 i.toInt.toNat) else none
def sI (h : am_H) (a : Nat) (i x : Int32) : Option am_H := (arI h 0 a).bind fun p => if inN i p.1 then some (h.set a (.inl (0, p.1, .inl (upd p.2 i.toInt.toNat x)))) else none
def sB (h : am_H) (a : Nat) (i x : Int32) : Option am_H := (arI h 1 a).bind fun p => if inN i p.1 then some (h.set a (.inl (1, p.1, .inl (upd p.2 i.toInt.toNat (vp_nar .byte x))))) else none
def sZ (h : am_H) (a : Nat) (i x : Int32) : Option am_H := (arI h 2 a).bind fun p => if inN i p.1 then some (h.set a (.inl (2, p.1, .inl (upd p.2 i.toInt.toNat (vp_nar .boolean x))))) else none
def sJ (h : am_H) (a : Nat) (i : Int32) (x : Int64) : Option am_H := (arJ h a).bind fun p => if inN i p.1 then some (h.set a (.inl (3, p.1, .inr (.inl (vp_updL p.2 i.toInt.toNat x))))) else none
def am_rc (t : Nat) : Nat := if t = 4 then 4 else if t = 5 then 7 else 9
def sN (h : am_H) (t a : Nat) (i : Int32) (v : Option Nat) : Option am_H := (arN h t a).bind fun p => if inN i p.1 ∧ (t = 4 ∨ t = 5 ∨ t = 6) ∧ (∀ b, v = some b → isO h (am_rc t) b = true) then some (h.set a (.inl (t, p.1, .inr (.inr (.inr (.inr (va_up p.2 i.toInt.toNat v))))))) else none
def aL (h : am_H) (a : Nat) : Option Int32 := match h[a]? with
  | some (.inl (t, x)) => if t < 7 then some (Int32.ofNat x.1) else none
  | _ => none
def nA (h : am_H) (t : Nat) (n : Int32) : Option am_H := if 0 ≤ n.toInt ∧ n.toInt ≤ 1000000 then some (h ++ [.inl (t, n.toInt.toNat, if t = 3 then .inr (.inl (fun _ => 0)) else if t < 3 then .inl (fun _ => 0) else .inr (.inr (.inr (.inr (fun _ => none)))))]) else none
def cpy (h : am_H) (a0 : Nat) (sp : Int32) (a1 : Nat) (dq k : Int32) : Option am_H := (arI h 0 a0).bind fun p => (arI h 0 a1).bind fun q => if 0 ≤ sp.toInt ∧ 0 ≤ dq.toInt ∧ 0 ≤ k.toInt ∧ sp.toInt + k.toInt ≤ p.1 ∧ dq.toInt + k.toInt ≤ q.1 then some (h.set a1 (.inl (0, q.1, .inl (va_cpy p.2 q.2 sp.toInt.toNat dq.toInt.toNat k.toInt.toNat)))) else none
def dvI (x y : Int32) : Option Int32 := if y = 0 then none else some (x / y)
def rmI (x y : Int32) : Option Int32 := if y = 0 then none else some (x - x / y * y)
def dvJ (x y : Int64) : Option Int64 := if y = 0 then none else some (x / y)
def rmJ (x y : Int64) : Option Int64 := if y = 0 then none else some (x - x / y * y)
def nr (ty : FieldType) (x : Int32) : Option Int32 := if narrow ty (.int x) = .int x then some x else none
theorem nr_s {ty : FieldType} {x y : Int32} (e : nr ty x = some y) : narrow ty (.int y) = .int y ∧ y = x := by
  unfold nr at e
  split at e
  · rename_i hq; cases e; exact ⟨hq, rfl⟩
  · cases e
def strL (i : Nat) : Option Int32 := if i < 11 then some (Int32.ofNat (am_len.getD i 0)) else none
def strB (i : Nat) (j : Int32) : Option Int32 := if i < 11 ∧ inN j (am_len.getD i 0) then some ((am_byt.getD i []).getD j.toInt.toNat 0) else none
def strO (i : Nat) : Option Unit := if i < 11 then some () else none
def rwsA (j : Int32) : Option Int32 := if inN j 8 then some (([1, 1, 2, 6, 24, 120, 720, 5040] : List Int32).getD j.toInt.toNat 0) else none
theorem ob2 {α β : Type} {o : Option α} {f : α → Option β} {r : β} (h : o.bind f = some r) : ∃ x, o = some x ∧ f x = some r := Option.bind_eq_some_iff.mp h
theorem ip {β : Type} {c : Prop} [Decidable c] {a b : Option β} {r : β} (q : c) (hb : (if c then a else b) = some r) : a = some r := (if_pos q).symm.trans hb
theorem iq {β : Type} {c : Prop} [Decidable c] {a b : Option β} {r : β} (q : ¬ c) (hb : (if c then a else b) = some r) : b = some r := (if_neg q).symm.trans hb
theorem iz {β : Type} {c : Prop} [Decidable c] {a : Option β} {r : β} (hb : (if c then a else none) = some r) : c ∧ a = some r := by
  by_cases q : c
  · exact ⟨q, ip q hb⟩
  · exact nomatch iq q hb
/-! the cells' slots -/
def slo : va_E → Nat
  | .inl (_, n, _) => n
  | .inr (_, fs) => fs.length
def sz (h : am_H) : Nat := (h.map slo).sum
theorem sz_push {h : am_H} {e : va_E} : sz (h ++ [e]) = sz h + slo e := by simp [sz]
theorem sz_set {h : am_H} {a : Nat} {e e0 : va_E} (h0 : h[a]? = some e0) (hs : slo e = slo e0) : sz (h.set a e) = sz h := by
  induction h generalizing a with
  | nil => simp at h0
  | cons x t ih =>
    cases a with
    | zero => simp at h0; subst h0; simp [sz, hs]
    | succ a =>
      have h1 : t[a]? = some e0 := by simpa using h0
      have := ih h1
      simp only [sz] at this
      simp only [sz, List.set_cons_succ, List.map_cons, List.sum_cons, this]
def Eqs (h h1 : am_H) : Prop := h1.length = h.length ∧ sz h1 = sz h
theorem Eqs.set {h : am_H} {a : Nat} {e e0 : va_E} (h0 : h[a]? = some e0) (hs : slo e = slo e0) : Eqs h (h.set a e) := ⟨List.length_set, sz_set h0 hs⟩
theorem pV_s {h h1 : am_H} {ci a k : Nat} {v : Value} (e : pV h ci a k v = some h1) : ∃ fs, h[a]? = some (.inr (ci, fs)) ∧ k < fs.length ∧ h1 = h.set a (.inr (ci, fs.set k v)) := by
  obtain ⟨fs, e1, e2⟩ := ob2 e
  obtain ⟨e3, e4⟩ := iz e2
  cases e4
  exact ⟨fs, ob_s e1, e3, rfl⟩
theorem pV_q {h h1 : am_H} {ci a k : Nat} {v : Value} (e : pV h ci a k v = some h1) : Eqs h h1 := by
  obtain ⟨fs, e1, e3, rfl⟩ := pV_s e
  exact Eqs.set e1 (by simp [slo])
theorem inv_p {i : Int32} {n : Nat} (h : inN i n) : vp_in i n := vp_in_iff.mpr h
theorem sI_s {h h1 : am_H} {a : Nat} {i x : Int32} (e : sI h a i x = some h1) : ∃ n f, h[a]? = some (.inl (0, n, .inl f)) ∧ vp_in i n ∧ h1 = h.set a (.inl (0, n, .inl (upd f i.toNatClampNeg x))) := by
  obtain ⟨p, e1, e2⟩ := ob2 e
  obtain ⟨e3, e4⟩ := iz e2
  cases e4
  exact ⟨p.1, p.2, arI_s e1, inv_p e3, rfl⟩
theorem sB_s {h h1 : am_H} {a : Nat} {i x : Int32} (e : sB h a i x = some h1) : ∃ n f, h[a]? = some (.inl (1, n, .inl f)) ∧ vp_in i n ∧ h1 = h.set a (.inl (1, n, .inl (upd f i.toNatClampNeg (vp_nar .byte x)))) := by
  obtain ⟨p, e1, e2⟩ := ob2 e
  obtain ⟨e3, e4⟩ := iz e2
  cases e4
  exact ⟨p.1, p.2, arI_s e1, inv_p e3, rfl⟩
theorem sZ_s {h h1 : am_H} {a : Nat} {i x : Int32} (e : sZ h a i x = some h1) : ∃ n f, h[a]? = some (.inl (2, n, .inl f)) ∧ vp_in i n ∧ h1 = h.set a (.inl (2, n, .inl (upd f i.toNatClampNeg (vp_nar .boolean x)))) := by
  obtain ⟨p, e1, e2⟩ := ob2 e
  obtain ⟨e3, e4⟩ := iz e2
  cases e4
  exact ⟨p.1, p.2, arI_s e1, inv_p e3, rfl⟩
theorem sJ_s {h h1 : am_H} {a : Nat} {i : Int32} {x : Int64} (e : sJ h a i x = some h1) : ∃ n f, h[a]? = some (.inl (3, n, .inr (.inl f))) ∧ vp_in i n ∧ h1 = h.set a (.inl (3, n, .inr (.inl (vp_updL f i.toNatClampNeg x)))) := by
  obtain ⟨p, e1, e2⟩ := ob2 e
  obtain ⟨e3, e4⟩ := iz e2
  cases e4
  exact ⟨p.1, p.2, arJ_s e1, inv_p e3, rfl⟩
theorem sN_s {h h1 : am_H} {t a : Nat} {i : Int32} {v : Option Nat} (e : sN h t a i v = some h1) : ∃ n f, h[a]? = some (.inl (t, n, .inr (.inr (.inr (.inr f))))) ∧ vp_in i n ∧ (t = 4 ∨ t = 5 ∨ t = 6) ∧ (∀ b, v = some b → isO h (am_rc t) b = true) ∧ h1 = h.set a (.inl (t, n, .inr (.inr (.inr (.inr (va_up f i.toNatClampNeg v)))))) := by
  obtain ⟨p, e1, e2⟩ := ob2 e
  obtain ⟨⟨e3, e5, e6⟩, e4⟩ := iz e2
  cases e4
  exact ⟨p.1, p.2, arN_s e1, inv_p e3, e5, e6, rfl⟩
theorem sI_q {h h1 : am_H} {a : Nat} {i x : Int32} (e : sI h a i x = some h1) : Eqs h h1 := by
  obtain ⟨n, f, e1, e3, rfl⟩ := sI_s e
  exact Eqs.set e1 rfl
theorem sB_q {h h1 : am_H} {a : Nat} {i x : Int32} (e : sB h a i x = some h1) : Eqs h h1 := by
  obtain ⟨n, f, e1, e3, rfl⟩ := sB_s e
  exact Eqs.set e1 rfl
theorem sZ_q {h h1 : am_H} {a : Nat} {i x : Int32} (e : sZ h a i x = some h1) : Eqs h h1 := by
  obtain ⟨n, f, e1, e3, rfl⟩ := sZ_s e
  exact Eqs.set e1 rfl
theorem sJ_q {h h1 : am_H} {a : Nat} {i : Int32} {x : Int64} (e : sJ h a i x = some h1) : Eqs h h1 := by
  obtain ⟨n, f, e1, e3, rfl⟩ := sJ_s e
  exact Eqs.set e1 rfl
theorem sN_q {h h1 : am_H} {t a : Nat} {i : Int32} {v : Option Nat} (e : sN h t a i v = some h1) : Eqs h h1 := by
  obtain ⟨n, f, e1, e3, e4, e5, rfl⟩ := sN_s e
  exact Eqs.set e1 rfl
theorem cpy_s {h h1 : am_H} {a0 a1 : Nat} {sp dq k : Int32} (e : cpy h a0 sp a1 dq k = some h1) : ∃ n0 f n1 g, h[a0]? = some (.inl (0, n0, .inl f)) ∧ h[a1]? = some (.inl (0, n1, .inl g)) ∧ ¬ sp < 0 ∧ ¬ dq < 0 ∧ ¬ k < 0 ∧ sp.toNatClampNeg + k.toNatClampNeg ≤ n0 ∧ dq.toNatClampNeg + k.toNatClampNeg ≤ n1 ∧ h1 = h.set a1 (.inl (0, n1, .inl (va_cpy f g sp.toNatClampNeg dq.toNatClampNeg k.toNatClampNeg))) := by
  obtain ⟨p, e1, e⟩ := ob2 e
  obtain ⟨q, e2, e⟩ := ob2 e
  obtain ⟨⟨c1, c2, c3, c4, c5⟩, e4⟩ := iz e
  cases e4
  have z : ∀ x : Int32, 0 ≤ x.toInt → ¬ x < 0 := fun x hx hl => by
    have := Int32.lt_iff_toInt_lt.mp hl
    have h0 : (0 : Int32).toInt = 0 := by decide
    omega
  refine ⟨p.1, p.2, q.1, q.2, arI_s e1, arI_s e2, z _ c1, z _ c2, z _ c3, ?_, ?_, rfl⟩
  · show sp.toInt.toNat + k.toInt.toNat ≤ p.1
    omega
  · show dq.toInt.toNat + k.toInt.toNat ≤ q.1
    omega
theorem cpy_q {h h1 : am_H} {a0 a1 : Nat} {sp dq k : Int32} (e : cpy h a0 sp a1 dq k = some h1) : Eqs h h1 := by
  obtain ⟨n0, f, n1, g, e1, e2, _, _, _, _, _, rfl⟩ := cpy_s e
  exact Eqs.set e2 rfl
/-! A RUN with its answer and its cells -/
def Sx (dp : Nat) (M : am_M) (pc : Nat) (L st : List Value) (h : am_H) (v : Option Value) (h2 : am_H) : Prop := ∃ nc ns, h2.length = h.length + nc ∧ sz h2 = sz h + ns ∧ Ex dp nc ns M pc L st h (fun w k => w = v ∧ k = h2)
section SxRules
variable {dp dc : Nat} {M M' : am_M} {pc pc' pc2 n : Nat} {L L' L2 st st' st2 stk stq as : List Value} {h h1 h2 : am_H} {v v1 : Option Value}
theorem Sx.o (f : ∀ nc ns Q, Ex dp nc ns M pc' L' st' h Q → Ex dp nc ns M pc L st h Q) (k : Sx dp M pc' L' st' h v h2) : Sx dp M pc L st h v h2 := by
  obtain ⟨nc, ns, e1, e2, e3⟩ := k
  exact ⟨nc, ns, e1, e2, f nc ns _ e3⟩
theorem Sx.p (q : Eqs h h1) (f : ∀ nc ns Q, Ex dp nc ns M pc' L' st' h1 Q → Ex dp nc ns M pc L st h Q) (k : Sx dp M pc' L' st' h1 v h2) : Sx dp M pc L st h v h2 := by
  obtain ⟨nc, ns, e1, e2, e3⟩ := k
  exact ⟨nc, ns, by rw [e1, q.1], by rw [e2, q.2], f nc ns _ e3⟩
theorem Sx.nw {N : Nat} {e : va_E} (hs : slo e = N) (f : ∀ nc ns Q, Ex dp nc ns M pc' L' st' (h ++ [e]) Q → Ex dp (nc + 1) (ns + N) M pc L st h Q) (k : Sx dp M pc' L' st' (h ++ [e]) v h2) : Sx dp M pc L st h v h2 := by
  obtain ⟨nc, ns, e1, e2, e3⟩ := k
  refine ⟨nc + 1, ns + N, ?_, ?_, f nc ns _ e3⟩
  · rw [e1, List.length_append]; show h.length + 1 + nc = _; omega
  · rw [e2, sz_push, hs]; omega
theorem Sx.b {A : Prop} (f : ∀ nc ns Q, (A → Ex dp nc ns M pc' L st' h Q) → (¬ A → Ex dp nc ns M pc2 L st' h Q) → Ex dp nc ns M pc L st h Q) (k1 : A → Sx dp M pc' L st' h v h2) (k2 : ¬ A → Sx dp M pc2 L st' h v h2) : Sx dp M pc L st h v h2 := by
  by_cases q : A
  · obtain ⟨nc, ns, e1, e2, e3⟩ := k1 q
    exact ⟨nc, ns, e1, e2, f nc ns _ (fun _ => e3) (fun z => absurd q z)⟩
  · obtain ⟨nc, ns, e1, e2, e3⟩ := k2 q
    exact ⟨nc, ns, e1, e2, f nc ns _ (fun z => absurd z q) (fun _ => e3)⟩
theorem Sx.bn {A : Prop} (f : ∀ nc ns Q, (¬ A → Ex dp nc ns M pc' L st' h Q) → (A → Ex dp nc ns M pc2 L st' h Q) → Ex dp nc ns M pc L st h Q) (k1 : ¬ A → Sx dp M pc' L st' h v h2) (k2 : A → Sx dp M pc2 L st' h v h2) : Sx dp M pc L st h v h2 :=
  Sx.b (A := A) (fun nc ns Q x y => f nc ns Q y x) k2 k1
theorem Sx.r (f : ∀ nc ns (Q : Option Value → am_H → Prop), Q v h → Ex dp nc ns M pc L st h Q) : Sx dp M pc L st h v h := ⟨0, 0, rfl, rfl, f 0 0 _ ⟨rfl, rfl⟩⟩
def am_fg : List Bool → List Value → List Value
  | true :: m, v :: l => v :: am_fg m l
  | false :: m, _ :: l => .retAddr 0 :: am_fg m l
  | _, l => l
theorem am_fg_len : ∀ (m : List Bool) (l : List Value), (am_fg m l).length = l.length
  | [], _ => by cases ‹List Value› <;> rfl
  | true :: m, [] => rfl
  | false :: m, [] => rfl
  | true :: m, v :: l => by show (am_fg m l).length + 1 = _; rw [am_fg_len m l]; rfl
  | false :: m, v :: l => by show (am_fg m l).length + 1 = _; rw [am_fg_len m l]; rfl
theorem am_fg_at : ∀ (m : List Bool) (l : List Value) (i : Nat) (v : Value), (am_fg m l)[i]? = some v → am_kn v = true → l[i]? = some v
  | [], l, i, v, h, _ => by cases l <;> exact h
  | true :: m, [], i, v, h, _ => h
  | false :: m, [], i, v, h, _ => h
  | true :: m, w :: l, 0, v, h, _ => h
  | true :: m, w :: l, i + 1, v, h, hk => am_fg_at m l i v h hk
  | false :: m, w :: l, 0, v, h, hk => by
    have : v = .retAddr 0 := (Option.some.inj h).symm
    subst this; cases hk
  | false :: m, w :: l, i + 1, v, h, hk => am_fg_at m l i v h hk
theorem am_fg_L {E : am_E} {ls : Array Slot} {k : Nat} (m : List Bool) (hL : am_L E L ls k) : am_L E (am_fg m L) ls k := by
  refine ⟨⟨hL.1.1, hL.1.2.1, fun q hq => ?_⟩, by rw [am_fg_len]; exact hL.2⟩
  obtain ⟨w, hw, hk, e⟩ := am_ls_of hq
  have := am_at hL (am_fg_at m L _ w hw hk) hk
  rw [← e] at this
  exact this
theorem Sx.fg (m : List Bool) (k : Sx dp M pc (am_fg m L) st h v h2) : Sx dp M pc L st h v h2 := by
  obtain ⟨nc, ns, e1, e2, e3⟩ := k
  refine ⟨nc, ns, e1, e2, ?_⟩
  intro E l p e R s mm args below meth c C H ls locs cells slots mc ms hR hL hS h1 h2 h3 h4 h5 h6
  exact e3 E l p e R s mm args below meth c C H ls locs cells slots mc ms hR (am_fg_L m hL) hS h1 h2 h3 h4 h5 h6
theorem Sx.wd (k : Sx dc M pc L st h v h2) (hd : dc ≤ dp) : Sx dp M pc L st h v h2 := by
  obtain ⟨nc, ns, e1, e2, e3⟩ := k
  exact ⟨nc, ns, e1, e2, e3.widen hd (Nat.le_refl _) (Nat.le_refl _)⟩
section Ops
variable {nc ns idx ci k a t : Nat} {Q : Option Value → am_H → Prop}
theorem op_iconst {z : Int} (x : Int32) (d : decode M.2.1 pc = .ok (.iconst z, 1)) (hv : Int32.ofInt z = x) (kk : Ex dp nc ns M (pc + 1) L (.int x :: st) h Q) : Ex dp nc ns M pc L st h Q := ex_iconst d (by rw [hv]; exact kk)
theorem op_bipush {z : Int} (x : Int32) (d : decode M.2.1 pc = .ok (.bipush z, 2)) (hv : (Int8.ofInt z).toInt32 = x) (kk : Ex dp nc ns M (pc + 2) L (.int x :: st) h Q) : Ex dp nc ns M pc L st h Q := ex_bipush d (by rw [hv]; exact kk)
theorem op_sipush {z : Int} (x : Int32) (d : decode M.2.1 pc = .ok (.sipush z, 3)) (hv : (Int16.ofInt z).toInt32 = x) (kk : Ex dp nc ns M (pc + 3) L (.int x :: st) h Q) : Ex dp nc ns M pc L st h Q := ex_sipush d (by rw [hv]; exact kk)
theorem op_lconst {z : Fin 2} (x : Int64) (d : decode M.2.1 pc = .ok (.lconst z, 1)) (hv : Int64.ofNat (z : Nat) = x) (kk : Ex dp nc ns M (pc + 1) L (.long x :: st) h Q) : Ex dp nc ns M pc L st h Q := ex_lconst d (by rw [hv]; exact kk)
theorem op_iinc {i : Nat} {z : Int} {x : Int32} (y : Int32) (d : decode M.2.1 pc = .ok (.iinc i z, 3)) (hy : Int32.ofInt z = y) (hv : L[i]? = some (.int x)) (hn : i < M.2.2.1) (kk : Ex dp nc ns M (pc + 3) (am_st1 L i (.int (x + y))) st h Q) : Ex dp nc ns M pc L st h Q := ex_iinc d hv hn (by rw [hy]; exact kk)
theorem op_getI {x : Int32} (hf : am_F M.1.cls idx ci k) (d : decode M.2.1 pc = .ok (.getfield idx, 3)) (e : gI h ci a k = some x) (kk : Ex dp nc ns M (pc + 3) L (.int x :: st) h Q) : Ex dp nc ns M pc L (.ref a :: st) h Q := by
  obtain ⟨fs, e1, e2⟩ := ob2 e
  exact ex_getf hf d (ob_s e1) (vI_s e2) kk
theorem op_getJ {x : Int64} (hf : am_F M.1.cls idx ci k) (d : decode M.2.1 pc = .ok (.getfield idx, 3)) (e : gJ h ci a k = some x) (kk : Ex dp nc ns M (pc + 3) L (.long x :: st) h Q) : Ex dp nc ns M pc L (.ref a :: st) h Q := by
  obtain ⟨fs, e1, e2⟩ := ob2 e
  exact ex_getf hf d (ob_s e1) (vJ_s e2) kk
theorem op_getR {x : Nat} (hf : am_F M.1.cls idx ci k) (d : decode M.2.1 pc = .ok (.getfield idx, 3)) (e : gR h ci a k = some x) (kk : Ex dp nc ns M (pc + 3) L (.ref x :: st) h Q) : Ex dp nc ns M pc L (.ref a :: st) h Q := by
  obtain ⟨fs, e1, e2⟩ := ob2 e
  exact ex_getf hf d (ob_s e1) (vR_s e2) kk
theorem op_getN {x : Option Nat} (hf : am_F M.1.cls idx ci k) (d : decode M.2.1 pc = .ok (.getfield idx, 3)) (e : gN h ci a k = some x) (kk : Ex dp nc ns M (pc + 3) L (va_rf x :: st) h Q) : Ex dp nc ns M pc L (.ref a :: st) h Q := by
  obtain ⟨fs, e1, e2⟩ := ob2 e
  exact ex_getf hf d (ob_s e1) (vN_s e2) kk
theorem op_put {w : Value} {ty : FieldType} (hf : am_Fw M.1.cls idx ci k false ty) (d : decode M.2.1 pc = .ok (.putfield idx, 3)) (e : pV h ci a k w = some h1) (hn : ∀ E, narrow ty (sv E w) = sv E w) (hfit : ∀ E, fits ty (sv E w) = true) (kk : Ex dp nc ns M (pc + 3) L st h1 Q) : Ex dp nc ns M pc L (w :: .ref a :: st) h Q := by
  obtain ⟨fs, e1, e2, rfl⟩ := pV_s e
  exact ex_putf hf d e1 e2 hn hfit kk
theorem op_putF {w : Value} {ty : FieldType} (hf : am_Fw M.1.cls idx ci k true ty) (hcl : ∀ (r : vw_C), vwCl[ci]? = some r → r.1 = M.1.cls) (hin2 : M.1.name = "<init>") (d : decode M.2.1 pc = .ok (.putfield idx, 3)) (e : pV h ci a k w = some h1) (hn : ∀ E, narrow ty (sv E w) = sv E w) (hfit : ∀ E, fits ty (sv E w) = true) (kk : Ex dp nc ns M (pc + 3) L st h1 Q) : Ex dp nc ns M pc L (w :: .ref a :: st) h Q := by
  obtain ⟨fs, e1, e2, rfl⟩ := pV_s e
  exact ex_putF hf hcl hin2 d e1 e2 hn hfit kk
theorem op_iald {i x : Int32} (d : decode M.2.1 pc = .ok (.iaload, 1)) (e : aI h 0 a i = some x) (kk : Ex dp nc ns M (pc + 1) L (.int x :: st) h Q) : Ex dp nc ns M pc L (.int i :: .ref a :: st) h Q := by
  obtain ⟨p, e1, e⟩ := ob2 e
  obtain ⟨e2, e3⟩ := iz e
  cases e3
  exact ex_iald d (arI_s e1) (inv_p e2) kk
theorem op_bald {i x : Int32} (d : decode M.2.1 pc = .ok (.baload, 1)) (e : aI h 1 a i = some x) (kk : Ex dp nc ns M (pc + 1) L (.int x :: st) h Q) : Ex dp nc ns M pc L (.int i :: .ref a :: st) h Q := by
  obtain ⟨p, e1, e⟩ := ob2 e
  obtain ⟨e2, e3⟩ := iz e
  cases e3
  exact ex_bald d (arI_s e1) (inv_p e2) kk
theorem op_zald {i x : Int32} (d : decode M.2.1 pc = .ok (.baload, 1)) (e : aI h 2 a i = some x) (kk : Ex dp nc ns M (pc + 1) L (.int x :: st) h Q) : Ex dp nc ns M pc L (.int i :: .ref a :: st) h Q := by
  obtain ⟨p, e1, e⟩ := ob2 e
  obtain ⟨e2, e3⟩ := iz e
  cases e3
  exact ex_zald d (arI_s e1) (inv_p e2) kk
theorem op_lald {i : Int32} {x : Int64} (d : decode M.2.1 pc = .ok (.laload, 1)) (e : aJ h a i = some x) (kk : Ex dp nc ns M (pc + 1) L (.long x :: st) h Q) : Ex dp nc ns M pc L (.int i :: .ref a :: st) h Q := by
  obtain ⟨p, e1, e⟩ := ob2 e
  obtain ⟨e2, e3⟩ := iz e
  cases e3
  exact ex_lald d (arJ_s e1) (inv_p e2) kk
theorem op_aald {i : Int32} {x : Option Nat} (ht : t = 4 ∨ t = 5 ∨ t = 6) (d : decode M.2.1 pc = .ok (.aaload, 1)) (e : aN h t a i = some x) (kk : Ex dp nc ns M (pc + 1) L (va_rf x :: st) h Q) : Ex dp nc ns M pc L (.int i :: .ref a :: st) h Q := by
  obtain ⟨p, e1, e⟩ := ob2 e
  obtain ⟨e2, e3⟩ := iz e
  cases e3
  exact ex_aald ht d (arN_s e1) (inv_p e2) kk
theorem op_alen {x : Int32} (d : decode M.2.1 pc = .ok (.arraylength, 1)) (e : aL h a = some x) (kk : Ex dp nc ns M (pc + 1) L (.int x :: st) h Q) : Ex dp nc ns M pc L (.ref a :: st) h Q := by
  unfold aL at e
  split at e
  · rename_i t x2 hq
    obtain ⟨e2, e3⟩ := iz e
    cases e3
    exact ex_alen e2 d hq kk
  · cases e
theorem op_iast {i x : Int32} (d : decode M.2.1 pc = .ok (.iastore, 1)) (e : sI h a i x = some h1) (kk : Ex dp nc ns M (pc + 1) L st h1 Q) : Ex dp nc ns M pc L (.int x :: .int i :: .ref a :: st) h Q := by
  obtain ⟨n, f, e1, e2, rfl⟩ := sI_s e
  exact ex_iast d e1 e2 kk
theorem op_bast {i x : Int32} (d : decode M.2.1 pc = .ok (.bastore, 1)) (e : sB h a i x = some h1) (kk : Ex dp nc ns M (pc + 1) L st h1 Q) : Ex dp nc ns M pc L (.int x :: .int i :: .ref a :: st) h Q := by
  obtain ⟨n, f, e1, e2, rfl⟩ := sB_s e
  exact ex_bast d e1 e2 kk
theorem op_zast {i x : Int32} (d : decode M.2.1 pc = .ok (.bastore, 1)) (e : sZ h a i x = some h1) (kk : Ex dp nc ns M (pc + 1) L st h1 Q) : Ex dp nc ns M pc L (.int x :: .int i :: .ref a :: st) h Q := by
  obtain ⟨n, f, e1, e2, rfl⟩ := sZ_s e
  exact ex_zast d e1 e2 kk
theorem op_last {i : Int32} {x : Int64} (d : decode M.2.1 pc = .ok (.lastore, 1)) (e : sJ h a i x = some h1) (kk : Ex dp nc ns M (pc + 1) L st h1 Q) : Ex dp nc ns M pc L (.long x :: .int i :: .ref a :: st) h Q := by
  obtain ⟨n, f, e1, e2, rfl⟩ := sJ_s e
  exact ex_last d e1 e2 kk
theorem op_aast {i : Int32} {w : Option Nat} (d : decode M.2.1 pc = .ok (.aastore, 1)) (e : sN h t a i w = some h1) (kk : Ex dp nc ns M (pc + 1) L st h1 Q) : Ex dp nc ns M pc L (va_rf w :: .int i :: .ref a :: st) h Q := by
  obtain ⟨n, f, e1, e2, ht, e3, rfl⟩ := sN_s e
  cases w with
  | none => exact ex_aastN ht d e1 e2 kk
  | some b =>
    obtain ⟨fs, hb⟩ := isO_s (e3 b rfl)
    rcases ht with rfl | rfl | rfl
    · exact ex_aast (Or.inl rfl) d e1 hb rfl rfl e2 kk
    · exact ex_aast (Or.inr (Or.inl rfl)) d e1 hb rfl rfl e2 kk
    · exact ex_aast (Or.inr (Or.inr rfl)) d e1 hb rfl rfl e2 kk
theorem op_idiv {x y z : Int32} (d : decode M.2.1 pc = .ok (.idiv, 1)) (e : dvI x y = some z) (kk : Ex dp nc ns M (pc + 1) L (.int z :: st) h Q) : Ex dp nc ns M pc L (.int y :: .int x :: st) h Q := by
  unfold dvI at e
  by_cases q : y = 0
  · rw [if_pos q] at e; cases e
  · rw [if_neg q] at e; cases e; exact ex_idiv d q kk
theorem op_irem {x y z : Int32} (d : decode M.2.1 pc = .ok (.irem, 1)) (e : rmI x y = some z) (kk : Ex dp nc ns M (pc + 1) L (.int z :: st) h Q) : Ex dp nc ns M pc L (.int y :: .int x :: st) h Q := by
  unfold rmI at e
  by_cases q : y = 0
  · rw [if_pos q] at e; cases e
  · rw [if_neg q] at e; cases e; exact ex_irem d q kk
theorem op_ldiv {x y z : Int64} (d : decode M.2.1 pc = .ok (.ldiv, 1)) (e : dvJ x y = some z) (kk : Ex dp nc ns M (pc + 1) L (.long z :: st) h Q) : Ex dp nc ns M pc L (.long y :: .long x :: st) h Q := by
  unfold dvJ at e
  by_cases q : y = 0
  · rw [if_pos q] at e; cases e
  · rw [if_neg q] at e; cases e; exact ex_ldiv d q kk
theorem op_lrem {x y z : Int64} (d : decode M.2.1 pc = .ok (.lrem, 1)) (e : rmJ x y = some z) (kk : Ex dp nc ns M (pc + 1) L (.long z :: st) h Q) : Ex dp nc ns M pc L (.long y :: .long x :: st) h Q := by
  unfold rmJ at e
  by_cases q : y = 0
  · rw [if_pos q] at e; cases e
  · rw [if_neg q] at e; cases e; exact ex_lrem d q kk
theorem op_ifnull {r : Option Nat} {off : Int} (tgt : Nat) (d : decode M.2.1 pc = .ok (.ifnull off, 3)) (ht : (pc : Int) + off = (tgt : Int)) (k1 : r = none → Ex dp nc ns M tgt L st h Q) (k2 : ¬ r = none → Ex dp nc ns M (pc + 3) L st h Q) : Ex dp nc ns M pc L (va_rf r :: st) h Q := by
  cases r with
  | none => exact ex_ifnullN tgt d ht (k1 rfl)
  | some a => exact ex_ifnull d (k2 (fun q => nomatch q))
theorem op_ifnonnull {r : Option Nat} {off : Int} (tgt : Nat) (d : decode M.2.1 pc = .ok (.ifnonnull off, 3)) (ht : (pc : Int) + off = (tgt : Int)) (k1 : ¬ r = none → Ex dp nc ns M tgt L st h Q) (k2 : r = none → Ex dp nc ns M (pc + 3) L st h Q) : Ex dp nc ns M pc L (va_rf r :: st) h Q := by
  cases r with
  | none => exact ex_ifnonnullN d (k2 rfl)
  | some a => exact ex_ifnonnull tgt d ht (k1 (fun q => nomatch q))
theorem op_mmax {x y : Int32} (hd : 1 ≤ dp) (d : decode M.2.1 pc = .ok (.invokestatic idx, 3)) (hl : Cond.methodLink M.1.cls idx Lib.Math.max.name ∈ am_tbl) (hw : (st.map fun v => v.category).sum ≤ 8) (kk : Ex dp nc ns M (pc + 3) L (.int (if x < y then y else x) :: st) h Q) : Ex dp nc ns M pc L (.int y :: .int x :: st) h Q := by
  obtain ⟨e, rfl⟩ : ∃ e, dp = e + 1 := ⟨dp - 1, by omega⟩
  exact ex_mmax d hl hw kk
theorem op_mmin {x y : Int32} (hd : 1 ≤ dp) (d : decode M.2.1 pc = .ok (.invokestatic idx, 3)) (hl : Cond.methodLink M.1.cls idx Lib.Math.min.name ∈ am_tbl) (hw : (st.map fun v => v.category).sum ≤ 8) (kk : Ex dp nc ns M (pc + 3) L (.int (if y < x then y else x) :: st) h Q) : Ex dp nc ns M pc L (.int y :: .int x :: st) h Q := by
  obtain ⟨e, rfl⟩ : ∃ e, dp = e + 1 := ⟨dp - 1, by omega⟩
  exact ex_mmin d hl hw kk
theorem op_mabs {x : Int32} (hd : 1 ≤ dp) (d : decode M.2.1 pc = .ok (.invokestatic idx, 3)) (hl : Cond.methodLink M.1.cls idx Lib.Math.abs.name ∈ am_tbl) (hw : (st.map fun v => v.category).sum ≤ 8) (kk : Ex dp nc ns M (pc + 3) L (.int (if 0 ≤ x then x else 0 - x) :: st) h Q) : Ex dp nc ns M pc L (.int x :: st) h Q := by
  obtain ⟨e, rfl⟩ : ∃ e, dp = e + 1 := ⟨dp - 1, by omega⟩
  exact ex_mabs d hl hw kk
theorem op_obj (hd : 1 ≤ dp) (d : decode M.2.1 pc = .ok (.invokespecial idx, 3)) (hl : Cond.methodLink M.1.cls idx objectInit ∈ am_tbl) (hw : (st.map fun v => v.category).sum ≤ 8) (kk : Ex dp nc ns M (pc + 3) L st h Q) : Ex dp nc ns M pc L (.ref a :: st) h Q := by
  obtain ⟨e, rfl⟩ : ∃ e, dp = e + 1 := ⟨dp - 1, by omega⟩
  exact ex_obj d hl oi oc hw kk
theorem op_cpy {a0 a1 : Nat} {sp dq kx : Int32} (hd : 1 ≤ dp) (d : decode M.2.1 pc = .ok (.invokestatic idx, 3)) (w1 : Cond.methodLink M.1.cls idx arraycopyName ∈ am_tbl) (hw : (st.map fun v => v.category).sum ≤ 8) (e : cpy h a0 sp a1 dq kx = some h1) (kk : Ex dp nc ns M (pc + 3) L st h1 Q) : Ex dp nc ns M pc L (.int kx :: .int dq :: .ref a1 :: .int sp :: .ref a0 :: st) h Q := by
  obtain ⟨e9, rfl⟩ : ∃ e, dp = e + 1 := ⟨dp - 1, by omega⟩
  obtain ⟨n0, f, n1, g, e1, e2, g1, g2, g3, g4, g5, rfl⟩ := cpy_s e
  exact ex_copy d w1 ac1 ac2 ac3 e1 e2 g1 g2 g3 g4 g5 hw kk
theorem op_sbAt {i : Nat} {j x : Int32} (d : decode M.2.1 pc = .ok (.baload, 1)) (e : strB i j = some x) (kk : Ex dp nc ns M (pc + 1) L (.int x :: st) h Q) : Ex dp nc ns M pc L (.int j :: am_sb i :: st) h Q := by
  unfold strB at e
  obtain ⟨⟨e1, e2⟩, e3⟩ := iz e
  cases e3
  exact ex_sbAt e1 d (inv_p e2) kk
theorem op_sbLen {i : Nat} {x : Int32} (d : decode M.2.1 pc = .ok (.arraylength, 1)) (e : strL i = some x) (kk : Ex dp nc ns M (pc + 1) L (.int x :: st) h Q) : Ex dp nc ns M pc L (am_sb i :: st) h Q := by
  unfold strL at e
  obtain ⟨e1, e3⟩ := iz e
  cases e3
  exact ex_sbLen e1 d kk
theorem strO_s {i : Nat} {u : Unit} (e : strO i = some u) : i < 11 := (iz e).1
theorem op_rows {j x : Int32} (d : decode M.2.1 pc = .ok (.iaload, 1)) (e : rwsA j = some x) (kk : Ex dp nc ns M (pc + 1) L (.int x :: st) h Q) : Ex dp nc ns M pc L (.int j :: .float 1 :: st) h Q := by
  unfold rwsA at e
  obtain ⟨e1, e3⟩ := iz e
  cases e3
  exact ex_rowsAt d (inv_p e1) kk
theorem nlt0 {x : Int32} (hx : 0 ≤ x.toInt) : ¬ x < 0 := fun hl => by
  have := Int32.lt_iff_toInt_lt.mp hl
  have h0 : (0 : Int32).toInt = 0 := by decide
  omega
end Ops
theorem sx_callV {idx a ci : Nat} {r : vw_C} (hd : dc + 1 ≤ dp) (d : decode M.2.1 pc = .ok (.invokevirtual idx, 3)) (hM : am_MM n M') (hl : Cond.methodLink M.1.cls idx M'.1 ∈ am_tbl) (hi : Cond.instanceMethod M'.1 ∈ am_tbl) (hs : Cond.selects M'.1.cls M'.1 M'.1 ∈ am_tbl) (hstk : stk = as.reverse ++ .ref a :: st) (hn : as.length = n) (ho : isO h ci a = true) (hc : vwCl[ci]? = some r) (hcr : r.1 = M'.1.cls) (hw : (st.map fun v => v.category).sum ≤ 8) (hlen : (am_in (.ref a :: as)).length ≤ M'.2.2.1)
    (hcal : Sx dc M' 0 (am_en (.ref a :: as) M'.2.2.1) [] h v1 h1) (hq : v1.toList ++ st = stq) (kk : Sx dp M (pc + 3) L stq h1 v h2) : Sx dp M pc L stk h v h2 := by
  obtain ⟨e, rfl⟩ : ∃ e, dp = e + 1 := ⟨dp - 1, by omega⟩
  obtain ⟨nc1, ns1, e1, e2, e3⟩ := hcal
  obtain ⟨nc, ns, g1, g2, g3⟩ := kk
  obtain ⟨fs, ho⟩ := isO_s ho
  refine ⟨nc1 + nc, ns1 + ns, by rw [g1, e1]; omega, by rw [g2, e2]; omega, ex_callV d hM hl hi hs hstk hn ho hc hcr hw hlen (e3.widen (by omega) (Nat.le_refl _) (Nat.le_refl _)) (fun w k q => ?_)⟩
  obtain ⟨rfl, rfl⟩ := q
  rw [hq]; exact g3
theorem sx_callS {idx : Nat} (hd : dc + 1 ≤ dp) (d : decode M.2.1 pc = .ok (.invokestatic idx, 3)) (hM : am_MM n M') (hl : Cond.methodLink M.1.cls idx M'.1 ∈ am_tbl) (hi : Cond.static M'.1 ∈ am_tbl) (hstk : stk = as.reverse ++ st) (hn : as.length = n) (hw : (st.map fun v => v.category).sum ≤ 8) (hlen : (am_in as).length ≤ M'.2.2.1)
    (hcal : Sx dc M' 0 (am_en as M'.2.2.1) [] h v1 h1) (hq : v1.toList ++ st = stq) (kk : Sx dp M (pc + 3) L stq h1 v h2) : Sx dp M pc L stk h v h2 := by
  obtain ⟨e, rfl⟩ : ∃ e, dp = e + 1 := ⟨dp - 1, by omega⟩
  obtain ⟨nc1, ns1, e1, e2, e3⟩ := hcal
  obtain ⟨nc, ns, g1, g2, g3⟩ := kk
  refine ⟨nc1 + nc, ns1 + ns, by rw [g1, e1]; omega, by rw [g2, e2]; omega, ex_callS d hM hl hi hstk hn hw hlen (e3.widen (by omega) (Nat.le_refl _) (Nat.le_refl _)) (fun w k q => ?_)⟩
  obtain ⟨rfl, rfl⟩ := q
  rw [hq]; exact g3
theorem sx_callI {idx a : Nat} (hd : dc + 1 ≤ dp) (d : decode M.2.1 pc = .ok (.invokespecial idx, 3)) (hM : am_MM n M') (hr : M'.2.2.2 = none) (hnm : M'.1.name = "<init>") (hl : Cond.methodLink M.1.cls idx M'.1 ∈ am_tbl) (hi : Cond.instanceMethod M'.1 ∈ am_tbl) (hstk : stk = as.reverse ++ .ref a :: st) (hn : as.length = n) (hw : (st.map fun v => v.category).sum ≤ 8) (hlen : (am_in (.ref a :: as)).length ≤ M'.2.2.1)
    (hcal : Sx dc M' 0 (am_en (.ref a :: as) M'.2.2.1) [] h none h1) (kk : Sx dp M (pc + 3) L st h1 v h2) : Sx dp M pc L stk h v h2 := by
  obtain ⟨e, rfl⟩ : ∃ e, dp = e + 1 := ⟨dp - 1, by omega⟩
  obtain ⟨nc1, ns1, e1, e2, e3⟩ := hcal
  obtain ⟨nc, ns, g1, g2, g3⟩ := kk
  refine ⟨nc1 + nc, ns1 + ns, by rw [g1, e1]; omega, by rw [g2, e2]; omega, ex_callI d hM hr hnm hl hi hstk hn hw hlen (e3.widen (by omega) (Nat.le_refl _) (Nat.le_refl _)) (fun w k q => ?_)⟩
  obtain ⟨rfl, rfl⟩ := q
  exact g3
theorem sx_callIN {idx a : Nat} {host : String} (hd : dc + 1 ≤ dp) (d : decode M.2.1 pc = .ok (.invokespecial idx, 3)) (hM : am_MM n M') (hr : M'.2.2.2 = none) (hnm : M'.1.name = "<init>") (hl : Cond.methodLinkNest M.1.cls idx M'.1 host ∈ am_tbl) (hi : Cond.instanceMethod M'.1 ∈ am_tbl) (hstk : stk = as.reverse ++ .ref a :: st) (hn : as.length = n) (hw : (st.map fun v => v.category).sum ≤ 8) (hlen : (am_in (.ref a :: as)).length ≤ M'.2.2.1)
    (hcal : Sx dc M' 0 (am_en (.ref a :: as) M'.2.2.1) [] h none h1) (kk : Sx dp M (pc + 3) L st h1 v h2) : Sx dp M pc L stk h v h2 := by
  obtain ⟨e, rfl⟩ : ∃ e, dp = e + 1 := ⟨dp - 1, by omega⟩
  obtain ⟨nc1, ns1, e1, e2, e3⟩ := hcal
  obtain ⟨nc, ns, g1, g2, g3⟩ := kk
  refine ⟨nc1 + nc, ns1 + ns, by rw [g1, e1]; omega, by rw [g2, e2]; omega, ex_callIN d hM hr hnm hl hi hstk hn hw hlen (e3.widen (by omega) (Nat.le_refl _) (Nat.le_refl _)) (fun w k q => ?_)⟩
  obtain ⟨rfl, rfl⟩ := q
  exact g3
theorem sx_callX {idx i : Nat} (hi11 : i < 11) (hd : dc + 1 ≤ dp) (d : decode M.2.1 pc = .ok (.invokevirtual idx, 3)) (hM : am_MM n M') (hl : Cond.methodLink M.1.cls idx M'.1 ∈ am_tbl) (hin : Cond.instanceMethod M'.1 ∈ am_tbl) (hs : Cond.selects M'.1.cls M'.1 M'.1 ∈ am_tbl) (hstk : stk = as.reverse ++ am_s i :: st) (hn : as.length = n) (hcr : M'.1.cls = "java/lang/String") (hw : (st.map fun v => v.category).sum ≤ 8) (hlen : (am_in (am_s i :: as)).length ≤ M'.2.2.1)
    (hcal : Sx dc M' 0 (am_en (am_s i :: as) M'.2.2.1) [] h v1 h1) (hq : v1.toList ++ st = stq) (kk : Sx dp M (pc + 3) L stq h1 v h2) : Sx dp M pc L stk h v h2 := by
  obtain ⟨e, rfl⟩ : ∃ e, dp = e + 1 := ⟨dp - 1, by omega⟩
  obtain ⟨nc1, ns1, e1, e2, e3⟩ := hcal
  obtain ⟨nc, ns, g1, g2, g3⟩ := kk
  refine ⟨nc1 + nc, ns1 + ns, by rw [g1, e1]; omega, by rw [g2, e2]; omega, ex_callX hi11 d hM hl hin hs hstk hn hcr hw hlen (e3.widen (by omega) (Nat.le_refl _) (Nat.le_refl _)) (fun w k q => ?_)⟩
  obtain ⟨rfl, rfl⟩ := q
  rw [hq]; exact g3
theorem sx_newa {t : Nat} {y : Int32} (hk : ∀ nc ns Q (N : Nat), ¬ y < 0 → y.toNatClampNeg = N → N ≤ 1000000 → Ex dp nc ns M pc' L (.ref h.length :: st) (h ++ [.inl (t, N, if t = 3 then .inr (.inl (fun _ => 0)) else if t < 3 then .inl (fun _ => 0) else .inr (.inr (.inr (.inr (fun _ => none)))))]) Q → Ex dp (nc + 1) (ns + N) M pc L (.int y :: st) h Q) (e : nA h t y = some h1) (kk : Sx dp M pc' L (.ref h.length :: st) h1 v h2) : Sx dp M pc L (.int y :: st) h v h2 := by
  unfold nA at e
  obtain ⟨⟨c1, c2⟩, e⟩ := iz e
  cases e
  exact Sx.nw (N := y.toInt.toNat) rfl (fun nc ns Q => hk nc ns Q y.toInt.toNat (nlt0 c1) rfl (by omega)) kk
end SxRules
/-! fixed points -/
def Le {β : Type} (a b : Option β) : Prop := ∀ r, a = some r → b = some r
theorem le_r {β : Type} (a : Option β) : Le a a := fun _ h => h
theorem le_b {α β : Type} {a b : Option α} {f g : α → Option β} (h : Le a b) (k : ∀ x, Le (f x) (g x)) : Le (a.bind f) (b.bind g) := fun r hr => by
  obtain ⟨x, e1, e2⟩ := ob2 hr
  rw [h x e1]
  exact k x r e2
theorem le_i {β : Type} {c : Prop} [Decidable c] {a b a2 b2 : Option β} (h : Le a a2) (k : Le b b2) : Le (if c then a else b) (if c then a2 else b2) := fun r hr => by
  by_cases q : c
  · rw [if_pos q] at hr ⊢; exact h r hr
  · rw [if_neg q] at hr ⊢; exact k r hr
def Mn {σ β : Type} (F : (σ → Option β) → σ → Option β) : Prop := ∀ g g2, (∀ s, Le (g s) (g2 s)) → ∀ s, Le (F g s) (F g2 s)
theorem le_of_rel {β : Type} {a b : Option β} (h : Lean.Order.PartialOrder.rel a b) : Le a b := by
  intro r hr
  cases h with
  | bot => cases hr
  | refl => exact hr
theorem rel_of_le {β : Type} {a b : Option β} (h : Le a b) : Lean.Order.PartialOrder.rel a b := by
  cases a with
  | none => exact Lean.Order.FlatOrder.rel.bot
  | some x => rw [h x rfl]; exact Lean.Order.PartialOrder.rel_refl
theorem Mn.mono {σ β : Type} {F : (σ → Option β) → σ → Option β} (h : Mn F) : Lean.Order.monotone F := fun _ _ hxy s => rel_of_le (h _ _ (fun z => le_of_rel (hxy z)) s)
noncomputable def fx {σ β : Type} (F : (σ → Option β) → σ → Option β) (h : Mn F) : σ → Option β := Lean.Order.fix F h.mono
theorem fx_eq {σ β : Type} {F : (σ → Option β) → σ → Option β} (h : Mn F) (s : σ) : fx F h s = F (fx F h) s := congrFun (Lean.Order.fix_eq h.mono) s
theorem fx_ind {σ β : Type} {F : (σ → Option β) → σ → Option β} (h : Mn F) (P : σ → β → Prop) (hs : ∀ g, (∀ s r, g s = some r → P s r) → ∀ s r, F g s = some r → P s r) : ∀ s r, fx F h s = some r → P s r :=
  Lean.Order.fix_induct (motive := fun g => ∀ s r, g s = some r → P s r) h.mono (Lean.Order.admissible_pi_apply (fun s x => ∀ r, x = some r → P s r) (fun s => Lean.Order.admissible_pi _ (fun r => Lean.Order.Option.admissible_eq_some _ r))) hs
def nrZ (x : Int32) : Option Int32 := if x = 0 ∨ x = 1 then some x else none
theorem nrZ_n {x y : Int32} (e : nrZ x = some y) : narrow .boolean (.int x) = .int x := by
  rcases (iz e).1 with rfl | rfl <;> rfl
theorem nrZ_f {x y : Int32} (e : nrZ x = some y) : fits .boolean (.int x) = true := by
  rcases (iz e).1 with rfl | rfl <;> rfl
theorem nr_n {ty : FieldType} {x y : Int32} (e : nr ty x = some y) : narrow ty (.int x) = .int x := (iz e).1
theorem am_rfv (v : Option Nat) : am_rf (va_rf v) = true := by cases v <;> rfl
