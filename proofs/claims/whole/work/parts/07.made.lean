/-! THE RULES that make cells, and store references -/
section Made
variable {dp nc ns : Nat} {M : am_M} {pc : Nat} {L st : List Value} {h : am_H} {Q : Option Value → am_H → Prop}
theorem ex_aastN {a n t : Nat} {f : Nat → Option Nat} {i : Int32} (ht : t = 4 ∨ t = 5 ∨ t = 6) (d : decode M.2.1 pc = .ok (.aastore, 1)) (ha : h[a]? = some (.inl (t, n, .inr (.inr (.inr (.inr f)))))) (hin : vp_in i n) (kk : Ex dp nc ns M (pc + 1) L st (h.set a (.inl (t, n, .inr (.inr (.inr (.inr (va_up f i.toNatClampNeg none))))))) Q) : Ex dp nc ns M pc L (.null :: .int i :: .ref a :: st) h Q := by
  intro E l p e R s m args below meth c C H ls locs cells slots mc ms hR hL hS h1 h2 h3 h4 h5 h6
  refine va_WaastN (C := am_ra t) C.1 C.2.1 (hR.2 a _ (am_wl_get ha)) ((C.2.2.2.2.2.2.2.1.2 t _ (am_ra_at ht)).1 n (fun j => va_rf ((f j).map (fun i => E.1 + i)))) (fun q => by cases q) (by show ¬ (i < 0 ∨ (arrV _ _ _).slots.size ≤ _); rw [arrV_size]; exact hin) rfl rfl d fun H1 e1 z oq => ?_
  refine kk E l p e R s m args below meth c C H1 ls _ cells slots mc ms (am_set hR ha ?_ z oq) hL (am_S_put hS z oq) h1 h2 h3 h4 h5 h6
  show H1[E.1 + a]? = some (vp_cell _ (n, .inr (.inr (.inr (.inr (fun j => (va_up f i.toNatClampNeg none j).map (fun i => E.1 + i)))))))
  rw [e1]
  show some ((vp_cell _ (n, .inr (.inr (.inr (.inr (fun j => (f j).map (fun i => E.1 + i))))))).setSlot _ _) = _
  rw [vp_cell_q, vp_cell_q, arrV_store]
  congr 2
  funext q
  by_cases hq : q = i.toNatClampNeg
  · subst hq
    simp [updV, va_up, va_rf]
  · simp [updV, va_up, hq]
theorem ex_aast {a n t v ci : Nat} {vs : List Value} {r : vw_C} {f : Nat → Option Nat} {i : Int32} (ht : t = 4 ∨ t = 5 ∨ t = 6) (d : decode M.2.1 pc = .ok (.aastore, 1)) (ha : h[a]? = some (.inl (t, n, .inr (.inr (.inr (.inr f)))))) (hv : h[v]? = some (.inr (ci, vs))) (hc : vwCl[ci]? = some r) (hcr : r.1 = am_ra t) (hin : vp_in i n) (kk : Ex dp nc ns M (pc + 1) L st (h.set a (.inl (t, n, .inr (.inr (.inr (.inr (va_up f i.toNatClampNeg (some v)))))))) Q) : Ex dp nc ns M pc L (.ref v :: .int i :: .ref a :: st) h Q := by
  intro E l p e R s m args below meth c C H ls locs cells slots mc ms hR hL hS h1 h2 h3 h4 h5 h6
  have hK := C.2.2.2.2.2.2.2.1
  have hlt : i.toNatClampNeg < n := Nat.not_le.mp fun q => hin (Or.inr q)
  have h0 : ¬ i < 0 := fun q => hin (Or.inl q)
  obtain ⟨r', hr', cellV, g1, g2, g3, -⟩ := hR.2 v _ (am_wl_get hv)
  have hcls := (hK.1 ci r hc).2
  rw [hcr] at hcls
  obtain ⟨kA, comp, k1, k2, k3, -⟩ := (hK.2 t _ (am_ra_at ht)).2
  have hcomp : comp = E.2.2.2.1 ci := Option.some.inj (k3.symm.trans hcls.1)
  subst hcomp
  obtain ⟨kC, hkC, -⟩ := hcls.2
  refine W.aast C.1 C.2.1 (hR.2 a _ (am_wl_get ha)) (fun q h => by cases h) (fun h => by cases h) k1 k2 rfl hkC ⟨h0, by show _ < (arrV _ _ _).slots.size; rw [arrV_size]; exact hlt⟩ g1 (fun q h => by rw [g3] at h; cases h) (by rw [g2]; exact hkC) (by rw [g2]; exact va_assign hcls) rfl rfl d fun H1 e1 z oq => ?_
  refine kk E l p e R s m args below meth c C H1 ls _ cells slots mc ms (am_set hR ha ?_ z oq) hL (am_S_put hS z oq) h1 h2 h3 h4 h5 h6
  show H1[E.1 + a]? = some (vp_cell _ (n, .inr (.inr (.inr (.inr (fun j => (va_up f i.toNatClampNeg (some v) j).map (fun i => E.1 + i)))))))
  rw [e1]
  show some ((vp_cell _ (n, .inr (.inr (.inr (.inr (fun j => (f j).map (fun i => E.1 + i))))))).setSlot _ _) = _
  rw [vp_cell_q, vp_cell_q, arrV_store]
  congr 2
  funext q
  by_cases hq : q = i.toNatClampNeg
  · subst hq
    simp [updV, va_up, va_rf]
  · simp [updV, va_up, hq]
/-- a class that is made: by the tables; its fields at first -/
def am_N (own : String) (idx ci N : Nat) (fs : List Value) : Prop := ∃ (C : String) (T : u_T) (ty0 : Nat → FieldType), am_K ci C T N ty0 ∧ Cond.classLink own idx C ∈ am_tbl ∧ Cond.instantiable C N ∈ am_tbl ∧ Cond.initialized C ∈ am_tbl ∧ ∀ (E : am_E) (j : Nat), j < N → defaultValue (ty0 j) = vp_V (fs.map (sv E)) j
theorem ex_new {idx ci N : Nat} {fs : List Value} (hN : am_N M.1.cls idx ci N fs) (d : decode M.2.1 pc = .ok (.new idx, 3)) (kk : Ex dp nc ns M (pc + 3) L (.ref h.length :: st) (h ++ [.inr (ci, fs)]) Q) : Ex dp (nc + 1) (ns + N) M pc L st h Q := by
  intro E l p e R s m args below meth c C H ls locs cells slots mc ms hR hL hS h1 h2 h3 h4 h5 h6
  obtain ⟨Cn, T, ty0, ⟨gc, hin, hty, hnm⟩, w1, w2, w3, hd⟩ := hN
  have hts := C.2.2.2.2.2.1
  have hKn := C.2.2.2.2.2.2.2.1.1 ci _ gc
  refine W.newcK C.1 C.2.1 C.2.2.2.2.1 (hts _ w1) (hts _ w2) (hts _ w3) rfl d (by omega) (by omega) hKn.2.1 hR.1 fun H1 kC hkC e1 z1 o1 => ?_
  rw [← hR.1] at e1 z1 o1
  have hat : va_at E.2.2.2 vwCl (E.1 + h.length, am_cv E (.inr (ci, fs))) H1 := ⟨_, gc, (u_born ty0 hts hin hKn hkC (by rw [← hR.1]; exact e1) hty).to (hd E)⟩
  exact kk E l p e R s m args below meth c C H1 ls locs (cells + 1) (slots + N) mc ms (am_push hR hat z1 o1) hL (am_S_push hS z1 o1) h1 h2 (by omega) (by omega) h5 h6
theorem ex_newa0 {n : Int32} {N : Nat} (hw : Cond.arrayClass .int ∈ am_tbl) (d : decode M.2.1 pc = .ok (.newarray .int, 2)) (hn : ¬ n < 0) (hN : n.toNatClampNeg = N) (hb : N ≤ 1000000) (kk : Ex dp nc ns M (pc + 2) L (.ref h.length :: st) (h ++ [.inl (0, N, .inl (fun _ => 0))]) Q) : Ex dp (nc + 1) (ns + N) M pc L (.int n :: st) h Q := by
  intro E l p e R s m args below meth c C H ls locs cells slots mc ms hR hL hS h1 h2 h3 h4 h5 h6
  have hts := C.2.2.2.2.2.1
  refine va_newaK (atype := .int) C.1 C.2.1 (hts _ hw) rfl d rfl hn hN (by simp [newarray.typeOf, componentBytes]; omega) (by omega) (by omega) hR.1 fun H1 cA e1 z1 o1 hAr hNm => ?_
  rw [← hR.1] at e1 z1 o1
  have hcy : cA = E.2.2.1 0 := Option.some.inj (hNm.symm.trans (C.2.2.2.2.2.2.2.1.2 0 _ rfl).2)
  subst hcy
  have hat : va_at E.2.2.2 vwCl (E.1 + h.length, am_cv E (.inl (0, N, .inl (fun _ => 0)))) H1 := by
    show H1[E.1 + h.length]? = some _
    rw [← hR.1]
    exact e1
  exact kk E l p e R s m args below meth c C H1 ls locs (cells + 1) (slots + N) mc ms (am_push hR hat z1 o1) hL (am_S_push hS z1 o1) h1 h2 (by omega) (by omega) h5 h6
theorem ex_newa1 {n : Int32} {N : Nat} (hw : Cond.arrayClass .byte ∈ am_tbl) (d : decode M.2.1 pc = .ok (.newarray .byte, 2)) (hn : ¬ n < 0) (hN : n.toNatClampNeg = N) (hb : N ≤ 1000000) (kk : Ex dp nc ns M (pc + 2) L (.ref h.length :: st) (h ++ [.inl (1, N, .inl (fun _ => 0))]) Q) : Ex dp (nc + 1) (ns + N) M pc L (.int n :: st) h Q := by
  intro E l p e R s m args below meth c C H ls locs cells slots mc ms hR hL hS h1 h2 h3 h4 h5 h6
  have hts := C.2.2.2.2.2.1
  refine va_newaK (atype := .byte) C.1 C.2.1 (hts _ hw) rfl d rfl hn hN (by simp [newarray.typeOf, componentBytes]; omega) (by omega) (by omega) hR.1 fun H1 cA e1 z1 o1 hAr hNm => ?_
  rw [← hR.1] at e1 z1 o1
  have hcy : cA = E.2.2.1 1 := Option.some.inj (hNm.symm.trans (C.2.2.2.2.2.2.2.1.2 1 _ rfl).2)
  subst hcy
  have hat : va_at E.2.2.2 vwCl (E.1 + h.length, am_cv E (.inl (1, N, .inl (fun _ => 0)))) H1 := by
    show H1[E.1 + h.length]? = some _
    rw [← hR.1]
    exact e1
  exact kk E l p e R s m args below meth c C H1 ls locs (cells + 1) (slots + N) mc ms (am_push hR hat z1 o1) hL (am_S_push hS z1 o1) h1 h2 (by omega) (by omega) h5 h6
theorem ex_newa2 {n : Int32} {N : Nat} (hw : Cond.arrayClass .boolean ∈ am_tbl) (d : decode M.2.1 pc = .ok (.newarray .boolean, 2)) (hn : ¬ n < 0) (hN : n.toNatClampNeg = N) (hb : N ≤ 1000000) (kk : Ex dp nc ns M (pc + 2) L (.ref h.length :: st) (h ++ [.inl (2, N, .inl (fun _ => 0))]) Q) : Ex dp (nc + 1) (ns + N) M pc L (.int n :: st) h Q := by
  intro E l p e R s m args below meth c C H ls locs cells slots mc ms hR hL hS h1 h2 h3 h4 h5 h6
  have hts := C.2.2.2.2.2.1
  refine va_newaK (atype := .boolean) C.1 C.2.1 (hts _ hw) rfl d rfl hn hN (by simp [newarray.typeOf, componentBytes]; omega) (by omega) (by omega) hR.1 fun H1 cA e1 z1 o1 hAr hNm => ?_
  rw [← hR.1] at e1 z1 o1
  have hcy : cA = E.2.2.1 2 := Option.some.inj (hNm.symm.trans (C.2.2.2.2.2.2.2.1.2 2 _ rfl).2)
  subst hcy
  have hat : va_at E.2.2.2 vwCl (E.1 + h.length, am_cv E (.inl (2, N, .inl (fun _ => 0)))) H1 := by
    show H1[E.1 + h.length]? = some _
    rw [← hR.1]
    exact e1
  exact kk E l p e R s m args below meth c C H1 ls locs (cells + 1) (slots + N) mc ms (am_push hR hat z1 o1) hL (am_S_push hS z1 o1) h1 h2 (by omega) (by omega) h5 h6
theorem ex_newa3 {n : Int32} {N : Nat} (hw : Cond.arrayClass .long ∈ am_tbl) (d : decode M.2.1 pc = .ok (.newarray .long, 2)) (hn : ¬ n < 0) (hN : n.toNatClampNeg = N) (hb : N ≤ 1000000) (kk : Ex dp nc ns M (pc + 2) L (.ref h.length :: st) (h ++ [.inl (3, N, .inr (.inl (fun _ => 0)))]) Q) : Ex dp (nc + 1) (ns + N) M pc L (.int n :: st) h Q := by
  intro E l p e R s m args below meth c C H ls locs cells slots mc ms hR hL hS h1 h2 h3 h4 h5 h6
  have hts := C.2.2.2.2.2.1
  refine va_newaK (atype := .long) C.1 C.2.1 (hts _ hw) rfl d rfl hn hN (by simp [newarray.typeOf, componentBytes]; omega) (by omega) (by omega) hR.1 fun H1 cA e1 z1 o1 hAr hNm => ?_
  rw [← hR.1] at e1 z1 o1
  have hcy : cA = E.2.2.1 3 := Option.some.inj (hNm.symm.trans (C.2.2.2.2.2.2.2.1.2 3 _ rfl).2)
  subst hcy
  have hat : va_at E.2.2.2 vwCl (E.1 + h.length, am_cv E (.inl (3, N, .inr (.inl (fun _ => 0))))) H1 := by
    show H1[E.1 + h.length]? = some _
    rw [← hR.1]
    exact e1
  exact kk E l p e R s m args below meth c C H1 ls locs (cells + 1) (slots + N) mc ms (am_push hR hat z1 o1) hL (am_S_push hS z1 o1) h1 h2 (by omega) (by omega) h5 h6
theorem ex_newq {idx t : Nat} {n : Int32} {N : Nat} (ht : t = 4 ∨ t = 5 ∨ t = 6) (hw : Cond.classLink M.1.cls idx (am_ra t) ∈ am_tbl) (hw2 : Cond.arrayOver (.object (am_ra t)) ∈ am_tbl) (d : decode M.2.1 pc = .ok (.anewarray idx, 3)) (hn : ¬ n < 0) (hN : n.toNatClampNeg = N) (hb : N ≤ 1000000) (kk : Ex dp nc ns M (pc + 3) L (.ref h.length :: st) (h ++ [.inl (t, N, .inr (.inr (.inr (.inr (fun _ => none)))))]) Q) : Ex dp (nc + 1) (ns + N) M pc L (.int n :: st) h Q := by
  intro E l p e R s m args below meth c C H ls locs cells slots mc ms hR hL hS h1 h2 h3 h4 h5 h6
  have hts := C.2.2.2.2.2.1
  subst hN
  refine W.anew C.1 C.2.1 C.2.2.2.2.1 (hts _ hw) (hts _ hw2) rfl d rfl hn (by omega) (by omega) (by omega) fun cA kA comp f1 f2 f3 f4 => ?_
  obtain ⟨kA', comp', _, _, _, q4⟩ := (C.2.2.2.2.2.2.2.1.2 t _ (am_ra_at ht)).2
  have hcy : cA = E.2.2.1 t := Option.some.inj (f1.symm.trans q4)
  subst hcy
  generalize hH1 : H.push ({ cls := E.2.2.1 t, slots := Array.replicate n.toNatClampNeg .null, vm := .none } : Cell) = H1
  have z1 : H1.size = H.size + 1 := by rw [← hH1, Array.size_push]
  have e1 : H1[H.size]? = some (arrV (E.2.2.1 t) n.toNatClampNeg (fun _ => .null)) := by rw [← hH1, Array.getElem?_push_size, ← arrV_new]
  have o1 : ∀ q : Nat, q < H.size → H1[q]? = H[q]? := fun q hq => by rw [← hH1, Array.getElem?_push, if_neg (Nat.ne_of_lt hq)]
  have hat : va_at E.2.2.2 vwCl (E.1 + h.length, am_cv E (.inl (t, n.toNatClampNeg, .inr (.inr (.inr (.inr (fun _ => none))))))) H1 := by
    show H1[E.1 + h.length]? = some _
    rw [← hR.1]
    exact e1
  rw [hR.1]
  exact kk E l p e R s m args below meth c C H1 ls locs (cells + 1) (slots + n.toNatClampNeg) mc ms (am_push hR hat z1 o1) hL (am_S_push hS z1 o1) h1 h2 (by omega) (by omega) h5 h6
end Made
