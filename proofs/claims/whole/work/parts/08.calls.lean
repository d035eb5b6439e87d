/-! CALLS: a method's contract out of 'Ex', and 'Ex' over a call -/
theorem am_words {args : Array Value} {s : State} (hts : ∀ w ∈ am_tbl, w.before args s = true) : ∀ w ∈ am_tbl, ∀ (a' : Array Value) (U : State), s.WarmedH U.vm → w.before a' U = true := by
  intro w hw a' U hW
  have h := hts w hw
  have hk := (List.mem_filter.mp hw).2
  unfold am_word at hk
  rcases Bool.or_eq_true_iff.mp hk with g | g
  · exact word_at hW (good_of_word g) h
  · split at g
    · exact va_Nw.use rfl (va_Nw.warmM hW (va_Nw.of rfl h))
    · exact va_AO.use (va_AO.moved hW.alike (va_AO.of h))
    · cases g
/-- the locals at a method's entry -/
def am_in : List Value → List Value
  | [] => []
  | v :: vs => if v.category = 2 then v :: .retAddr 0 :: am_in vs else v :: am_in vs
def am_en (vs : List Value) (n : Nat) : List Value := am_in vs ++ List.replicate (n - (am_in vs).length) (.retAddr 0)
theorem am_in_sl (E : am_E) (vs : List Value) : (lg_sl (vs.map (sv E))).length = (am_in vs).length := by
  induction vs with
  | nil => rfl
  | cons v vs ih =>
    simp only [lg_sl, List.map_cons, List.flatMap_cons, List.length_append, sv_cat, am_in] at ih ⊢
    by_cases hc : v.category = 2 <;> simp [hc, ih] <;> omega
theorem am_in_at (E : am_E) (vs : List Value) : ∀ (i j : Nat) (v : Value), (am_in vs)[j]? = some v → am_kn v = true → (i + j, sv E v) ∈ lv_args i (vs.map (sv E)) := by
  induction vs with
  | nil => intro i j v h; simp [am_in] at h
  | cons w vs ih =>
    intro i j v h hk
    simp only [List.map_cons, lv_args, sv_cat]
    simp only [am_in] at h
    by_cases hc : w.category = 2
    · rw [if_pos hc] at h ⊢
      match j, h with
      | 0, h => cases h; exact List.mem_cons_self
      | 1, h => cases h; simp [am_kn] at hk
      | j + 2, h =>
        have := ih (i + 2) j v h hk
        rw [show i + 2 + j = i + (j + 2) by omega] at this
        exact List.mem_cons_of_mem _ this
    · rw [if_neg hc] at h ⊢
      match j, h with
      | 0, h => cases h; exact List.mem_cons_self
      | j + 1, h =>
        have := ih (i + 1) j v h hk
        rw [show i + 1 + j = i + (j + 1) by omega] at this
        exact List.mem_cons_of_mem _ this
theorem am_entry {E : am_E} {vs : List Value} {n : Nat} {ls : Array Slot} (hl : (am_in vs).length ≤ n) (h : lv_has ls n (lv_args 0 (vs.map (sv E)))) : am_L E (am_en vs n) ls n := by
  refine ⟨⟨h.1, h.2.1, fun q hq => ?_⟩, by simp [am_en]; omega⟩
  obtain ⟨v, g1, g2, g3⟩ := am_ls_of hq
  simp only [am_en] at g1
  by_cases hj : q.1 < (am_in vs).length
  · rw [List.getElem?_append_left hj] at g1
    have := am_in_at E vs 0 q.1 v g1 g2
    rw [Nat.zero_add, ← g3] at this
    exact h.2.2 q this
  · rw [List.getElem?_append_right (by omega)] at g1
    have := List.eq_of_mem_replicate (List.mem_of_getElem? g1)
    rw [this] at g2
    simp [am_kn] at g2
def am_Pc (E : am_E) (vs : List Value) (h : am_H) : Array Value → State → Prop := fun a U => a = (vs.map (sv E)).toArray ∧ am_R E h U.heap ∧ va_K E.2.2.2 vwCl (am_tys E) U ∧ am_X E U
abbrev am_ws (M : am_M) : List Cond := Cond.code M.1 M.2.1 M.2.2.1 M.2.2.2 :: am_tbl
abbrev am_rm (dp nc ns : Nat) : Room := { frames := dp, cells := nc, slots := ns, locals := 64 * dp }
theorem am_met {dp nc ns : Nat} {M : am_M} {vs : List Value} {h : am_H} {Q : Option Value → am_H → Prop} (hx : Ex dp nc ns M 0 (am_en vs M.2.2.1) [] h Q) (hy : plainName M.1.cls = true) (hl : (am_in vs).length ≤ M.2.2.1) (l : Launch) (E : am_E) : Met l M.1 (am_ws M) (am_rm dp nc ns) (am_Pc E vs h) (am_Qc E Q) nc ns (am_A E) := by
  refine Met.ofW (cc := M.2.1) (maxL := M.2.2.1) (ret := M.2.2.2) hy rfl ?_
  intro p e s m a below meth c s₁ B hml hv
  obtain ⟨rfl, hR, hK, hX⟩ := hv
  have hts := atoms_spec (ws := am_ws M) B.pre
  have C : am_C E M p s m _ meth c := ⟨B.exec, B.bytes, B.returns, hml, findClass_of_methodNamed B.named, fun w hw => hts w (List.mem_cons_of_mem _ hw), B.notSynchronized, hK, hX, (name_of_methodNamed B.named B.method).1⟩
  have hls := lv_entry (vs.map (sv E)) (n := M.2.2.1) (by rw [am_in_sl]; exact hl)
  rw [lg_entry_eq]
  exact hx E l p e _ s m _ below meth c C s.heap _ [] 0 0 nc ns hR (am_entry hl hls) va_S.rf (Nat.le_refl _) (Nat.le_refl _) (by omega) (by omega) (Nat.le_refl _) (Nat.le_refl _)
theorem am_blind {E : am_E} {vs : List Value} {h : am_H} : FrameBlind (am_Pc E vs h) := fun a U g mk q => by
  obtain ⟨q0, q1, q2, q3⟩ := q
  exact ⟨q0, q1, va_K.moved (u := U) (U := U.calling g mk a) (Vm.Alike.refl U.vm) q2, am_X.same (s := U) (U := U.calling g mk a) rfl rfl q3⟩
theorem am_pre {E : am_E} {M : am_M} {p : Program} {s : State} {m : MethodId} {args : Array Value} {meth : Method} {c : Code} (C : am_C E M p s m args meth c) {vs : List Value} {h : am_H} {H : Heap} {locs : List Loc} (hR : am_R E h H) (hS : va_S (am_A E) s.heap H locs) (U : State) (hU : U.heap = H) (hW : s.WarmedH U.vm) : am_Pc E vs h (vs.map (sv E)).toArray U :=
  ⟨rfl, by rw [hU]; exact hR, va_K.moved hW.alike C.2.2.2.2.2.2.2.1, am_X.to hW (fun q h1 h2 => by rw [hU]; exact hS.2.1 q h1 h2) C.2.2.2.2.2.2.2.2.1⟩
/-- behind a call -/
theorem am_call {p : Program} {l : Launch} {e : Env} {R : Room} {s : State} {m : MethodId} {args a : Array Value} {below : List Frame} {meth : Method} {c : Code} {H : Heap} {locs : List Loc} {cells slots nc1 ns1 pc : Nat} {ls : Array Slot} {st0 rest : List Value} {E : am_E} {Q1 : Option Value → am_H → Prop} {Z : State → Prop}
    (hr : va_Run p l e R s m args below meth c H locs cells slots nc1 ns1 (F0 m pc ls st0) rest (am_Qc E Q1 a) (am_A E)) (hS : va_S (am_A E) s.heap H locs)
    (kk : ∀ (v : Option Value) (h' : am_H) (H1 : Heap) (locs1 : List Loc), Q1 v h' → am_R E h' H1 → va_S (am_A E) s.heap H1 locs1 → W p l e R s m args below meth c H1 locs1 (cells + nc1) (slots + ns1) Z (F0 m (pc + 3) ls ((v.map (sv E)).toList ++ rest))) : W p l e R s m args below meth c H locs cells slots Z (F0 m pc ls st0) := by
  intro T hT X
  obtain ⟨v0, st₀, t, T', Lc, h0, X', hL, e1, e2, ⟨⟨v, h', hv, hq, hb⟩, hz, hk⟩, st⟩ := hr T hT X
  have hv : v0 = v.map (sv E) := by cases hv; rfl
  subst hv
  rw [h0] at hz hk
  obtain ⟨t2, a1, b1⟩ := kk v h' T'.heap (locs ++ Lc) hq (by rw [e1]; exact hb)
    ⟨Nat.le_trans hS.1 (by rw [e1]; exact hz), fun q h1 h2 => by rw [e1, hk q (Nat.lt_of_lt_of_le h1 hS.1) h2]; exact hS.2.1 q h1 h2, fun q hq => by
      rcases List.mem_append.mp hq with h | h
      · exact hS.2.2 q h
      · exact hL q h⟩ T' rfl X'
  exact ⟨t2, st t2 a1, b1⟩
theorem am_top (E : am_E) (v : Option Value) (st : List Value) : (v.map (sv E)).toList ++ st.map (sv E) = (v.toList ++ st).map (sv E) := by cases v <;> rfl
/-- a method that can be called: by the tables -/
def am_MM (n : Nat) (M : am_M) : Prop := Cond.code M.1 M.2.1 M.2.2.1 M.2.2.2 ∈ am_tbl ∧ Cond.initialized M.1.cls ∈ am_tbl ∧ (M.1.cls ≠ "java/lang/invoke/MethodHandle" ∧ M.1.cls ≠ "java/lang/invoke/VarHandle") ∧ (parseMethodDescriptor M.1.desc).map (fun d => d.parameters.length) = some n ∧ plainName M.1.cls = true ∧ M.2.2.1 ≤ 45
theorem am_cb {E : am_E} {M M' : am_M} {p : Program} {s : State} {m : MethodId} {args : Array Value} {meth : Method} {c : Code} (C : am_C E M p s m args meth c) {R : Room} {dp nc ns n idx : Nat} (hM : am_MM n M') (hl : Cond.methodLink M.1.cls idx M'.1 ∈ am_tbl) (h1 : dp + 1 ≤ R.frames) (h2 : 64 * (dp + 1) ≤ R.locals) :
    CallB R s args M.1.cls idx M'.1 M'.2.1 M'.2.2.1 M'.2.2.2 (am_ws M') (am_rm dp nc ns) nc ns n := by
  have hts := C.2.2.2.2.2.1
  obtain ⟨g1, g2, g3, g4, g5, g6⟩ := hM
  refine ⟨rfl, rfl, h1, by show 8 + (M'.2.2.1 + 11) + 64 * dp ≤ R.locals; omega, fun w hw => ?_, List.mem_cons_self, hts _ g1, hts _ g2, g3, fun sig hs => ?_, hts _ hl⟩
  · rcases List.mem_cons.mp hw with rfl | hw
    · exact am_words hts _ g1
    · exact am_words hts _ hw
  · rw [hs] at g4
    exact (Option.some.inj g4).symm
section Calls
variable {dp nc1 ns1 nc ns : Nat} {M M' : am_M} {pc idx n : Nat} {L st stk as : List Value} {h : am_H} {Q Q1 : Option Value → am_H → Prop}
theorem ex_callV {a ci : Nat} {fs : List Value} {r : vw_C} (d : decode M.2.1 pc = .ok (.invokevirtual idx, 3)) (hM : am_MM n M') (hl : Cond.methodLink M.1.cls idx M'.1 ∈ am_tbl) (hi : Cond.instanceMethod M'.1 ∈ am_tbl) (hs : Cond.selects M'.1.cls M'.1 M'.1 ∈ am_tbl) (hstk : stk = as.reverse ++ .ref a :: st) (hn : as.length = n) (ho : h[a]? = some (.inr (ci, fs))) (hc : vwCl[ci]? = some r) (hcr : r.1 = M'.1.cls) (hw : (st.map fun v => v.category).sum ≤ 8) (hlen : (am_in (.ref a :: as)).length ≤ M'.2.2.1)
    (hcal : Ex dp nc1 ns1 M' 0 (am_en (.ref a :: as) M'.2.2.1) [] h Q1) (kk : ∀ v h', Q1 v h' → Ex (dp + 1) nc ns M (pc + 3) L (v.toList ++ st) h' Q) : Ex (dp + 1) (nc1 + nc) (ns1 + ns) M pc L stk h Q := by
  intro E l p e R s m args below meth c C H ls locs cells slots mc ms hR hL hS h1 h2 h3 h4 h5 h6
  subst hstk
  have hts := C.2.2.2.2.2.1
  have hrc := va_recv (q0 := a) C.2.2.2.2.2.2.2.1 hR.2 hc (am_wl_get ho)
  rw [hcr] at hrc
  have hmet := am_met hcal hM.2.2.2.2.1 hlen l E
  have hrest : ((as.reverse ++ .ref a :: st).map (sv E)) = (as.map (sv E)).reverse ++ Value.ref (E.1 + a) :: st.map (sv E) := by
    rw [List.map_append, List.map_reverse]; rfl
  have hcat : ((st.map (sv E)).map fun v => v.category).sum ≤ 8 := by rw [List.map_map]; simpa [Function.comp_def, sv_cat] using hw
  rw [hrest]
  refine am_call (va_runV (As := as.map (sv E)) (rest := st.map (sv E)) (b := E.1 + a) ⟨C.1, C.2.1, C.2.2.2.1, C.2.2.2.2.1, hts⟩ hmet ⟨am_cb C hM hl h1 h2, hts _ hi, hts _ hs⟩ ⟨am_blind, hrc, fun U hU hW => am_pre (vs := .ref a :: as) C hR hS U hU hW⟩ rfl (by rw [List.length_map]; exact hn) hL.1.1 rfl (lv_room hcat) d ⟨by omega, by omega⟩) hS (fun v h' H1 locs1 hq hR1 hS1 => ?_)
  rw [am_top]
  exact kk v h' hq E l p e R s m args below meth c C H1 ls locs1 (cells + nc1) (slots + ns1) mc ms hR1 hL hS1 h1 h2 (by omega) (by omega) h5 h6
theorem ex_callS (d : decode M.2.1 pc = .ok (.invokestatic idx, 3)) (hM : am_MM n M') (hl : Cond.methodLink M.1.cls idx M'.1 ∈ am_tbl) (hi : Cond.static M'.1 ∈ am_tbl) (hstk : stk = as.reverse ++ st) (hn : as.length = n) (hw : (st.map fun v => v.category).sum ≤ 8) (hlen : (am_in as).length ≤ M'.2.2.1)
    (hcal : Ex dp nc1 ns1 M' 0 (am_en as M'.2.2.1) [] h Q1) (kk : ∀ v h', Q1 v h' → Ex (dp + 1) nc ns M (pc + 3) L (v.toList ++ st) h' Q) : Ex (dp + 1) (nc1 + nc) (ns1 + ns) M pc L stk h Q := by
  intro E l p e R s m args below meth c C H ls locs cells slots mc ms hR hL hS h1 h2 h3 h4 h5 h6
  subst hstk
  have hts := C.2.2.2.2.2.1
  have hmet := am_met hcal hM.2.2.2.2.1 hlen l E
  have hrest : ((as.reverse ++ st).map (sv E)) = (as.map (sv E)).reverse ++ st.map (sv E) := by
    rw [List.map_append, List.map_reverse]
  have hcat : ((st.map (sv E)).map fun v => v.category).sum ≤ 8 := by rw [List.map_map]; simpa [Function.comp_def, sv_cat] using hw
  rw [hrest]
  refine am_call (va_runS (As := as.map (sv E)) (rest := st.map (sv E)) ⟨C.1, C.2.1, C.2.2.2.1, C.2.2.2.2.1, hts⟩ hmet ⟨am_cb C hM hl h1 h2, hts _ hi⟩ ⟨am_blind, fun U hU hW => am_pre (vs := as) C hR hS U hU hW⟩ rfl (by rw [List.length_map]; exact hn) hL.1.1 rfl (lv_room hcat) d ⟨by omega, by omega⟩) hS (fun v h' H1 locs1 hq hR1 hS1 => ?_)
  rw [am_top]
  exact kk v h' hq E l p e R s m args below meth c C H1 ls locs1 (cells + nc1) (slots + ns1) mc ms hR1 hL hS1 h1 h2 (by omega) (by omega) h5 h6
theorem ex_callI {a : Nat} (d : decode M.2.1 pc = .ok (.invokespecial idx, 3)) (hM : am_MM n M') (hr : M'.2.2.2 = none) (hnm : M'.1.name = "<init>") (hl : Cond.methodLink M.1.cls idx M'.1 ∈ am_tbl) (hi : Cond.instanceMethod M'.1 ∈ am_tbl) (hstk : stk = as.reverse ++ .ref a :: st) (hn : as.length = n) (hw : (st.map fun v => v.category).sum ≤ 8) (hlen : (am_in (.ref a :: as)).length ≤ M'.2.2.1)
    (hcal : Ex dp nc1 ns1 M' 0 (am_en (.ref a :: as) M'.2.2.1) [] h Q1) (kk : ∀ v h', Q1 v h' → Ex (dp + 1) nc ns M (pc + 3) L (v.toList ++ st) h' Q) : Ex (dp + 1) (nc1 + nc) (ns1 + ns) M pc L stk h Q := by
  intro E l p e R s m args below meth c C H ls locs cells slots mc ms hR hL hS h1 h2 h3 h4 h5 h6
  subst hstk
  have hts := C.2.2.2.2.2.1
  have hmet := am_met hcal hM.2.2.2.2.1 hlen l E
  have hcb := am_cb (nc := nc1) (ns := ns1) C hM hl h1 h2
  rw [hr] at hcb
  have hrest : ((as.reverse ++ .ref a :: st).map (sv E)) = (as.map (sv E)).reverse ++ Value.ref (E.1 + a) :: st.map (sv E) := by
    rw [List.map_append, List.map_reverse]; rfl
  have hcat : ((st.map (sv E)).map fun v => v.category).sum ≤ 8 := by rw [List.map_map]; simpa [Function.comp_def, sv_cat] using hw
  rw [hrest]
  refine am_call (va_runI (As := as.map (sv E)) (rest := st.map (sv E)) (b := E.1 + a) ⟨C.1, C.2.1, C.2.2.2.1, C.2.2.2.2.1, hts⟩ hmet ⟨hcb, hnm, hts _ hi⟩ ⟨am_blind, fun U hU hW => am_pre (vs := .ref a :: as) C hR hS U hU hW⟩ rfl (by rw [List.length_map]; exact hn) hL.1.1 rfl (lv_room hcat) d ⟨by omega, by omega⟩) hS (fun v h' H1 locs1 hq hR1 hS1 => ?_)
  rw [am_top]
  exact kk v h' hq E l p e R s m args below meth c C H1 ls locs1 (cells + nc1) (slots + ns1) mc ms hR1 hL hS1 h1 h2 (by omega) (by omega) h5 h6
/-- a constructor that is private, of a nest mate -/
theorem ex_callIN {a : Nat} {host : String} (d : decode M.2.1 pc = .ok (.invokespecial idx, 3)) (hM : am_MM n M') (hr : M'.2.2.2 = none) (hnm : M'.1.name = "<init>") (hl : Cond.methodLinkNest M.1.cls idx M'.1 host ∈ am_tbl) (hi : Cond.instanceMethod M'.1 ∈ am_tbl) (hstk : stk = as.reverse ++ .ref a :: st) (hn : as.length = n) (hw : (st.map fun v => v.category).sum ≤ 8) (hlen : (am_in (.ref a :: as)).length ≤ M'.2.2.1)
    (hcal : Ex dp nc1 ns1 M' 0 (am_en (.ref a :: as) M'.2.2.1) [] h Q1) (kk : ∀ v h', Q1 v h' → Ex (dp + 1) nc ns M (pc + 3) L (v.toList ++ st) h' Q) : Ex (dp + 1) (nc1 + nc) (ns1 + ns) M pc L stk h Q := by
  intro E l p e R s m args below meth c C H ls locs cells slots mc ms hR hL hS h1 h2 h3 h4 h5 h6
  subst hstk
  have hts := C.2.2.2.2.2.1
  have hmet := am_met hcal hM.2.2.2.2.1 hlen l E
  have hcn : va_CN R s args M.1.cls idx M'.1 host M'.2.1 M'.2.2.1 M'.2.2.2 (am_ws M') (am_rm dp nc1 ns1) nc1 ns1 n := by
    obtain ⟨g1, g2, g3, g4, g5, g6⟩ := hM
    refine ⟨⟨rfl, rfl, h1, by show 8 + (M'.2.2.1 + 11) + 64 * dp ≤ R.locals; omega, fun w hw => ?_, List.mem_cons_self⟩, hts _ g1, hts _ g2, g3, fun sig hs => ?_, hts _ hl⟩
    · rcases List.mem_cons.mp hw with rfl | hw
      · exact am_words hts _ g1
      · exact am_words hts _ hw
    · rw [hs] at g4
      exact (Option.some.inj g4).symm
  rw [hr] at hcn
  have hrest : ((as.reverse ++ .ref a :: st).map (sv E)) = (as.map (sv E)).reverse ++ Value.ref (E.1 + a) :: st.map (sv E) := by
    rw [List.map_append, List.map_reverse]; rfl
  have hcat : ((st.map (sv E)).map fun v => v.category).sum ≤ 8 := by rw [List.map_map]; simpa [Function.comp_def, sv_cat] using hw
  rw [hrest]
  refine am_call (va_runIN (As := as.map (sv E)) (rest := st.map (sv E)) (b := E.1 + a) ⟨C.1, C.2.1, C.2.2.2.1, C.2.2.2.2.1, hts⟩ hmet ⟨hcn, hnm, hts _ hi⟩ ⟨am_blind, fun U hU hW => am_pre (vs := .ref a :: as) C hR hS U hU hW⟩ rfl (by rw [List.length_map]; exact hn) hL.1.1 rfl (lv_room hcat) d ⟨by omega, by omega⟩) hS (fun v h' H1 locs1 hq hR1 hS1 => ?_)
  rw [am_top]
  exact kk v h' hq E l p e R s m args below meth c C H1 ls locs1 (cells + nc1) (slots + ns1) mc ms hR1 hL hS1 h1 h2 (by omega) (by omega) h5 h6
end Calls
