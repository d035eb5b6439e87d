/-! THE RULES that read and write cells -/
theorem am_set {E : am_E} {h : am_H} {H H1 : Heap} {a : Nat} {e0 e : va_E} (hR : am_R E h H) (he : h[a]? = some e0) (hat : va_at E.2.2.2 vwCl (E.1 + a, am_cv E e) H1) (z : H1.size = H.size) (oq : ∀ q : Nat, q ≠ E.1 + a → H1[q]? = H[q]?) : am_R E (h.set a e) H1 := by
  refine ⟨by rw [z, List.length_set]; exact hR.1, ?_⟩
  rw [← am_wl_set]
  exact hR.2.set (am_wl_D h) (am_wl_get he) hat oq
theorem am_push {E : am_E} {h : am_H} {H H1 : Heap} {e : va_E} (hR : am_R E h H) (hat : va_at E.2.2.2 vwCl (E.1 + h.length, am_cv E e) H1) (z : H1.size = H.size + 1) (oq : ∀ q : Nat, q < H.size → H1[q]? = H[q]?) : am_R E (h ++ [e]) H1 := by
  refine ⟨by rw [z, hR.1]; simp; omega, ?_⟩
  rw [← am_wl_push]
  refine (hR.2.kept (fun k x hx => oq x.1 ((hR.2 k x hx).lt))).app (fun k x hx => ?_)
  have hz : k < 1 := (List.getElem?_eq_some_iff.mp hx).1
  rw [show k = 0 by omega] at hx
  cases hx
  exact hat
theorem am_S_put {E : am_E} {H0 H H1 : Heap} {locs : List Loc} {a k : Nat} (h : va_S (am_A E) H0 H locs) (z : H1.size = H.size) (oq : ∀ q : Nat, q ≠ E.1 + a → H1[q]? = H[q]?) : va_S (am_A E) H0 H1 (locs ++ [⟨E.1 + a, k⟩]) := h.put z oq (Nat.le_add_right _ _)
theorem am_S_push {E : am_E} {H0 H H1 : Heap} {locs : List Loc} (h : va_S (am_A E) H0 H locs) (z : H1.size = H.size + 1) (oq : ∀ q : Nat, q < H.size → H1[q]? = H[q]?) : va_S (am_A E) H0 H1 locs := ⟨Nat.le_trans h.1 (by omega), fun q h1 h2 => (oq q (Nat.lt_of_lt_of_le h1 h.1)).trans (h.2.1 q h1 h2), h.2.2⟩
/-- a field: its class' number and its place, by the tables -/
def am_F (own : String) (idx ci k : Nat) : Prop := ∃ (C : String) (T : u_T) (N : Nat), vwCl[ci]? = some (C, T, N) ∧ k < N ∧ (∀ w ∈ u_ws C T N, w ∈ am_tbl) ∧ Cond.fieldLink own idx (T k).1 (T k).2.1 (T k).2.2.1 ∈ am_tbl
/-- a class: its number, how many fields, their types -/
def am_K (ci : Nat) (C : String) (T : u_T) (N : Nat) (ty0 : Nat → FieldType) : Prop := vwCl[ci]? = some (C, T, N) ∧ (∀ w ∈ u_ws C T N, w ∈ am_tbl) ∧ (∀ k, k < N → parseFieldDescriptor (T k).2.2.1 = some (ty0 k)) ∧ (∀ a, a < N → ∀ b, b < N → a ≠ b → (T a).2.1 ≠ (T b).2.1)
def am_Fw (own : String) (idx ci k : Nat) (fin : Bool) (ty : FieldType) : Prop := ∃ (C : String) (T : u_T) (N : Nat) (ty0 : Nat → FieldType), am_K ci C T N ty0 ∧ k < N ∧ Cond.fieldLink own idx (T k).1 (T k).2.1 (T k).2.2.1 ∈ am_tbl ∧ (T k).2.2.2 = fin ∧ (T k).1 = C ∧ ty0 k = ty
section Cells
variable {dp nc ns : Nat} {M : am_M} {pc : Nat} {L st : List Value} {h : am_H} {Q : Option Value → am_H → Prop}
theorem ex_getf {idx ci k a : Nat} {fs : List Value} {v : Value} (hf : am_F M.1.cls idx ci k) (d : decode M.2.1 pc = .ok (.getfield idx, 3)) (ho : h[a]? = some (.inr (ci, fs))) (hv : fs[k]? = some v) (kk : Ex dp nc ns M (pc + 3) L (v :: st) h Q) : Ex dp nc ns M pc L (.ref a :: st) h Q := by
  intro E l p e R s m args below meth c C H ls locs cells slots mc ms hR hL hS h1 h2 h3 h4 h5 h6
  obtain ⟨Cn, T, N, g1, g2, g3, g4⟩ := hf
  refine va_get (D := E.2.2.2) (cl := vwCl) (tys := am_tys E) (ws := am_wl E h) (fs := fs.map (sv E)) (v := sv E v) C.1 C.2.1 C.2.2.2.2.2.1 g3 C.2.2.2.2.1 C.2.2.2.2.2.2.2.1 hR.2 a (am_wl_get ho) g1 k g2 (C.2.2.2.2.2.1 _ g4) (fun _ h9 => h9) (by rw [List.getElem?_map, hv]; rfl) d ?_
  exact kk E l p e R s m args below meth c C H ls locs cells slots mc ms hR hL hS h1 h2 h3 h4 h5 h6
theorem ex_putf {idx ci k a : Nat} {fs : List Value} {v : Value} {ty : FieldType} (hf : am_Fw M.1.cls idx ci k false ty) (d : decode M.2.1 pc = .ok (.putfield idx, 3)) (ho : h[a]? = some (.inr (ci, fs))) (hl : k < fs.length) (hn : ∀ E, narrow ty (sv E v) = sv E v) (hfit : ∀ E, fits ty (sv E v) = true) (kk : Ex dp nc ns M (pc + 3) L st (h.set a (.inr (ci, fs.set k v))) Q) : Ex dp nc ns M pc L (v :: .ref a :: st) h Q := by
  intro E l p e R s m args below meth c C H ls locs cells slots mc ms hR hL hS h1 h2 h3 h4 h5 h6
  obtain ⟨Cn, T, N, ty0, ⟨gc, hin, hty, hnm⟩, hk, glink, hfin, hdecl, rfl⟩ := hf
  have hts := C.2.2.2.2.2.1
  have hK := C.2.2.2.2.2.2.2.1
  have hap := va_apart (own := M.1.cls) hts hin ty0 hty hnm hK gc
  obtain ⟨r, g1, cell, q1, q2, q3, q4⟩ := hR.2 a _ (am_wl_get ho)
  have hr : r = (Cn, T, N) := Option.some.inj (g1.symm.trans gc)
  subst hr
  obtain ⟨hSl, hfc, kC, hkC, hkind⟩ := hK.1 ci _ gc
  obtain ⟨cf, kf, fi, f, hi, hsl⟩ := hSl k hk
  have hlay := hts _ (hin _ (u_in_lay hk))
  unfold u_lay at hlay
  rw [if_neg (by rw [hfin]; decide)] at hlay
  have hst := (u_facts hfc hkC (u_lays hts hin hk) hi).1
  have g6 := u_store hfc hkC hkind hlay hi (hty k hk) (hn E) (hfit E)
  refine W.putK C.1 C.2.1 (f := f) ⟨C.2.2.2.2.1, hts _ glink, ⟨_, _, _, hi⟩, hst⟩ (by rw [q2]; exact g6) q1 q3 (by rw [hsl]; exact k2_hasslot (q4 k hk)) rfl rfl d fun H' e1 e2 e3 => ?_
  rw [hsl] at e1 ⊢
  have hob : va_at E.2.2.2 vwCl (E.1 + a, am_cv E (.inr (ci, fs.set k v))) H' := by
    refine ⟨_, gc, ?_⟩
    show t_OB _ _ _ _ _ (vp_V ((fs.set k v).map (sv E)))
    rw [List.map_set]
    exact t_OB.to (V := updV (vp_V (fs.map (sv E))) k (sv E v)) ⟨_, e1, q2, q3, t_set q4 hap hk (sv E v)⟩ (fun j _ => vp_updV_set (by simpa using hl) (sv E v) j)
  exact kk E l p e R s m args below meth c C H' ls _ cells slots mc ms (am_set hR ho hob e2 e3) hL (am_S_put hS e2 e3) h1 h2 h3 h4 h5 h6
theorem ex_putF {idx ci k a : Nat} {fs : List Value} {v : Value} {ty : FieldType} (hf : am_Fw M.1.cls idx ci k true ty) (hcl : ∀ (r : vw_C), vwCl[ci]? = some r → r.1 = M.1.cls) (hin2 : M.1.name = "<init>") (d : decode M.2.1 pc = .ok (.putfield idx, 3)) (ho : h[a]? = some (.inr (ci, fs))) (hl : k < fs.length) (hn : ∀ E, narrow ty (sv E v) = sv E v) (hfit : ∀ E, fits ty (sv E v) = true) (kk : Ex dp nc ns M (pc + 3) L st (h.set a (.inr (ci, fs.set k v))) Q) : Ex dp nc ns M pc L (v :: .ref a :: st) h Q := by
  intro E l p e R s m args below meth c C H ls locs cells slots mc ms hR hL hS h1 h2 h3 h4 h5 h6
  obtain ⟨Cn, T, N, ty0, ⟨gc, hin, hty, hnm⟩, hk, glink, hfin, hdecl, rfl⟩ := hf
  have hts := C.2.2.2.2.2.1
  have hK := C.2.2.2.2.2.2.2.1
  have hown := C.2.2.2.2.1
  have hap := va_apart (own := M.1.cls) hts hin ty0 hty hnm hK gc
  obtain ⟨r, g1, cell, q1, q2, q3, q4⟩ := hR.2 a _ (am_wl_get ho)
  have hr : r = (Cn, T, N) := Option.some.inj (g1.symm.trans gc)
  subst hr
  obtain ⟨hSl, hfc, kC, hkC, hkind⟩ := hK.1 ci _ gc
  obtain ⟨cf, kf, fi, f, hi, hsl⟩ := hSl k hk
  have hlay := hts _ (hin _ (u_in_lay hk))
  unfold u_lay at hlay
  rw [if_pos hfin] at hlay
  have hst := (u_facts hfc hkC (u_lays hts hin hk) hi).1
  have hcf : m.cls = cf := by
    obtain ⟨_, _, c', _, _, _, -, -, hf', -, -, -, hown2, -⟩ := Cond.laysFinal_spec hlay
    have e1 : c' = cf := by have := hi.symm.trans hf'; simp at this; exact this.1.symm
    rw [hdecl, show Cn = M.1.cls from hcl _ gc] at hown2
    rw [← e1]; exact Option.some.inj (hown.symm.trans hown2)
  have g6 := u_fits hfc hkC hkind (Or.inr hlay) hi (hty k hk) (hn E) (hfit E)
  refine W.putFinK C.1 C.2.1 hown (hts _ glink) hi hst hcf (by rw [C.2.2.2.2.2.2.2.2.2]; exact hin2) (by rw [q2]; exact g6) q1 q3 (by rw [hsl]; exact k2_hasslot (q4 k hk)) rfl rfl d fun H' e1 e2 e3 => ?_
  rw [hsl] at e1 ⊢
  have hob : va_at E.2.2.2 vwCl (E.1 + a, am_cv E (.inr (ci, fs.set k v))) H' := by
    refine ⟨_, gc, ?_⟩
    show t_OB _ _ _ _ _ (vp_V ((fs.set k v).map (sv E)))
    rw [List.map_set]
    exact t_OB.to (V := updV (vp_V (fs.map (sv E))) k (sv E v)) ⟨_, e1, q2, q3, t_set q4 hap hk (sv E v)⟩ (fun j _ => vp_updV_set (by simpa using hl) (sv E v) j)
  exact kk E l p e R s m args below meth c C H' ls _ cells slots mc ms (am_set hR ho hob e2 e3) hL (am_S_put hS e2 e3) h1 h2 h3 h4 h5 h6
-- GEN BEGIN
theorem ex_iald {a n : Nat} {f : Nat → Int32} {i : Int32} (d : decode M.2.1 pc = .ok (.iaload, 1)) (ha : h[a]? = some (.inl (0, n, .inl f))) (hin : vp_in i n) (kk : Ex dp nc ns M (pc + 1) L (.int (f i.toNatClampNeg) :: st) h Q) : Ex dp nc ns M pc L (.int i :: .ref a :: st) h Q := by
  intro E l p e R s m args below meth c C H ls locs cells slots mc ms hR hL hS h1 h2 h3 h4 h5 h6
  exact va_iald (D := E.2.2.2) (cl := vwCl) (tys := am_tys E) (ws := am_wl E h) C.1 C.2.1 C.2.2.2.2.2.2.2.1 hR.2 a 0 (am_wl_get ha) rfl hin d (kk E l p e R s m args below meth c C H ls locs cells slots mc ms hR hL hS h1 h2 h3 h4 h5 h6)
theorem ex_bald {a n : Nat} {f : Nat → Int32} {i : Int32} (d : decode M.2.1 pc = .ok (.baload, 1)) (ha : h[a]? = some (.inl (1, n, .inl f))) (hin : vp_in i n) (kk : Ex dp nc ns M (pc + 1) L (.int (f i.toNatClampNeg) :: st) h Q) : Ex dp nc ns M pc L (.int i :: .ref a :: st) h Q := by
  intro E l p e R s m args below meth c C H ls locs cells slots mc ms hR hL hS h1 h2 h3 h4 h5 h6
  exact va_bald (D := E.2.2.2) (cl := vwCl) (tys := am_tys E) (ws := am_wl E h) C.1 C.2.1 C.2.2.2.2.2.2.2.1 hR.2 a 1 (am_wl_get ha) rfl hin d (kk E l p e R s m args below meth c C H ls locs cells slots mc ms hR hL hS h1 h2 h3 h4 h5 h6)
theorem ex_zald {a n : Nat} {f : Nat → Int32} {i : Int32} (d : decode M.2.1 pc = .ok (.baload, 1)) (ha : h[a]? = some (.inl (2, n, .inl f))) (hin : vp_in i n) (kk : Ex dp nc ns M (pc + 1) L (.int (f i.toNatClampNeg) :: st) h Q) : Ex dp nc ns M pc L (.int i :: .ref a :: st) h Q := by
  intro E l p e R s m args below meth c C H ls locs cells slots mc ms hR hL hS h1 h2 h3 h4 h5 h6
  exact va_zald (D := E.2.2.2) (cl := vwCl) (tys := am_tys E) (ws := am_wl E h) C.1 C.2.1 C.2.2.2.2.2.2.2.1 hR.2 a 2 (am_wl_get ha) rfl hin d (kk E l p e R s m args below meth c C H ls locs cells slots mc ms hR hL hS h1 h2 h3 h4 h5 h6)
theorem ex_lald {a n : Nat} {f : Nat → Int64} {i : Int32} (d : decode M.2.1 pc = .ok (.laload, 1)) (ha : h[a]? = some (.inl (3, n, .inr (.inl f)))) (hin : vp_in i n) (kk : Ex dp nc ns M (pc + 1) L (.long (f i.toNatClampNeg) :: st) h Q) : Ex dp nc ns M pc L (.int i :: .ref a :: st) h Q := by
  intro E l p e R s m args below meth c C H ls locs cells slots mc ms hR hL hS h1 h2 h3 h4 h5 h6
  exact va_lald (D := E.2.2.2) (cl := vwCl) (tys := am_tys E) (ws := am_wl E h) C.1 C.2.1 C.2.2.2.2.2.2.2.1 hR.2 a 3 (am_wl_get ha) rfl hin d (kk E l p e R s m args below meth c C H ls locs cells slots mc ms hR hL hS h1 h2 h3 h4 h5 h6)
theorem sv_rf (E : am_E) (r : Option Nat) : sv E (va_rf r) = va_rf (r.map (fun i => E.1 + i)) := by cases r <;> rfl
/-- the array kinds of references: which class -/
def am_ra (t : Nat) : String := if t = 4 then "TopSays$Row" else if t = 5 then "TopSays$Table" else "TopSays$Text"
theorem am_ra_at {E : am_E} {t : Nat} (ht : t = 4 ∨ t = 5 ∨ t = 6) : (am_tys E)[t]? = some (E.2.2.1 t, .object (am_ra t)) := by rcases ht with rfl | rfl | rfl <;> rfl
theorem ex_aald {a n t : Nat} {f : Nat → Option Nat} {i : Int32} (ht : t = 4 ∨ t = 5 ∨ t = 6) (d : decode M.2.1 pc = .ok (.aaload, 1)) (ha : h[a]? = some (.inl (t, n, .inr (.inr (.inr (.inr f)))))) (hin : vp_in i n) (kk : Ex dp nc ns M (pc + 1) L (va_rf (f i.toNatClampNeg) :: st) h Q) : Ex dp nc ns M pc L (.int i :: .ref a :: st) h Q := by
  intro E l p e R s m args below meth c C H ls locs cells slots mc ms hR hL hS h1 h2 h3 h4 h5 h6
  have w := kk E l p e R s m args below meth c C H ls locs cells slots mc ms hR hL hS h1 h2 h3 h4 h5 h6
  have w : W p l e R s m args below meth c H locs cells slots (MQ below (am_Qc E Q) args s mc ms (am_A E)) (F0 m (pc + 1) ls (sv E (va_rf (f i.toNatClampNeg)) :: st.map (sv E))) := w
  rw [sv_rf] at w
  exact va_aldq (D := E.2.2.2) (cl := vwCl) (tys := am_tys E) (ws := am_wl E h) C.1 C.2.1 C.2.2.2.2.2.2.2.1 hR.2 a t (am_wl_get ha) (am_ra_at ht) hin d w
theorem ex_alen {a t : Nat} {x : vp_A} (ht : t < 7) (d : decode M.2.1 pc = .ok (.arraylength, 1)) (ha : h[a]? = some (.inl (t, x))) (kk : Ex dp nc ns M (pc + 1) L (.int (Int32.ofNat x.1) :: st) h Q) : Ex dp nc ns M pc L (.ref a :: st) h Q := by
  intro E l p e R s m args below meth c C H ls locs cells slots mc ms hR hL hS h1 h2 h3 h4 h5 h6
  have key : ∃ ty, (am_tys E)[t]? = some (E.2.2.1 t, ty) := by
    rcases (show t = 0 ∨ t = 1 ∨ t = 2 ∨ t = 3 ∨ t = 4 ∨ t = 5 ∨ t = 6 by omega) with rfl | rfl | rfl | rfl | rfl | rfl | rfl <;> exact ⟨_, rfl⟩
  obtain ⟨ty, hty⟩ := key
  exact va_alen (D := E.2.2.2) (cl := vwCl) (tys := am_tys E) (ws := am_wl E h) C.1 C.2.1 C.2.2.2.2.2.2.2.1 hR.2 a t (am_wl_get ha) hty rfl d (kk E l p e R s m args below meth c C H ls locs cells slots mc ms hR hL hS h1 h2 h3 h4 h5 h6)
theorem ex_iast {a n : Nat} {f : Nat → Int32} {i : Int32} {x : Int32} (d : decode M.2.1 pc = .ok (.iastore, 1)) (ha : h[a]? = some (.inl (0, n, .inl f))) (hin : vp_in i n) (kk : Ex dp nc ns M (pc + 1) L st (h.set a (.inl (0, n, .inl (upd f i.toNatClampNeg x)))) Q) : Ex dp nc ns M pc L (.int x :: .int i :: .ref a :: st) h Q := by
  intro E l p e R s m args below meth c C H ls locs cells slots mc ms hR hL hS h1 h2 h3 h4 h5 h6
  refine W.iast C.1 C.2.1 (hR.2 a _ (am_wl_get ha)) ((C.2.2.2.2.2.2.2.1.2 0 _ rfl).1 n (fun j => .int (f j))) (fun q => by cases q) (by show ¬ (i < 0 ∨ (arrV _ _ _).slots.size ≤ _); rw [arrV_size]; exact hin) rfl rfl d fun H1 e1 z oq => ?_
  refine kk E l p e R s m args below meth c C H1 ls _ cells slots mc ms (am_set hR ha ?_ z oq) hL (am_S_put hS z oq) h1 h2 h3 h4 h5 h6
  show H1[E.1 + a]? = some (vp_cell _ (n, .inl (upd f i.toNatClampNeg x)))
  rw [e1]
  show some ((vp_cell _ (n, .inl f)).setSlot _ _) = _
  rw [vp_cell_i, vp_cell_i, arrV_store]
  congr 2
  funext q
  by_cases hq : q = i.toNatClampNeg
  · subst hq
    simp [updV, upd]
    try rfl
  · simp [updV, upd, hq]
theorem ex_bast {a n : Nat} {f : Nat → Int32} {i : Int32} {x : Int32} (d : decode M.2.1 pc = .ok (.bastore, 1)) (ha : h[a]? = some (.inl (1, n, .inl f))) (hin : vp_in i n) (kk : Ex dp nc ns M (pc + 1) L st (h.set a (.inl (1, n, .inl (upd f i.toNatClampNeg (vp_nar .byte x))))) Q) : Ex dp nc ns M pc L (.int x :: .int i :: .ref a :: st) h Q := by
  intro E l p e R s m args below meth c C H ls locs cells slots mc ms hR hL hS h1 h2 h3 h4 h5 h6
  refine W.bast C.1 C.2.1 (hR.2 a _ (am_wl_get ha)) ((C.2.2.2.2.2.2.2.1.2 1 _ rfl).1 n (fun j => .int (f j))) (fun q => by cases q) (by show ¬ (i < 0 ∨ (arrV _ _ _).slots.size ≤ _); rw [arrV_size]; exact hin) rfl rfl d fun H1 e1 z oq => ?_
  refine kk E l p e R s m args below meth c C H1 ls _ cells slots mc ms (am_set hR ha ?_ z oq) hL (am_S_put hS z oq) h1 h2 h3 h4 h5 h6
  show H1[E.1 + a]? = some (vp_cell _ (n, .inl (upd f i.toNatClampNeg (vp_nar .byte x))))
  rw [e1]
  show some ((vp_cell _ (n, .inl f)).setSlot _ _) = _
  rw [vp_cell_i, vp_cell_i, arrV_store]
  congr 2
  funext q
  by_cases hq : q = i.toNatClampNeg
  · subst hq
    simp [updV, upd, vp_nar]
    try rfl
  · simp [updV, upd, hq]
theorem ex_zast {a n : Nat} {f : Nat → Int32} {i : Int32} {x : Int32} (d : decode M.2.1 pc = .ok (.bastore, 1)) (ha : h[a]? = some (.inl (2, n, .inl f))) (hin : vp_in i n) (kk : Ex dp nc ns M (pc + 1) L st (h.set a (.inl (2, n, .inl (upd f i.toNatClampNeg (vp_nar .boolean x))))) Q) : Ex dp nc ns M pc L (.int x :: .int i :: .ref a :: st) h Q := by
  intro E l p e R s m args below meth c C H ls locs cells slots mc ms hR hL hS h1 h2 h3 h4 h5 h6
  refine W.zast C.1 C.2.1 (hR.2 a _ (am_wl_get ha)) ((C.2.2.2.2.2.2.2.1.2 2 _ rfl).1 n (fun j => .int (f j))) (fun q => by cases q) (by show ¬ (i < 0 ∨ (arrV _ _ _).slots.size ≤ _); rw [arrV_size]; exact hin) rfl rfl d fun H1 e1 z oq => ?_
  refine kk E l p e R s m args below meth c C H1 ls _ cells slots mc ms (am_set hR ha ?_ z oq) hL (am_S_put hS z oq) h1 h2 h3 h4 h5 h6
  show H1[E.1 + a]? = some (vp_cell _ (n, .inl (upd f i.toNatClampNeg (vp_nar .boolean x))))
  rw [e1]
  show some ((vp_cell _ (n, .inl f)).setSlot _ _) = _
  rw [vp_cell_i, vp_cell_i, arrV_store]
  congr 2
  funext q
  by_cases hq : q = i.toNatClampNeg
  · subst hq
    simp [updV, upd, vp_nar]
    try rfl
  · simp [updV, upd, hq]
theorem ex_last {a n : Nat} {f : Nat → Int64} {i : Int32} {x : Int64} (d : decode M.2.1 pc = .ok (.lastore, 1)) (ha : h[a]? = some (.inl (3, n, .inr (.inl f)))) (hin : vp_in i n) (kk : Ex dp nc ns M (pc + 1) L st (h.set a (.inl (3, n, .inr (.inl (vp_updL f i.toNatClampNeg x))))) Q) : Ex dp nc ns M pc L (.long x :: .int i :: .ref a :: st) h Q := by
  intro E l p e R s m args below meth c C H ls locs cells slots mc ms hR hL hS h1 h2 h3 h4 h5 h6
  refine W.last C.1 C.2.1 (hR.2 a _ (am_wl_get ha)) ((C.2.2.2.2.2.2.2.1.2 3 _ rfl).1 n (fun j => .long (f j))) (fun q => by cases q) (by show ¬ (i < 0 ∨ (arrV _ _ _).slots.size ≤ _); rw [arrV_size]; exact hin) rfl rfl d fun H1 e1 z oq => ?_
  refine kk E l p e R s m args below meth c C H1 ls _ cells slots mc ms (am_set hR ha ?_ z oq) hL (am_S_put hS z oq) h1 h2 h3 h4 h5 h6
  show H1[E.1 + a]? = some (vp_cell _ (n, .inr (.inl (vp_updL f i.toNatClampNeg x))))
  rw [e1]
  show some ((vp_cell _ (n, .inr (.inl f))).setSlot _ _) = _
  rw [vp_cell_l, vp_cell_l, arrV_store]
  congr 2
  funext q
  by_cases hq : q = i.toNatClampNeg
  · subst hq
    simp [updV, vp_updL]
    try rfl
  · simp [updV, vp_updL, hq]
end Cells
