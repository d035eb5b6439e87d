/-! THE RULES of what stands outside: texts, statics; Object's constructor; arraycopy -/
def am_s (i : Nat) : Value := .float (UInt32.ofNat (16 + i))
def am_sb (i : Nat) : Value := .float (UInt32.ofNat (32 + i))
theorem am_s_sv {E : am_E} {i a : Nat} (hi : i < 11) (h : E.2.1 (16 + i) = some a) : sv E (am_s i) = .ref a := by
  show va_rf (E.2.1 (UInt32.ofNat (16 + i)).toNat) = .ref a
  rw [UInt32.toNat_ofNat_of_lt' (by simp [UInt32.size]; omega), h]
  rfl
theorem am_sb_sv {E : am_E} {i a : Nat} (hi : i < 11) (h : E.2.1 (32 + i) = some a) : sv E (am_sb i) = .ref a := by
  show va_rf (E.2.1 (UInt32.ofNat (32 + i)).toNat) = .ref a
  rw [UInt32.toNat_ofNat_of_lt' (by simp [UInt32.size]; omega), h]
  rfl
section Outside
variable {dp nc1 ns1 nc ns : Nat} {M M' : am_M} {pc idx n : Nat} {L st stk as : List Value} {h : am_H} {Q Q1 : Option Value → am_H → Prop}
theorem ex_obj {a : Nat} (d : decode M.2.1 pc = .ok (.invokespecial idx, 3)) (hl : Cond.methodLink M.1.cls idx objectInit ∈ am_tbl) (hi : Cond.instanceMethod objectInit ∈ am_tbl) (hc : Cond.code objectInit ⟨#[0xb1]⟩ 1 none ∈ am_tbl) (hw : (st.map fun v => v.category).sum ≤ 8) (kk : Ex (dp + 1) nc ns M (pc + 3) L st h Q) : Ex (dp + 1) nc ns M pc L (.ref a :: st) h Q := by
  intro E l p e R s m args below meth c C H ls locs cells slots mc ms hR hL hS h1 h2 h3 h4 h5 h6
  have hts := C.2.2.2.2.2.1
  have hcat : ((st.map (sv E)).map fun v => v.category).sum ≤ 8 := by rw [List.map_map]; simpa [Function.comp_def, sv_cat] using hw
  exact W.objInit C.1 C.2.1 C.2.2.2.2.1 (hts _ hl) (hts _ hi) (hts _ hc) rfl (by rw [C.2.2.2.1]; exact hL.1.1) rfl d (by omega) (by show 2 * 0 + _ + 12 ≤ _; omega) (kk E l p e R s m args below meth c C H ls locs cells slots mc ms hR hL hS h1 h2 h3 h4 h5 h6)
theorem ex_getsC (hl : Cond.fieldLink M.1.cls idx "java/lang/String" "COMPACT_STRINGS" "Z" ∈ am_tbl) (d : decode M.2.1 pc = .ok (.getstatic idx, 3)) (kk : Ex dp nc ns M (pc + 3) L (.int 1 :: st) h Q) : Ex dp nc ns M pc L st h Q := by
  intro E l p e R s m args below meth c C H ls locs cells slots mc ms hR hL hS h1 h2 h3 h4 h5 h6
  exact va_gets C.1 C.2.1 C.2.2.2.2.2.2.2.2.1.2.2.1 hS C.2.2.2.2.1 (C.2.2.2.2.2.1 _ hl) (fun _ h9 => h9) d (kk E l p e R s m args below meth c C H ls locs cells slots mc ms hR hL hS h1 h2 h3 h4 h5 h6)
theorem ex_getsF (hl : Cond.fieldLink M.1.cls idx "jdk/internal/util/Preconditions" "SIOOBE_FORMATTER" "Ljava/util/function/BiFunction;" ∈ am_tbl) (d : decode M.2.1 pc = .ok (.getstatic idx, 3)) (kk : Ex dp nc ns M (pc + 3) L (.float 2 :: st) h Q) : Ex dp nc ns M pc L st h Q := by
  intro E l p e R s m args below meth c C H ls locs cells slots mc ms hR hL hS h1 h2 h3 h4 h5 h6
  exact va_gets C.1 C.2.1 C.2.2.2.2.2.2.2.2.1.2.2.2 hS C.2.2.2.2.1 (C.2.2.2.2.2.1 _ hl) (fun _ h9 => h9) d (kk E l p e R s m args below meth c C H ls locs cells slots mc ms hR hL hS h1 h2 h3 h4 h5 h6)
theorem ex_getsR (hl : Cond.fieldLink M.1.cls idx "TopSays$Ways" "ROWS" "[I" ∈ am_tbl) (d : decode M.2.1 pc = .ok (.getstatic idx, 3)) (kk : Ex dp nc ns M (pc + 3) L (.float 1 :: st) h Q) : Ex dp nc ns M pc L st h Q := by
  intro E l p e R s m args below meth c C H ls locs cells slots mc ms hR hL hS h1 h2 h3 h4 h5 h6
  obtain ⟨t, g1, g2, g3⟩ := C.2.2.2.2.2.2.2.2.1.2.1
  have w := kk E l p e R s m args below meth c C H ls locs cells slots mc ms hR hL hS h1 h2 h3 h4 h5 h6
  have e1 : sv E (.float 1) = .ref t := by
    show va_rf (E.2.1 1) = .ref t
    rw [g1]; rfl
  have w : W p l e R s m args below meth c H locs cells slots (MQ below (am_Qc E Q) args s mc ms (am_A E)) (F0 m (pc + 3) ls (sv E (.float 1) :: st.map (sv E))) := w
  rw [e1] at w
  exact va_gets C.1 C.2.1 g2 hS C.2.2.2.2.1 (C.2.2.2.2.2.1 _ hl) (fun _ h9 => h9) d w
theorem ex_rowsAt {i : Int32} (d : decode M.2.1 pc = .ok (.iaload, 1)) (hin : vp_in i 8) (kk : Ex dp nc ns M (pc + 1) L (.int (([1, 1, 2, 6, 24, 120, 720, 5040] : List Int32).getD i.toNatClampNeg 0) :: st) h Q) : Ex dp nc ns M pc L (.int i :: .float 1 :: st) h Q := by
  intro E l p e R s m args below meth c C H ls locs cells slots mc ms hR hL hS h1 h2 h3 h4 h5 h6
  obtain ⟨t, g1, g2, g3⟩ := C.2.2.2.2.2.2.2.2.1.2.1
  have e1 : sv E (.float 1) = .ref t := by
    show va_rf (E.2.1 1) = .ref t
    rw [g1]; rfl
  show W p l e R s m args below meth c H locs cells slots _ (F0 m pc ls (.int i :: sv E (.float 1) :: st.map (sv E)))
  rw [e1]
  exact va_ti C.1 C.2.1 g3 hS hin rfl d (kk E l p e R s m args below meth c C H ls locs cells slots mc ms hR hL hS h1 h2 h3 h4 h5 h6)
theorem ex_rowsLen (d : decode M.2.1 pc = .ok (.arraylength, 1)) (kk : Ex dp nc ns M (pc + 1) L (.int 8 :: st) h Q) : Ex dp nc ns M pc L (.float 1 :: st) h Q := by
  intro E l p e R s m args below meth c C H ls locs cells slots mc ms hR hL hS h1 h2 h3 h4 h5 h6
  obtain ⟨t, g1, g2, g3⟩ := C.2.2.2.2.2.2.2.2.1.2.1
  have e1 : sv E (.float 1) = .ref t := by
    show va_rf (E.2.1 1) = .ref t
    rw [g1]; rfl
  show W p l e R s m args below meth c H locs cells slots _ (F0 m pc ls (sv E (.float 1) :: st.map (sv E)))
  rw [e1]
  exact va_tlen C.1 C.2.1 g3 hS rfl d (kk E l p e R s m args below meth c C H ls locs cells slots mc ms hR hL hS h1 h2 h3 h4 h5 h6)
theorem ex_sval {i : Nat} (hi : i < 11) (hl : Cond.fieldLink M.1.cls idx "java/lang/String" "value" "[B" ∈ am_tbl) (d : decode M.2.1 pc = .ok (.getfield idx, 3)) (kk : Ex dp nc ns M (pc + 3) L (am_sb i :: st) h Q) : Ex dp nc ns M pc L (am_s i :: st) h Q := by
  intro E l p e R s m args below meth c C H ls locs cells slots mc ms hR hL hS h1 h2 h3 h4 h5 h6
  obtain ⟨adK, adV, g1, g2, g3⟩ := C.2.2.2.2.2.2.2.2.1.1
  have w := kk E l p e R s m args below meth c C H ls locs cells slots mc ms hR hL hS h1 h2 h3 h4 h5 h6
  have w : W p l e R s m args below meth c H locs cells slots (MQ below (am_Qc E Q) args s mc ms (am_A E)) (F0 m (pc + 3) ls (sv E (am_sb i) :: st.map (sv E))) := w
  rw [am_sb_sv hi (g2 i hi).2] at w
  show W p l e R s m args below meth c H locs cells slots _ (F0 m pc ls (sv E (am_s i) :: st.map (sv E)))
  rw [am_s_sv hi (g2 i hi).1]
  exact vk_getf C.1 C.2.1 (g1.1 i hi).2.2.1 hS C.2.2.2.2.1 (C.2.2.2.2.2.1 _ hl) (fun _ h9 => h9) d w
theorem ex_scod {i : Nat} (hi : i < 11) (hl : Cond.fieldLink M.1.cls idx "java/lang/String" "coder" "B" ∈ am_tbl) (d : decode M.2.1 pc = .ok (.getfield idx, 3)) (kk : Ex dp nc ns M (pc + 3) L (.int 0 :: st) h Q) : Ex dp nc ns M pc L (am_s i :: st) h Q := by
  intro E l p e R s m args below meth c C H ls locs cells slots mc ms hR hL hS h1 h2 h3 h4 h5 h6
  obtain ⟨adK, adV, g1, g2, g3⟩ := C.2.2.2.2.2.2.2.2.1.1
  show W p l e R s m args below meth c H locs cells slots _ (F0 m pc ls (sv E (am_s i) :: st.map (sv E)))
  rw [am_s_sv hi (g2 i hi).1]
  exact vk_getf C.1 C.2.1 (g1.1 i hi).2.1 hS C.2.2.2.2.1 (C.2.2.2.2.2.1 _ hl) (fun _ h9 => h9) d (kk E l p e R s m args below meth c C H ls locs cells slots mc ms hR hL hS h1 h2 h3 h4 h5 h6)
theorem ex_sbAt {i : Nat} {j : Int32} (hi : i < 11) (d : decode M.2.1 pc = .ok (.baload, 1)) (hin : vp_in j (am_len.getD i 0)) (kk : Ex dp nc ns M (pc + 1) L (.int ((am_byt.getD i []).getD j.toNatClampNeg 0) :: st) h Q) : Ex dp nc ns M pc L (.int j :: am_sb i :: st) h Q := by
  intro E l p e R s m args below meth c C H ls locs cells slots mc ms hR hL hS h1 h2 h3 h4 h5 h6
  obtain ⟨adK, adV, g1, g2, g3⟩ := C.2.2.2.2.2.2.2.2.1.1
  show W p l e R s m args below meth c H locs cells slots _ (F0 m pc ls (.int j :: sv E (am_sb i) :: st.map (sv E)))
  rw [am_sb_sv hi (g2 i hi).2]
  exact va_tb C.1 C.2.1 (g1.1 i hi).2.2.2 hS hin rfl d (kk E l p e R s m args below meth c C H ls locs cells slots mc ms hR hL hS h1 h2 h3 h4 h5 h6)
theorem ex_sbLen {i : Nat} (hi : i < 11) (d : decode M.2.1 pc = .ok (.arraylength, 1)) (kk : Ex dp nc ns M (pc + 1) L (.int (Int32.ofNat (am_len.getD i 0)) :: st) h Q) : Ex dp nc ns M pc L (am_sb i :: st) h Q := by
  intro E l p e R s m args below meth c C H ls locs cells slots mc ms hR hL hS h1 h2 h3 h4 h5 h6
  obtain ⟨adK, adV, g1, g2, g3⟩ := C.2.2.2.2.2.2.2.2.1.1
  show W p l e R s m args below meth c H locs cells slots _ (F0 m pc ls (sv E (am_sb i) :: st.map (sv E)))
  rw [am_sb_sv hi (g2 i hi).2]
  exact va_tlen C.1 C.2.1 (g1.1 i hi).2.2.2 hS rfl d (kk E l p e R s m args below meth c C H ls locs cells slots mc ms hR hL hS h1 h2 h3 h4 h5 h6)
theorem ex_ldcS {tx : String} {i : Nat} (hi : i < 11) (hm : (M.1.cls, idx, tx, i) ∈ am_strs) (d : decode M.2.1 pc = .ok (.ldc idx, 2)) (kk : Ex dp nc ns M (pc + 2) L (am_s i :: st) h Q) : Ex dp nc ns M pc L st h Q := by
  intro E l p e R s m args below meth c C H ls locs cells slots mc ms hR hL hS h1 h2 h3 h4 h5 h6
  obtain ⟨adK, adV, g1, g2, g3⟩ := C.2.2.2.2.2.2.2.2.1.1
  have w := kk E l p e R s m args below meth c C H ls locs cells slots mc ms hR hL hS h1 h2 h3 h4 h5 h6
  have w : W p l e R s m args below meth c H locs cells slots (MQ below (am_Qc E Q) args s mc ms (am_A E)) (F0 m (pc + 2) ls (sv E (am_s i) :: st.map (sv E))) := w
  rw [am_s_sv hi (g2 i hi).1] at w
  exact va_ldcS C.1 C.2.1 C.2.2.2.2.1 (g3 _ hm) d w
theorem ex_callX {i : Nat} (hi : i < 11) (d : decode M.2.1 pc = .ok (.invokevirtual idx, 3)) (hM : am_MM n M') (hl : Cond.methodLink M.1.cls idx M'.1 ∈ am_tbl) (hin : Cond.instanceMethod M'.1 ∈ am_tbl) (hs : Cond.selects M'.1.cls M'.1 M'.1 ∈ am_tbl) (hstk : stk = as.reverse ++ am_s i :: st) (hn : as.length = n) (hcr : M'.1.cls = "java/lang/String") (hw : (st.map fun v => v.category).sum ≤ 8) (hlen : (am_in (am_s i :: as)).length ≤ M'.2.2.1)
    (hcal : Ex dp nc1 ns1 M' 0 (am_en (am_s i :: as) M'.2.2.1) [] h Q1) (kk : ∀ v h', Q1 v h' → Ex (dp + 1) nc ns M (pc + 3) L (v.toList ++ st) h' Q) : Ex (dp + 1) (nc1 + nc) (ns1 + ns) M pc L stk h Q := by
  intro E l p e R s m args below meth c C H ls locs cells slots mc ms hR hL hS h1 h2 h3 h4 h5 h6
  subst hstk
  have hts := C.2.2.2.2.2.1
  obtain ⟨adK, adV, g1, g2, g3⟩ := C.2.2.2.2.2.2.2.2.1.1
  have hrc := vk_recv g1 hi hS
  rw [← hcr] at hrc
  have hmet := am_met hcal hM.2.2.2.2.1 hlen l E
  have hrest : ((as.reverse ++ am_s i :: st).map (sv E)) = (as.map (sv E)).reverse ++ Value.ref (adK i) :: st.map (sv E) := by
    rw [List.map_append, List.map_reverse, List.map_cons, am_s_sv hi (g2 i hi).1]
  have hcat : ((st.map (sv E)).map fun v => v.category).sum ≤ 8 := by rw [List.map_map]; simpa [Function.comp_def, sv_cat] using hw
  rw [hrest]
  refine am_call (va_runV (As := as.map (sv E)) (rest := st.map (sv E)) (b := adK i) ⟨C.1, C.2.1, C.2.2.2.1, C.2.2.2.2.1, hts⟩ hmet ⟨am_cb C hM hl h1 h2, hts _ hin, hts _ hs⟩ ⟨am_blind, hrc, fun U hU hW => ?_⟩ rfl (by rw [List.length_map]; exact hn) hL.1.1 rfl (lv_room hcat) d ⟨by omega, by omega⟩) hS (fun v h' H1 locs1 hq hR1 hS1 => ?_)
  · have := am_pre (vs := am_s i :: as) C hR hS U hU hW
    rw [List.map_cons, am_s_sv hi (g2 i hi).1] at this
    exact this
  · rw [am_top]
    exact kk v h' hq E l p e R s m args below meth c C H1 ls locs1 (cells + nc1) (slots + ns1) mc ms hR1 hL hS1 h1 h2 (by omega) (by omega) h5 h6
theorem ex_copy {a0 a1 n0 n1 : Nat} {f g : Nat → Int32} {sp dq k : Int32} (d : decode M.2.1 pc = .ok (.invokestatic idx, 3)) (w1 : Cond.methodLink M.1.cls idx arraycopyName ∈ am_tbl) (w2 : Cond.native arraycopyName ∈ am_tbl) (w3 : Cond.static arraycopyName ∈ am_tbl) (w4 : Cond.initialized "java/lang/System" ∈ am_tbl) (ha0 : h[a0]? = some (.inl (0, n0, .inl f))) (ha1 : h[a1]? = some (.inl (0, n1, .inl g))) (g1 : ¬ sp < 0) (g2 : ¬ dq < 0) (g3 : ¬ k < 0) (g4 : sp.toNatClampNeg + k.toNatClampNeg ≤ n0) (g5 : dq.toNatClampNeg + k.toNatClampNeg ≤ n1) (hw : (st.map fun v => v.category).sum ≤ 8)
    (kk : Ex (dp + 1) nc ns M (pc + 3) L st (h.set a1 (.inl (0, n1, .inl (va_cpy f g sp.toNatClampNeg dq.toNatClampNeg k.toNatClampNeg)))) Q) : Ex (dp + 1) nc ns M pc L (.int k :: .int dq :: .ref a1 :: .int sp :: .ref a0 :: st) h Q := by
  intro E l p e R s m args below meth c C H ls locs cells slots mc ms hR hL hS h1 h2 h3 h4 h5 h6
  have hts := C.2.2.2.2.2.1
  have hcat : ((st.map (sv E)).map fun v => v.category).sum ≤ 8 := by rw [List.map_map]; simpa [Function.comp_def, sv_cat] using hw
  have nn : ∀ z : Int32, ¬ z < 0 → z.toInt = (z.toNatClampNeg : Int) := by
    intro z hz
    have hz0 : (0 : Int) ≤ z.toInt := by
      have := Int32.not_lt.mp hz
      simpa using Int32.le_iff_toInt_le.mp this
    show z.toInt = ((z.toInt.toNat : Nat) : Int)
    omega
  have hloc : 2 * 0 + ((st.map (sv E)).map fun v => v.category).sum + (nativeFrameWords "java/lang/System" "arraycopy" 5 + 11) ≤ R.locals := by
    have hnf : nativeFrameWords "java/lang/System" "arraycopy" 5 ≤ 40 := by decide +kernel
    omega
  intro T hT X
  have hc0 : H[E.1 + a0]? = some (vp_cell (E.2.2.1 0) (n0, .inl f)) := hR.2 a0 _ (am_wl_get ha0)
  have hc1 : H[E.1 + a1]? = some (vp_cell (E.2.2.1 0) (n1, .inl g)) := hR.2 a1 _ (am_wl_get ha1)
  obtain ⟨-, k0, hk0, cm0, hkk0⟩ := (C.2.2.2.2.2.2.2.1.2 0 _ rfl).1 n0 (fun j => .int (f j))
  obtain ⟨-, k1, hk1, cm1, hkk1⟩ := (C.2.2.2.2.2.2.2.1.2 0 _ rfl).1 n1 (fun j => .int (g j))
  obtain ⟨vm', X', step⟩ := X.arraycopy C.1 C.2.2.2.2.1 (hts _ w1) (hts _ w2) (hts _ w3) (hts _ w4) (src := E.1 + a0) (dst := E.1 + a1) (cs := vp_cell (E.2.2.1 0) (n0, .inl f)) (cd := vp_cell (E.2.2.1 0) (n1, .inl g)) (srcPos := sp) (destPos := dq) (n := k) (by rw [hT]; exact hc0) (by rw [hT]; exact hc1)
    (fun _ h => by cases h) (fun _ h => by cases h) (fun h => by cases h) (fun h => by cases h) hk0 hk1 hkk0 hkk1 (by simp [refKind]) g1 g2 g3
    (by rw [nn sp g1, nn k g3]; show ¬ _ > ((arrV _ n0 (fun j => .int (f j))).slots.size : Int); rw [arrV_size]; omega)
    (by rw [nn dq g2, nn k g3]; show ¬ _ > ((arrV _ n1 (fun j => .int (g j))).slots.size : Int); rw [arrV_size]; omega)
    (fun vm₁ _ i hi => by
      have e : (vp_cell (E.2.2.1 0) (n0, .inl f)).slots.getD (sp.toNatClampNeg + i) .null = .int (f (sp.toNatClampNeg + i)) := by
        show (arrV _ n0 (fun j => .int (f j))).slots.getD _ _ = _
        rw [Array.getD_eq_getD_getElem?, arrV_read _ _ (by omega)]
        rfl
      rw [e]
      exact ⟨rfl, trivial⟩)
    (g := F0 m pc ls (.int k :: .int dq :: .ref (E.1 + a1) :: .int sp :: .ref (E.1 + a0) :: st.map (sv E))) rfl (by rw [C.2.2.2.1]; exact hL.1.1) (rest := st.map (sv E)) rfl (by rw [C.2.1]; exact d) (by omega) hloc
  have e1 : copied (vp_cell (E.2.2.1 0) (n0, .inl f)) (vp_cell (E.2.2.1 0) (n1, .inl g)) sp dq k = vp_cell (E.2.2.1 0) (n1, .inl (va_cpy f g sp.toNatClampNeg dq.toNatClampNeg k.toNatClampNeg)) := va_copied (fun z => .int z) _ _ f g g4
  rw [e1] at X' step
  have hl : E.1 + a1 < H.size := (Array.getElem?_eq_some_iff.mp hc1).1
  generalize hcn : vp_cell (E.2.2.1 0) (n1, .inl (va_cpy f g sp.toNatClampNeg dq.toNatClampNeg k.toNatClampNeg)) = cn at X' step
  have hheap : ((T.setVm vm').setCell (E.1 + a1) cn).heap = H.setIfInBounds (E.1 + a1) cn := by rw [← hT]; rfl
  have oq : ∀ q : Nat, q ≠ E.1 + a1 → (H.setIfInBounds (E.1 + a1) cn)[q]? = H[q]? := fun q hq => by simp [Array.getElem?_setIfInBounds, Ne.symm hq]
  have hat : va_at E.2.2.2 vwCl (E.1 + a1, am_cv E (.inl (0, n1, .inl (va_cpy f g sp.toNatClampNeg dq.toNatClampNeg k.toNatClampNeg)))) (H.setIfInBounds (E.1 + a1) cn) := by
    show (H.setIfInBounds (E.1 + a1) cn)[E.1 + a1]? = some (vp_cell (E.2.2.1 0) (n1, .inl (va_cpy f g sp.toNatClampNeg dq.toNatClampNeg k.toNatClampNeg)))
    rw [hcn]
    simp [Array.getElem?_setIfInBounds, hl]
  obtain ⟨t, a2, b2⟩ := kk E l p e R s m args below meth c C (H.setIfInBounds (E.1 + a1) cn) ls _ cells slots mc ms (am_set hR ha1 hat (by simp) oq) hL ⟨by simp; exact hS.1, fun q q1 q2 => by
      rw [oq q (fun e => q2 (by rw [e]; exact Nat.le_add_right _ _))]
      exact hS.2.1 q q1 q2, fun q hq => by
      rcases List.mem_append.mp hq with h | h
      · exact hS.2.2 q h
      · obtain ⟨z, -, hz⟩ := List.mem_map.mp h
        rw [← hz]
        exact Nat.le_add_right _ _⟩ h1 h2 h3 h4 h5 h6 _ hheap X'
  exact ⟨t, step t a2, b2⟩
end Outside
