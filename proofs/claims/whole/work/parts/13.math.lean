/-! Math.max, min, abs -/
set_option maxRecDepth 20000 in
theorem cj_max : Cond.code Lib.Math.max.name Lib.Math.max.code 2 (some .int) ∈ am_tbl := am_t3 55 rfl rfl
set_option maxRecDepth 20000 in
theorem tj_max : Cond.static Lib.Math.max.name ∈ am_tbl := am_t3 54 rfl rfl
set_option maxRecDepth 20000 in
theorem cj_min : Cond.code Lib.Math.min.name Lib.Math.min.code 2 (some .int) ∈ am_tbl := am_t3 52 rfl rfl
set_option maxRecDepth 20000 in
theorem tj_min : Cond.static Lib.Math.min.name ∈ am_tbl := am_t3 51 rfl rfl
set_option maxRecDepth 20000 in
theorem cj_abs : Cond.code Lib.Math.abs.name Lib.Math.abs.code 1 (some .int) ∈ am_tbl := am_t5 189 rfl rfl
set_option maxRecDepth 20000 in
theorem tj_abs : Cond.static Lib.Math.abs.name ∈ am_tbl := am_t5 188 rfl rfl
set_option maxRecDepth 20000 in
theorem zj : Cond.initialized "java/lang/Math" ∈ am_tbl := am_t1 14 rfl rfl
section MathRules
variable {dp nc ns : Nat} {M : am_M} {pc idx : Nat} {L st : List Value} {h : am_H} {Q : Option Value → am_H → Prop}
theorem ex_mmax {x y : Int32} (d : decode M.2.1 pc = .ok (.invokestatic idx, 3)) (hl : Cond.methodLink M.1.cls idx Lib.Math.max.name ∈ am_tbl) (hw : (st.map fun v => v.category).sum ≤ 8) (kk : Ex (dp + 1) nc ns M (pc + 3) L (.int (if x < y then y else x) :: st) h Q) : Ex (dp + 1) nc ns M pc L (.int y :: .int x :: st) h Q := by
  intro E l p e R s m args below meth c C H ls locs cells slots mc ms hR hL hS h1 h2 h3 h4 h5 h6
  have hts := C.2.2.2.2.2.1
  have hcat : ((st.map (sv E)).map fun v => v.category).sum ≤ 8 := by rw [List.map_map]; simpa [Function.comp_def, sv_cat] using hw
  exact va_mmax C.1 C.2.1 (by rw [C.2.2.2.1]; exact hL.1.1.symm) C.2.2.2.2.1 (hts _ hl) (hts _ tj_max) (hts _ zj) (hts _ cj_max) (by omega) (by omega) (by omega) (by omega) d (kk E l p e R s m args below meth c C H ls locs cells slots mc ms hR hL hS h1 h2 h3 h4 h5 h6)
theorem ex_mmin {x y : Int32} (d : decode M.2.1 pc = .ok (.invokestatic idx, 3)) (hl : Cond.methodLink M.1.cls idx Lib.Math.min.name ∈ am_tbl) (hw : (st.map fun v => v.category).sum ≤ 8) (kk : Ex (dp + 1) nc ns M (pc + 3) L (.int (if y < x then y else x) :: st) h Q) : Ex (dp + 1) nc ns M pc L (.int y :: .int x :: st) h Q := by
  intro E l p e R s m args below meth c C H ls locs cells slots mc ms hR hL hS h1 h2 h3 h4 h5 h6
  have hts := C.2.2.2.2.2.1
  have hcat : ((st.map (sv E)).map fun v => v.category).sum ≤ 8 := by rw [List.map_map]; simpa [Function.comp_def, sv_cat] using hw
  exact va_mmin C.1 C.2.1 (by rw [C.2.2.2.1]; exact hL.1.1.symm) C.2.2.2.2.1 (hts _ hl) (hts _ tj_min) (hts _ zj) (hts _ cj_min) (by omega) (by omega) (by omega) (by omega) d (kk E l p e R s m args below meth c C H ls locs cells slots mc ms hR hL hS h1 h2 h3 h4 h5 h6)
theorem ex_mabs {x : Int32} (d : decode M.2.1 pc = .ok (.invokestatic idx, 3)) (hl : Cond.methodLink M.1.cls idx Lib.Math.abs.name ∈ am_tbl) (hw : (st.map fun v => v.category).sum ≤ 8) (kk : Ex (dp + 1) nc ns M (pc + 3) L (.int (if 0 ≤ x then x else 0 - x) :: st) h Q) : Ex (dp + 1) nc ns M pc L (.int x :: st) h Q := by
  intro E l p e R s m args below meth c C H ls locs cells slots mc ms hR hL hS h1 h2 h3 h4 h5 h6
  have hts := C.2.2.2.2.2.1
  have hcat : ((st.map (sv E)).map fun v => v.category).sum ≤ 8 := by rw [List.map_map]; simpa [Function.comp_def, sv_cat] using hw
  exact va_mabs C.1 C.2.1 (by rw [C.2.2.2.1]; exact hL.1.1.symm) C.2.2.2.2.1 (hts _ hl) (hts _ tj_abs) (hts _ zj) (hts _ cj_abs) (by omega) (by omega) (by omega) (by omega) d (kk E l p e R s m args below meth c C H ls locs cells slots mc ms hR hL hS h1 h2 h3 h4 h5 h6)
end MathRules
