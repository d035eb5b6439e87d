/-! THE RULES: one instruction each, no cell touched -/
section Rules
variable {dp nc ns : Nat} {M : am_M} {pc : Nat} {L st : List Value} {h : am_H} {Q : Option Value → am_H → Prop}
theorem ex_iadd {x y : Int32} (d : decode M.2.1 pc = .ok (.iadd, 1)) (k : Ex dp nc ns M (pc + 1) L (.int (x + y) :: st) h Q) : Ex dp nc ns M pc L (.int y :: .int x :: st) h Q := Ex.one (fun E l p e R s m args below meth c C H ls locs cells slots Z hL w => lv_iadd C.1 C.2.1 d w) k
theorem ex_isub {x y : Int32} (d : decode M.2.1 pc = .ok (.isub, 1)) (k : Ex dp nc ns M (pc + 1) L (.int (x - y) :: st) h Q) : Ex dp nc ns M pc L (.int y :: .int x :: st) h Q := Ex.one (fun E l p e R s m args below meth c C H ls locs cells slots Z hL w => lv_isub C.1 C.2.1 d w) k
theorem ex_imul {x y : Int32} (d : decode M.2.1 pc = .ok (.imul, 1)) (k : Ex dp nc ns M (pc + 1) L (.int (x * y) :: st) h Q) : Ex dp nc ns M pc L (.int y :: .int x :: st) h Q := Ex.one (fun E l p e R s m args below meth c C H ls locs cells slots Z hL w => lv_imul C.1 C.2.1 d w) k
theorem ex_iand {x y : Int32} (d : decode M.2.1 pc = .ok (.iand, 1)) (k : Ex dp nc ns M (pc + 1) L (.int (x &&& y) :: st) h Q) : Ex dp nc ns M pc L (.int y :: .int x :: st) h Q := Ex.one (fun E l p e R s m args below meth c C H ls locs cells slots Z hL w => lv_iand C.1 C.2.1 d w) k
theorem ex_ior {x y : Int32} (d : decode M.2.1 pc = .ok (.ior, 1)) (k : Ex dp nc ns M (pc + 1) L (.int (x ||| y) :: st) h Q) : Ex dp nc ns M pc L (.int y :: .int x :: st) h Q := Ex.one (fun E l p e R s m args below meth c C H ls locs cells slots Z hL w => lv_ior C.1 C.2.1 d w) k
theorem ex_ixor {x y : Int32} (d : decode M.2.1 pc = .ok (.ixor, 1)) (k : Ex dp nc ns M (pc + 1) L (.int (x ^^^ y) :: st) h Q) : Ex dp nc ns M pc L (.int y :: .int x :: st) h Q := Ex.one (fun E l p e R s m args below meth c C H ls locs cells slots Z hL w => lv_ixor C.1 C.2.1 d w) k
theorem ex_ishl {x y : Int32} (d : decode M.2.1 pc = .ok (.ishl, 1)) (k : Ex dp nc ns M (pc + 1) L (.int (x <<< (y &&& 31)) :: st) h Q) : Ex dp nc ns M pc L (.int y :: .int x :: st) h Q := Ex.one (fun E l p e R s m args below meth c C H ls locs cells slots Z hL w => lv_ishl C.1 C.2.1 d w) k
theorem ex_ishr {x y : Int32} (d : decode M.2.1 pc = .ok (.ishr, 1)) (k : Ex dp nc ns M (pc + 1) L (.int (x >>> (y &&& 31)) :: st) h Q) : Ex dp nc ns M pc L (.int y :: .int x :: st) h Q := Ex.one (fun E l p e R s m args below meth c C H ls locs cells slots Z hL w => lv_ishr C.1 C.2.1 d w) k
theorem ex_idiv {x y : Int32} (d : decode M.2.1 pc = .ok (.idiv, 1)) (hne : ¬ y = 0) (k : Ex dp nc ns M (pc + 1) L (.int (x / y) :: st) h Q) : Ex dp nc ns M pc L (.int y :: .int x :: st) h Q := Ex.one (fun E l p e R s m args below meth c C H ls locs cells slots Z hL w => lv_idiv C.1 C.2.1 d hne w) k
theorem ex_irem {x y : Int32} (d : decode M.2.1 pc = .ok (.irem, 1)) (hne : ¬ y = 0) (k : Ex dp nc ns M (pc + 1) L (.int (x - x / y * y) :: st) h Q) : Ex dp nc ns M pc L (.int y :: .int x :: st) h Q := Ex.one (fun E l p e R s m args below meth c C H ls locs cells slots Z hL w => lv_irem C.1 C.2.1 d hne w) k
theorem ex_iushr {x y : Int32} (d : decode M.2.1 pc = .ok (.iushr, 1)) (k : Ex dp nc ns M (pc + 1) L (.int (x.toUInt32 >>> (y.toUInt32 &&& Int32.toUInt32 31)).toInt32 :: st) h Q) : Ex dp nc ns M pc L (.int y :: .int x :: st) h Q := Ex.one (fun E l p e R s m args below meth c C H ls locs cells slots Z hL w => lv_iushr C.1 C.2.1 d rfl w) k
theorem ex_ladd {x y : Int64} (d : decode M.2.1 pc = .ok (.ladd, 1)) (k : Ex dp nc ns M (pc + 1) L (.long (x + y) :: st) h Q) : Ex dp nc ns M pc L (.long y :: .long x :: st) h Q := Ex.one (fun E l p e R s m args below meth c C H ls locs cells slots Z hL w => lv_ladd C.1 C.2.1 d w) k
theorem ex_lsub {x y : Int64} (d : decode M.2.1 pc = .ok (.lsub, 1)) (k : Ex dp nc ns M (pc + 1) L (.long (x - y) :: st) h Q) : Ex dp nc ns M pc L (.long y :: .long x :: st) h Q := Ex.one (fun E l p e R s m args below meth c C H ls locs cells slots Z hL w => lv_lsub C.1 C.2.1 d w) k
theorem ex_lmul {x y : Int64} (d : decode M.2.1 pc = .ok (.lmul, 1)) (k : Ex dp nc ns M (pc + 1) L (.long (x * y) :: st) h Q) : Ex dp nc ns M pc L (.long y :: .long x :: st) h Q := Ex.one (fun E l p e R s m args below meth c C H ls locs cells slots Z hL w => lv_lmul C.1 C.2.1 d w) k
theorem ex_lor {x y : Int64} (d : decode M.2.1 pc = .ok (.lor, 1)) (k : Ex dp nc ns M (pc + 1) L (.long (x ||| y) :: st) h Q) : Ex dp nc ns M pc L (.long y :: .long x :: st) h Q := Ex.one (fun E l p e R s m args below meth c C H ls locs cells slots Z hL w => lv_lor C.1 C.2.1 d w) k
theorem ex_ldiv {x y : Int64} (d : decode M.2.1 pc = .ok (.ldiv, 1)) (hne : ¬ y = 0) (k : Ex dp nc ns M (pc + 1) L (.long (x / y) :: st) h Q) : Ex dp nc ns M pc L (.long y :: .long x :: st) h Q := Ex.one (fun E l p e R s m args below meth c C H ls locs cells slots Z hL w => lv_ldiv C.1 C.2.1 d hne w) k
theorem ex_lrem {x y : Int64} (d : decode M.2.1 pc = .ok (.lrem, 1)) (hne : ¬ y = 0) (k : Ex dp nc ns M (pc + 1) L (.long (x - x / y * y) :: st) h Q) : Ex dp nc ns M pc L (.long y :: .long x :: st) h Q := Ex.one (fun E l p e R s m args below meth c C H ls locs cells slots Z hL w => lv_lrem C.1 C.2.1 d hne w) k
theorem ex_lshl {x : Int64} {y : Int32} (d : decode M.2.1 pc = .ok (.lshl, 1)) (k : Ex dp nc ns M (pc + 1) L (.long (x <<< (y.toInt64 &&& 63)) :: st) h Q) : Ex dp nc ns M pc L (.int y :: .long x :: st) h Q := Ex.one (fun E l p e R s m args below meth c C H ls locs cells slots Z hL w => lv_lshl C.1 C.2.1 d rfl w) k
theorem ex_lcmp {x y : Int64} (d : decode M.2.1 pc = .ok (.lcmp, 1)) (k : Ex dp nc ns M (pc + 1) L (.int (lg_cmp x y) :: st) h Q) : Ex dp nc ns M pc L (.long y :: .long x :: st) h Q := Ex.one (fun E l p e R s m args below meth c C H ls locs cells slots Z hL w => W.lcmp C.1 C.2.1 d w) k
theorem ex_ineg {x : Int32} (d : decode M.2.1 pc = .ok (.ineg, 1)) (k : Ex dp nc ns M (pc + 1) L (.int (-x) :: st) h Q) : Ex dp nc ns M pc L (.int x :: st) h Q := Ex.one (fun E l p e R s m args below meth c C H ls locs cells slots Z hL w => lv_ineg C.1 C.2.1 d w) k
theorem ex_i2l {x : Int32} (d : decode M.2.1 pc = .ok (.i2l, 1)) (k : Ex dp nc ns M (pc + 1) L (.long x.toInt64 :: st) h Q) : Ex dp nc ns M pc L (.int x :: st) h Q := Ex.one (fun E l p e R s m args below meth c C H ls locs cells slots Z hL w => lv_i2l C.1 C.2.1 d rfl w) k
theorem ex_l2i {x : Int64} (d : decode M.2.1 pc = .ok (.l2i, 1)) (k : Ex dp nc ns M (pc + 1) L (.int x.toInt32 :: st) h Q) : Ex dp nc ns M pc L (.long x :: st) h Q := Ex.one (fun E l p e R s m args below meth c C H ls locs cells slots Z hL w => lv_l2i C.1 C.2.1 d rfl w) k
theorem ex_i2b {x : Int32} (d : decode M.2.1 pc = .ok (.i2b, 1)) (k : Ex dp nc ns M (pc + 1) L (.int x.toInt8.toInt32 :: st) h Q) : Ex dp nc ns M pc L (.int x :: st) h Q := Ex.one (fun E l p e R s m args below meth c C H ls locs cells slots Z hL w => lv_i2b C.1 C.2.1 d rfl w) k
theorem ex_i2c {x : Int32} (d : decode M.2.1 pc = .ok (.i2c, 1)) (k : Ex dp nc ns M (pc + 1) L (.int (x.toUInt32 % 65536).toInt32 :: st) h Q) : Ex dp nc ns M pc L (.int x :: st) h Q := Ex.one (fun E l p e R s m args below meth c C H ls locs cells slots Z hL w => lv_i2c C.1 C.2.1 d rfl w) k
theorem ex_iconst {n : Int} (d : decode M.2.1 pc = .ok (.iconst n, 1)) (k : Ex dp nc ns M (pc + 1) L (.int (Int32.ofInt n) :: st) h Q) : Ex dp nc ns M pc L (st) h Q := Ex.one (fun E l p e R s m args below meth c C H ls locs cells slots Z hL w => lv_iconst C.1 C.2.1 d rfl w) k
theorem ex_bipush {n : Int} (d : decode M.2.1 pc = .ok (.bipush n, 2)) (k : Ex dp nc ns M (pc + 2) L (.int (Int8.ofInt n).toInt32 :: st) h Q) : Ex dp nc ns M pc L (st) h Q := Ex.one (fun E l p e R s m args below meth c C H ls locs cells slots Z hL w => lv_bipush C.1 C.2.1 d rfl w) k
theorem ex_sipush {n : Int} (d : decode M.2.1 pc = .ok (.sipush n, 3)) (k : Ex dp nc ns M (pc + 3) L (.int (Int16.ofInt n).toInt32 :: st) h Q) : Ex dp nc ns M pc L (st) h Q := Ex.one (fun E l p e R s m args below meth c C H ls locs cells slots Z hL w => lv_sipush C.1 C.2.1 d rfl w) k
theorem ex_lconst {n : Fin 2} (d : decode M.2.1 pc = .ok (.lconst n, 1)) (k : Ex dp nc ns M (pc + 1) L (.long (Int64.ofNat (n : Nat)) :: st) h Q) : Ex dp nc ns M pc L (st) h Q := Ex.one (fun E l p e R s m args below meth c C H ls locs cells slots Z hL w => lv_lconst C.1 C.2.1 d rfl w) k
theorem ex_null  (d : decode M.2.1 pc = .ok (.aconst_null, 1)) (k : Ex dp nc ns M (pc + 1) L (.null :: st) h Q) : Ex dp nc ns M pc L (st) h Q := Ex.one (fun E l p e R s m args below meth c C H ls locs cells slots Z hL w => lv_null C.1 C.2.1 d w) k
theorem ex_ldc {i : Nat} {v : Int32} (d : decode M.2.1 pc = .ok (.ldc i, 2)) (hc : Cond.constant M.1.cls i v ∈ am_tbl) (k : Ex dp nc ns M (pc + 2) L (.int v :: st) h Q) : Ex dp nc ns M pc L (st) h Q := Ex.one (fun E l p e R s m args below meth c C H ls locs cells slots Z hL w => lv_ldc C.1 C.2.1 C.2.2.2.2.1 (C.2.2.2.2.2.1 _ hc) d w) k
theorem ex_ldcw {i : Nat} {v : Int32} (d : decode M.2.1 pc = .ok (.ldc_w i, 3)) (hc : Cond.constant M.1.cls i v ∈ am_tbl) (k : Ex dp nc ns M (pc + 3) L (.int v :: st) h Q) : Ex dp nc ns M pc L (st) h Q := Ex.one (fun E l p e R s m args below meth c C H ls locs cells slots Z hL w => lv_ldcw C.1 C.2.1 C.2.2.2.2.1 (C.2.2.2.2.2.1 _ hc) d w) k
theorem ex_ldc2 {i : Nat} {v : Int64} (d : decode M.2.1 pc = .ok (.ldc2_w i, 3)) (hc : Cond.constantLong M.1.cls i v ∈ am_tbl) (k : Ex dp nc ns M (pc + 3) L (.long v :: st) h Q) : Ex dp nc ns M pc L (st) h Q := Ex.one (fun E l p e R s m args below meth c C H ls locs cells slots Z hL w => lv_ldc2 C.1 C.2.1 C.2.2.2.2.1 (C.2.2.2.2.2.1 _ hc) d w) k
theorem ex_dup {v : Value} (d : decode M.2.1 pc = .ok (.dup, 1)) (hv : v.category = 1) (k : Ex dp nc ns M (pc + 1) L (v :: v :: st) h Q) : Ex dp nc ns M pc L (v :: st) h Q := Ex.one (fun E l p e R s m args below meth c C H ls locs cells slots Z hL w => lv_dup C.1 C.2.1 d (by rw [sv_cat]; exact hv) w) k
theorem ex_pop {v : Value} (d : decode M.2.1 pc = .ok (.pop, 1)) (hv : v.category = 1) (k : Ex dp nc ns M (pc + 1) L (st) h Q) : Ex dp nc ns M pc L (v :: st) h Q := Ex.one (fun E l p e R s m args below meth c C H ls locs cells slots Z hL w => lv_pop C.1 C.2.1 d (by rw [sv_cat]; exact hv) w) k
theorem ex_dup2 {v u : Value} (d : decode M.2.1 pc = .ok (.dup2, 1)) (hv : v.category = 1) (hu : u.category = 1) (k : Ex dp nc ns M (pc + 1) L (v :: u :: v :: u :: st) h Q) : Ex dp nc ns M pc L (v :: u :: st) h Q := Ex.one (fun E l p e R s m args below meth c C H ls locs cells slots Z hL w => lv_dup2_11 C.1 C.2.1 d (by rw [sv_cat]; exact hv) (by rw [sv_cat]; exact hu) w) k
theorem ex_dup2l {v : Value} (d : decode M.2.1 pc = .ok (.dup2, 1)) (hv : v.category = 2) (k : Ex dp nc ns M (pc + 1) L (v :: v :: st) h Q) : Ex dp nc ns M pc L (v :: st) h Q := Ex.one (fun E l p e R s m args below meth c C H ls locs cells slots Z hL w => lv_dup2_2 C.1 C.2.1 d (by rw [sv_cat]; exact hv) w) k
theorem ex_pop2l {v : Value} (d : decode M.2.1 pc = .ok (.pop2, 1)) (hv : v.category = 2) (k : Ex dp nc ns M (pc + 1) L (st) h Q) : Ex dp nc ns M pc L (v :: st) h Q := Ex.one (fun E l p e R s m args below meth c C H ls locs cells slots Z hL w => lv_pop2_2 C.1 C.2.1 d (by rw [sv_cat]; exact hv) w) k
theorem ex_iload_n {i : Fin 4} {x : Int32} (d : decode M.2.1 pc = .ok (.iload_n i, 1)) (hv : L[(i : Nat)]? = some (.int x)) (k : Ex dp nc ns M (pc + 1) L (.int x :: st) h Q) : Ex dp nc ns M pc L (st) h Q := Ex.one (fun E l p e R s m args below meth c C H ls locs cells slots Z hL w => lv_iload_n C.1 C.2.1 d rfl (am_at hL hv rfl) w) k
theorem ex_iload {i : Nat} {x : Int32} (d : decode M.2.1 pc = .ok (.iload i, 2)) (hv : L[i]? = some (.int x)) (k : Ex dp nc ns M (pc + 2) L (.int x :: st) h Q) : Ex dp nc ns M pc L (st) h Q := Ex.one (fun E l p e R s m args below meth c C H ls locs cells slots Z hL w => lv_iload C.1 C.2.1 d (am_at hL hv rfl) w) k
theorem ex_lload_n {i : Fin 4} {x : Int64} (d : decode M.2.1 pc = .ok (.lload_n i, 1)) (hv : L[(i : Nat)]? = some (.long x)) (k : Ex dp nc ns M (pc + 1) L (.long x :: st) h Q) : Ex dp nc ns M pc L (st) h Q := Ex.one (fun E l p e R s m args below meth c C H ls locs cells slots Z hL w => lv_lload_n C.1 C.2.1 d rfl (am_at hL hv rfl) w) k
theorem ex_lload {i : Nat} {x : Int64} (d : decode M.2.1 pc = .ok (.lload i, 2)) (hv : L[i]? = some (.long x)) (k : Ex dp nc ns M (pc + 2) L (.long x :: st) h Q) : Ex dp nc ns M pc L (st) h Q := Ex.one (fun E l p e R s m args below meth c C H ls locs cells slots Z hL w => lv_lload C.1 C.2.1 d (am_at hL hv rfl) w) k
def am_rf (v : Value) : Bool := match v with
  | .ref _ => true
  | .null => true
  | .float _ => true
  | _ => false
theorem am_rf_sv {E : am_E} {v : Value} (h : am_rf v = true) : sv E v = .null ∨ ∃ a, sv E v = .ref a := by
  cases v <;> simp [am_rf] at h
  · rename_i k
    show va_rf (E.2.1 k.toNat) = .null ∨ ∃ a, va_rf (E.2.1 k.toNat) = .ref a
    cases E.2.1 k.toNat with
    | none => exact Or.inl rfl
    | some a => exact Or.inr ⟨a, rfl⟩
  · exact Or.inl rfl
  · exact Or.inr ⟨_, rfl⟩
theorem am_rf_kn {v : Value} (h : am_rf v = true) : am_kn v = true := by cases v <;> first | rfl | simp [am_rf] at h
theorem ex_aload_n {i : Fin 4} {v : Value} (d : decode M.2.1 pc = .ok (.aload_n i, 1)) (hv : L[(i : Nat)]? = some v) (hr : am_rf v = true) (k : Ex dp nc ns M (pc + 1) L (v :: st) h Q) : Ex dp nc ns M pc L st h Q := by
  refine Ex.one (fun E l p e R s m args below meth c C H ls locs cells slots Z hL w => ?_) k
  have ha := am_at hL hv (am_rf_kn hr)
  have w : W p l e R s m args below meth c H locs cells slots Z (F0 m (pc + 1) ls (sv E v :: st.map (sv E))) := w
  rcases am_rf_sv (E := E) hr with q | ⟨a, q⟩
  · rw [q] at ha w
    exact lv_aload_nN C.1 C.2.1 d rfl ha w
  · rw [q] at ha w
    exact lv_aload_n C.1 C.2.1 d rfl ha w
theorem ex_aload {i : Nat} {v : Value} (d : decode M.2.1 pc = .ok (.aload i, 2)) (hv : L[i]? = some v) (hr : am_rf v = true) (k : Ex dp nc ns M (pc + 2) L (v :: st) h Q) : Ex dp nc ns M pc L st h Q := by
  refine Ex.one (fun E l p e R s m args below meth c C H ls locs cells slots Z hL w => ?_) k
  have ha := am_at hL hv (am_rf_kn hr)
  have w : W p l e R s m args below meth c H locs cells slots Z (F0 m (pc + 2) ls (sv E v :: st.map (sv E))) := w
  rcases am_rf_sv (E := E) hr with q | ⟨a, q⟩
  · rw [q] at ha w
    exact lv_aloadN C.1 C.2.1 d ha w
  · rw [q] at ha w
    exact lv_aload C.1 C.2.1 d ha w
theorem Ex.st1 {i pc' : Nat} {v : Value} (hn : i < M.2.2.1) (hc : v.category = 1)
    (hw : ∀ (E : am_E) (l : Launch) (p : Program) (e : Env) (R : Room) (s : State) (m : MethodId) (args : Array Value) (below : List Frame) (meth : Method) (c : Code), am_C E M p s m args meth c → ∀ (H : Heap) (ls : Array Slot) (locs : List Loc) (cells slots : Nat) (Z : State → Prop), am_L E L ls M.2.2.1 → (∀ ls' : Array Slot, lv_has ls' M.2.2.1 ((i, sv E v) :: (am_ls E L).filter (fun q => !(q.1 == i) && !(q.1 + 1 == i && q.2.category == 2))) → W p l e R s m args below meth c H locs cells slots Z (F0 m pc' ls' (st.map (sv E)))) → W p l e R s m args below meth c H locs cells slots Z (F0 m pc ls ((v :: st).map (sv E))))
    (k : Ex dp nc ns M pc' (am_st1 L i v) st h Q) : Ex dp nc ns M pc L (v :: st) h Q := by
  intro E l p e R s m args below meth c C H ls locs cells slots mc ms hR hL hS h1 h2 h3 h4 h5 h6
  refine hw E l p e R s m args below meth c C H ls locs cells slots _ hL (fun ls' h' => ?_)
  exact k E l p e R s m args below meth c C H ls' locs cells slots mc ms hR (am_store1 hL hn hc h') hS h1 h2 h3 h4 h5 h6
theorem Ex.st2 {i pc' : Nat} {v : Value} (hn : i + 1 < M.2.2.1) (hc : v.category = 2)
    (hw : ∀ (E : am_E) (l : Launch) (p : Program) (e : Env) (R : Room) (s : State) (m : MethodId) (args : Array Value) (below : List Frame) (meth : Method) (c : Code), am_C E M p s m args meth c → ∀ (H : Heap) (ls : Array Slot) (locs : List Loc) (cells slots : Nat) (Z : State → Prop), am_L E L ls M.2.2.1 → (∀ ls' : Array Slot, lv_has ls' M.2.2.1 ((i, sv E v) :: (am_ls E L).filter (fun q => !(q.1 == i) && (!(q.1 == i + 1) && !(q.1 + 1 == i && q.2.category == 2)))) → W p l e R s m args below meth c H locs cells slots Z (F0 m pc' ls' (st.map (sv E)))) → W p l e R s m args below meth c H locs cells slots Z (F0 m pc ls ((v :: st).map (sv E))))
    (k : Ex dp nc ns M pc' (am_st2 L i v) st h Q) : Ex dp nc ns M pc L (v :: st) h Q := by
  intro E l p e R s m args below meth c C H ls locs cells slots mc ms hR hL hS h1 h2 h3 h4 h5 h6
  refine hw E l p e R s m args below meth c C H ls locs cells slots _ hL (fun ls' h' => ?_)
  exact k E l p e R s m args below meth c C H ls' locs cells slots mc ms hR (am_store2 hL hn hc h') hS h1 h2 h3 h4 h5 h6
theorem ex_istore_n {i : Fin 4} {x : Int32} (d : decode M.2.1 pc = .ok (.istore_n i, 1)) (hn : (i : Nat) < M.2.2.1) (k : Ex dp nc ns M (pc + 1) (am_st1 L (i : Nat) (.int x)) st h Q) : Ex dp nc ns M pc L (.int x :: st) h Q := Ex.st1 hn rfl (fun E l p e R s m args below meth c C H ls locs cells slots Z hL w => lv_istore_n C.1 C.2.1 d rfl hL.1 hn rfl w) k
theorem ex_istore {i : Nat} {x : Int32} (d : decode M.2.1 pc = .ok (.istore i, 2)) (hn : i < M.2.2.1) (k : Ex dp nc ns M (pc + 2) (am_st1 L i (.int x)) st h Q) : Ex dp nc ns M pc L (.int x :: st) h Q := Ex.st1 hn rfl (fun E l p e R s m args below meth c C H ls locs cells slots Z hL w => lv_istore C.1 C.2.1 d hL.1 hn rfl w) k
theorem ex_lstore_n {i : Fin 4} {x : Int64} (d : decode M.2.1 pc = .ok (.lstore_n i, 1)) (hn : (i : Nat) + 1 < M.2.2.1) (k : Ex dp nc ns M (pc + 1) (am_st2 L (i : Nat) (.long x)) st h Q) : Ex dp nc ns M pc L (.long x :: st) h Q := Ex.st2 hn rfl (fun E l p e R s m args below meth c C H ls locs cells slots Z hL w => lv_lstore_n C.1 C.2.1 d rfl hL.1 hn rfl w) k
theorem ex_lstore {i : Nat} {x : Int64} (d : decode M.2.1 pc = .ok (.lstore i, 2)) (hn : i + 1 < M.2.2.1) (k : Ex dp nc ns M (pc + 2) (am_st2 L i (.long x)) st h Q) : Ex dp nc ns M pc L (.long x :: st) h Q := Ex.st2 hn rfl (fun E l p e R s m args below meth c C H ls locs cells slots Z hL w => lv_lstore C.1 C.2.1 d hL.1 hn rfl w) k
theorem ex_astore_n {i : Fin 4} {v : Value} (d : decode M.2.1 pc = .ok (.astore_n i, 1)) (hr : am_rf v = true) (hn : (i : Nat) < M.2.2.1) (k : Ex dp nc ns M (pc + 1) (am_st1 L (i : Nat) v) st h Q) : Ex dp nc ns M pc L (v :: st) h Q := by
  refine Ex.st1 hn (by cases v <;> first | rfl | simp [am_rf] at hr) (fun E l p e R s m args below meth c C H ls locs cells slots Z hL w => ?_) k
  show W p l e R s m args below meth c H locs cells slots Z (F0 m pc ls (sv E v :: st.map (sv E)))
  rcases am_rf_sv (E := E) hr with q | ⟨a, q⟩
  · rw [q] at w ⊢
    exact lv_astore_nN C.1 C.2.1 d rfl hL.1 hn rfl w
  · rw [q] at w ⊢
    exact lv_astore_n C.1 C.2.1 d rfl hL.1 hn rfl w
theorem ex_astore {i : Nat} {v : Value} (d : decode M.2.1 pc = .ok (.astore i, 2)) (hr : am_rf v = true) (hn : i < M.2.2.1) (k : Ex dp nc ns M (pc + 2) (am_st1 L i v) st h Q) : Ex dp nc ns M pc L (v :: st) h Q := by
  refine Ex.st1 hn (by cases v <;> first | rfl | simp [am_rf] at hr) (fun E l p e R s m args below meth c C H ls locs cells slots Z hL w => ?_) k
  show W p l e R s m args below meth c H locs cells slots Z (F0 m pc ls (sv E v :: st.map (sv E)))
  rcases am_rf_sv (E := E) hr with q | ⟨a, q⟩
  · rw [q] at w ⊢
    exact lv_astoreN C.1 C.2.1 d hL.1 hn rfl w
  · rw [q] at w ⊢
    exact lv_astore C.1 C.2.1 d hL.1 hn rfl w
theorem ex_iinc {i : Nat} {n : Int} {x : Int32} (d : decode M.2.1 pc = .ok (.iinc i n, 3)) (hv : L[i]? = some (.int x)) (hn : i < M.2.2.1) (k : Ex dp nc ns M (pc + 3) (am_st1 L i (.int (x + Int32.ofInt n))) st h Q) : Ex dp nc ns M pc L st h Q := by
  intro E l p e R s m args below meth c C H ls locs cells slots mc ms hR hL hS h1 h2 h3 h4 h5 h6
  obtain ⟨j, hj⟩ := List.getElem?_of_mem (am_ls_mem (E := E) hv rfl)
  refine lv_iinc C.1 C.2.1 d hL.1 hj rfl hn rfl (fun ls' h' => ?_)
  exact k E l p e R s m args below meth c C H ls' locs cells slots mc ms hR (am_store1 hL hn rfl h') hS h1 h2 h3 h4 h5 h6
theorem Ex.br {p1 p2 : Nat} {A B : Prop} {st' : List Value}
    (hw : ∀ (E : am_E) (l : Launch) (p : Program) (e : Env) (R : Room) (s : State) (m : MethodId) (args : Array Value) (below : List Frame) (meth : Method) (c : Code), am_C E M p s m args meth c → ∀ (H : Heap) (ls : Array Slot) (locs : List Loc) (cells slots : Nat) (Z : State → Prop), (A → W p l e R s m args below meth c H locs cells slots Z (F0 m p1 ls (st.map (sv E)))) → (B → W p l e R s m args below meth c H locs cells slots Z (F0 m p2 ls (st.map (sv E)))) → W p l e R s m args below meth c H locs cells slots Z (F0 m pc ls (st'.map (sv E))))
    (k1 : A → Ex dp nc ns M p1 L st h Q) (k2 : B → Ex dp nc ns M p2 L st h Q) : Ex dp nc ns M pc L st' h Q := by
  intro E l p e R s m args below meth c C H ls locs cells slots mc ms hR hL hS h1 h2 h3 h4 h5 h6
  exact hw E l p e R s m args below meth c C H ls locs cells slots _ (fun a => k1 a E l p e R s m args below meth c C H ls locs cells slots mc ms hR hL hS h1 h2 h3 h4 h5 h6) (fun b => k2 b E l p e R s m args below meth c C H ls locs cells slots mc ms hR hL hS h1 h2 h3 h4 h5 h6)
theorem ex_if_eq {x : Int32} {off : Int} (tgt : Nat) (d : decode M.2.1 pc = .ok (.ifCond .eq off, 3)) (ht : (pc : Int) + off = (tgt : Int)) (k1 : x = 0 → Ex dp nc ns M tgt L st h Q) (k2 : ¬ x = 0 → Ex dp nc ns M (pc + 3) L st h Q) : Ex dp nc ns M pc L (.int x :: st) h Q := Ex.br (fun E l p e R s m args below meth c C H ls locs cells slots Z w1 w2 => lv_if_eq C.1 C.2.1 d ht w1 w2) k1 k2
theorem ex_icmp_eq {x y : Int32} {off : Int} (tgt : Nat) (d : decode M.2.1 pc = .ok (.if_icmp .eq off, 3)) (ht : (pc : Int) + off = (tgt : Int)) (k1 : x = y → Ex dp nc ns M tgt L st h Q) (k2 : ¬ x = y → Ex dp nc ns M (pc + 3) L st h Q) : Ex dp nc ns M pc L (.int y :: .int x :: st) h Q := Ex.br (fun E l p e R s m args below meth c C H ls locs cells slots Z w1 w2 => lv_icmp_eq C.1 C.2.1 d ht w1 w2) k1 k2
theorem ex_if_ne {x : Int32} {off : Int} (tgt : Nat) (d : decode M.2.1 pc = .ok (.ifCond .ne off, 3)) (ht : (pc : Int) + off = (tgt : Int)) (k1 : ¬ x = 0 → Ex dp nc ns M tgt L st h Q) (k2 : x = 0 → Ex dp nc ns M (pc + 3) L st h Q) : Ex dp nc ns M pc L (.int x :: st) h Q := Ex.br (fun E l p e R s m args below meth c C H ls locs cells slots Z w1 w2 => lv_if_ne C.1 C.2.1 d ht w1 w2) k1 k2
theorem ex_icmp_ne {x y : Int32} {off : Int} (tgt : Nat) (d : decode M.2.1 pc = .ok (.if_icmp .ne off, 3)) (ht : (pc : Int) + off = (tgt : Int)) (k1 : ¬ x = y → Ex dp nc ns M tgt L st h Q) (k2 : x = y → Ex dp nc ns M (pc + 3) L st h Q) : Ex dp nc ns M pc L (.int y :: .int x :: st) h Q := Ex.br (fun E l p e R s m args below meth c C H ls locs cells slots Z w1 w2 => lv_icmp_ne C.1 C.2.1 d ht w1 w2) k1 k2
theorem ex_if_lt {x : Int32} {off : Int} (tgt : Nat) (d : decode M.2.1 pc = .ok (.ifCond .lt off, 3)) (ht : (pc : Int) + off = (tgt : Int)) (k1 : x < 0 → Ex dp nc ns M tgt L st h Q) (k2 : ¬ x < 0 → Ex dp nc ns M (pc + 3) L st h Q) : Ex dp nc ns M pc L (.int x :: st) h Q := Ex.br (fun E l p e R s m args below meth c C H ls locs cells slots Z w1 w2 => lv_if_lt C.1 C.2.1 d ht w1 w2) k1 k2
theorem ex_icmp_lt {x y : Int32} {off : Int} (tgt : Nat) (d : decode M.2.1 pc = .ok (.if_icmp .lt off, 3)) (ht : (pc : Int) + off = (tgt : Int)) (k1 : x < y → Ex dp nc ns M tgt L st h Q) (k2 : ¬ x < y → Ex dp nc ns M (pc + 3) L st h Q) : Ex dp nc ns M pc L (.int y :: .int x :: st) h Q := Ex.br (fun E l p e R s m args below meth c C H ls locs cells slots Z w1 w2 => lv_icmp_lt C.1 C.2.1 d ht w1 w2) k1 k2
theorem ex_if_ge {x : Int32} {off : Int} (tgt : Nat) (d : decode M.2.1 pc = .ok (.ifCond .ge off, 3)) (ht : (pc : Int) + off = (tgt : Int)) (k1 : 0 ≤ x → Ex dp nc ns M tgt L st h Q) (k2 : ¬ 0 ≤ x → Ex dp nc ns M (pc + 3) L st h Q) : Ex dp nc ns M pc L (.int x :: st) h Q := Ex.br (fun E l p e R s m args below meth c C H ls locs cells slots Z w1 w2 => lv_if_ge C.1 C.2.1 d ht w1 w2) k1 k2
theorem ex_icmp_ge {x y : Int32} {off : Int} (tgt : Nat) (d : decode M.2.1 pc = .ok (.if_icmp .ge off, 3)) (ht : (pc : Int) + off = (tgt : Int)) (k1 : y ≤ x → Ex dp nc ns M tgt L st h Q) (k2 : ¬ y ≤ x → Ex dp nc ns M (pc + 3) L st h Q) : Ex dp nc ns M pc L (.int y :: .int x :: st) h Q := Ex.br (fun E l p e R s m args below meth c C H ls locs cells slots Z w1 w2 => lv_icmp_ge C.1 C.2.1 d ht w1 w2) k1 k2
theorem ex_if_gt {x : Int32} {off : Int} (tgt : Nat) (d : decode M.2.1 pc = .ok (.ifCond .gt off, 3)) (ht : (pc : Int) + off = (tgt : Int)) (k1 : 0 < x → Ex dp nc ns M tgt L st h Q) (k2 : ¬ 0 < x → Ex dp nc ns M (pc + 3) L st h Q) : Ex dp nc ns M pc L (.int x :: st) h Q := Ex.br (fun E l p e R s m args below meth c C H ls locs cells slots Z w1 w2 => lv_if_gt C.1 C.2.1 d ht w1 w2) k1 k2
theorem ex_icmp_gt {x y : Int32} {off : Int} (tgt : Nat) (d : decode M.2.1 pc = .ok (.if_icmp .gt off, 3)) (ht : (pc : Int) + off = (tgt : Int)) (k1 : y < x → Ex dp nc ns M tgt L st h Q) (k2 : ¬ y < x → Ex dp nc ns M (pc + 3) L st h Q) : Ex dp nc ns M pc L (.int y :: .int x :: st) h Q := Ex.br (fun E l p e R s m args below meth c C H ls locs cells slots Z w1 w2 => lv_icmp_gt C.1 C.2.1 d ht w1 w2) k1 k2
theorem ex_if_le {x : Int32} {off : Int} (tgt : Nat) (d : decode M.2.1 pc = .ok (.ifCond .le off, 3)) (ht : (pc : Int) + off = (tgt : Int)) (k1 : x ≤ 0 → Ex dp nc ns M tgt L st h Q) (k2 : ¬ x ≤ 0 → Ex dp nc ns M (pc + 3) L st h Q) : Ex dp nc ns M pc L (.int x :: st) h Q := Ex.br (fun E l p e R s m args below meth c C H ls locs cells slots Z w1 w2 => lv_if_le C.1 C.2.1 d ht w1 w2) k1 k2
theorem ex_icmp_le {x y : Int32} {off : Int} (tgt : Nat) (d : decode M.2.1 pc = .ok (.if_icmp .le off, 3)) (ht : (pc : Int) + off = (tgt : Int)) (k1 : x ≤ y → Ex dp nc ns M tgt L st h Q) (k2 : ¬ x ≤ y → Ex dp nc ns M (pc + 3) L st h Q) : Ex dp nc ns M pc L (.int y :: .int x :: st) h Q := Ex.br (fun E l p e R s m args below meth c C H ls locs cells slots Z w1 w2 => lv_icmp_le C.1 C.2.1 d ht w1 w2) k1 k2
theorem ex_goto {off : Int} (tgt : Nat) (d : decode M.2.1 pc = .ok (.goto off, 3)) (ht : (pc : Int) + off = (tgt : Int)) (k : Ex dp nc ns M tgt L st h Q) : Ex dp nc ns M pc L st h Q := Ex.one (fun E l p e R s m args below meth c C H ls locs cells slots Z hL w => lv_goto C.1 C.2.1 d ht w) k
theorem ex_ifnull {off : Int} (d : decode M.2.1 pc = .ok (.ifnull off, 3)) {a : Nat} (k : Ex dp nc ns M (pc + 3) L st h Q) : Ex dp nc ns M pc L (.ref a :: st) h Q := Ex.one (fun E l p e R s m args below meth c C H ls locs cells slots Z hL w => lv_ifnull C.1 C.2.1 d w) k
theorem ex_ifnullN {off : Int} (tgt : Nat) (d : decode M.2.1 pc = .ok (.ifnull off, 3)) (ht : (pc : Int) + off = (tgt : Int)) (k : Ex dp nc ns M tgt L st h Q) : Ex dp nc ns M pc L (.null :: st) h Q := Ex.one (fun E l p e R s m args below meth c C H ls locs cells slots Z hL w => lv_ifnullN C.1 C.2.1 d ht w) k
theorem ex_ifnonnull {off : Int} (tgt : Nat) (d : decode M.2.1 pc = .ok (.ifnonnull off, 3)) (ht : (pc : Int) + off = (tgt : Int)) {a : Nat} (k : Ex dp nc ns M tgt L st h Q) : Ex dp nc ns M pc L (.ref a :: st) h Q := Ex.one (fun E l p e R s m args below meth c C H ls locs cells slots Z hL w => lv_ifnonnull C.1 C.2.1 d ht w) k
theorem ex_ifnonnullN {off : Int} (d : decode M.2.1 pc = .ok (.ifnonnull off, 3)) (k : Ex dp nc ns M (pc + 3) L st h Q) : Ex dp nc ns M pc L (.null :: st) h Q := Ex.one (fun E l p e R s m args below meth c C H ls locs cells slots Z hL w => lv_ifnonnullN C.1 C.2.1 d w) k
theorem ex_acmp_ne {rx ry : Option Nat} {off : Int} (tgt : Nat) (d : decode M.2.1 pc = .ok (.if_acmp .ne off, 3)) (ht : (pc : Int) + off = (tgt : Int)) (k1 : ¬ rx = ry → Ex dp nc ns M tgt L st h Q) (k2 : rx = ry → Ex dp nc ns M (pc + 3) L st h Q) : Ex dp nc ns M pc L (va_rf ry :: va_rf rx :: st) h Q := by
  have key : ∀ (E : am_E) (r : Option Nat), sv E (va_rf r) = va_rf (r.map (fun i => E.1 + i)) := fun E r => by cases r <;> rfl
  have inj : ∀ (E : am_E), rx.map (fun i => E.1 + i) = ry.map (fun i => E.1 + i) ↔ rx = ry := fun E => by
    cases rx <;> cases ry <;> simp
  refine Ex.br (fun E l p e R s m args below meth c C H ls locs cells slots Z w1 w2 => ?_) k1 k2
  show W p l e R s m args below meth c H locs cells slots Z (F0 m pc ls (sv E (va_rf ry) :: sv E (va_rf rx) :: st.map (sv E)))
  rw [key, key]
  exact lv_acmp_ne C.1 C.2.1 d ht (fun q => w1 (fun q2 => q ((inj E).mpr q2))) (fun q => w2 ((inj E).mp q))
theorem ex_tableIn {dflt lo hi : Int} {offs : Array Int} {len : Nat} {x : Int32} {off : Int} (tgt : Nat) (d : decode M.2.1 pc = .ok (.tableswitch dflt lo hi offs, len)) (h1 : ¬ x.toInt < lo) (h2 : ¬ hi < x.toInt) (ho : offs[(x.toInt - lo).toNat]? = some off) (ht : (pc : Int) + off = (tgt : Int)) (k : Ex dp nc ns M tgt L st h Q) : Ex dp nc ns M pc L (.int x :: st) h Q := Ex.one (fun E l p e R s m args below meth c C H ls locs cells slots Z hL w => lv_tableIn C.1 C.2.1 d h1 h2 ho ht w) k
theorem ex_tableOut {dflt lo hi : Int} {offs : Array Int} {len : Nat} {x : Int32} (tgt : Nat) (d : decode M.2.1 pc = .ok (.tableswitch dflt lo hi offs, len)) (hx : x.toInt < lo ∨ hi < x.toInt) (ht : (pc : Int) + dflt = (tgt : Int)) (k : Ex dp nc ns M tgt L st h Q) : Ex dp nc ns M pc L (.int x :: st) h Q := Ex.one (fun E l p e R s m args below meth c C H ls locs cells slots Z hL w => lv_tableOut C.1 C.2.1 d hx ht w) k
theorem am_ret {E : am_E} {s t : State} {args : Array Value} {H : Heap} {locs : List Loc} {v : Option Value} {o : Outcome} (hq : Q v h) (hR : am_R E h H) (hS : va_S (am_A E) s.heap H locs) (ho : o = .returned (v.map (sv E))) (ht : t.heap = H) : am_Qc E Q args s o t := ⟨⟨v, h, ho, hq, by rw [ht]; exact hR⟩, hS.F ht⟩
theorem ex_iret {x : Int32} (hr : M.2.2.2 = some .int) (d : decode M.2.1 pc = .ok (.ireturn, 1)) (hq : Q (some (.int x)) h) : Ex dp nc ns M pc L [.int x] h Q := by
  intro E l p e R s m args below meth c C H ls locs cells slots mc ms hR hL hS h1 h2 h3 h4 h5 h6
  refine W.widen (k := mc) (n := ms) (by omega) (by omega) ?_
  have hlocks : meth.locks = false := C.2.2.2.2.2.2.1
  exact W.iret (v := x) C.1 C.2.1 (by rw [C.2.2.1, hr]) (fun t ht hW => am_ret hq hR hS rfl ht) hS.2.2 d
theorem ex_lret {x : Int64} (hr : M.2.2.2 = some .long) (d : decode M.2.1 pc = .ok (.lreturn, 1)) (hq : Q (some (.long x)) h) : Ex dp nc ns M pc L [.long x] h Q := by
  intro E l p e R s m args below meth c C H ls locs cells slots mc ms hR hL hS h1 h2 h3 h4 h5 h6
  refine W.widen (k := mc) (n := ms) (by omega) (by omega) ?_
  have hlocks : meth.locks = false := C.2.2.2.2.2.2.1
  exact W.lret (v := x) C.1 C.2.1 (by rw [C.2.2.1, hr]) (fun t ht hW => am_ret hq hR hS rfl ht) hS.2.2 d
theorem ex_zret {x : Int32} {ty : FieldType} (hr : M.2.2.2 = some ty) (hx : narrow ty (.int x) = .int x) (d : decode M.2.1 pc = .ok (.ireturn, 1)) (hq : Q (some (.int x)) h) : Ex dp nc ns M pc L [.int x] h Q := by
  intro E l p e R s m args below meth c C H ls locs cells slots mc ms hR hL hS h1 h2 h3 h4 h5 h6
  refine W.widen (k := mc) (n := ms) (by omega) (by omega) ?_
  have hlocks : meth.locks = false := C.2.2.2.2.2.2.1
  exact W.zret (v := x) C.1 C.2.1 (by rw [C.2.2.1, hr]) hx (fun t ht hW => am_ret hq hR hS rfl ht) hS.2.2 d
theorem ex_vret (hr : M.2.2.2 = none) (d : decode M.2.1 pc = .ok (.return_, 1)) (hq : Q none h) : Ex dp nc ns M pc L [] h Q := by
  intro E l p e R s m args below meth c C H ls locs cells slots mc ms hR hL hS h1 h2 h3 h4 h5 h6
  refine W.widen (k := mc) (n := ms) (by omega) (by omega) ?_
  have hlocks : meth.locks = false := C.2.2.2.2.2.2.1
  exact W.vret C.1 C.2.1 (by rw [C.2.2.1, hr]) (fun t ht hW => am_ret hq hR hS rfl ht) hS.2.2 d
theorem ex_aret {v : Value} {nm : String} (hr : M.2.2.2 = some (.object nm)) (hv : am_rf v = true) (d : decode M.2.1 pc = .ok (.areturn, 1)) (hq : Q (some v) h) : Ex dp nc ns M pc L [v] h Q := by
  intro E l p e R s m args below meth c C H ls locs cells slots mc ms hR hL hS h1 h2 h3 h4 h5 h6
  refine W.widen (k := mc) (n := ms) (by omega) (by omega) ?_
  have hlocks : meth.locks = false := C.2.2.2.2.2.2.1
  exact W.aret (v := sv E v) C.1 C.2.1 (by rw [C.2.2.1, hr]) (Or.inl ⟨nm, rfl⟩) (am_rf_sv hv) (fun t ht hW => am_ret hq hR hS rfl ht) hS.2.2 d
end Rules
