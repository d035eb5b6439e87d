def am_word (w : Cond) : Bool := goodWord w || (match w with
  | .methodLinkNest _ _ _ _ => true
  | .arrayOver (.object _) => true
  | _ => false)
/-- the tables' words that stay as the tables grow warm -/
def am_tbl : List Cond := lw_tbl.filter am_word
theorem am_tbl_of {w : Cond} (i : Nat) (h : lw_tbl[i]? = some w) (hw : am_word w = true) : w ∈ am_tbl := List.mem_filter.mpr ⟨List.mem_of_getElem? h, hw⟩
/-! what stands outside the run's own cells: the texts, the table of factorials -/
def am_strs : List (String × Nat × String × Nat) := [("TopSays$Reader", 75, "step swap cut", 0), ("TopSays$Reader", 166, "heaps done latest top claps many", 1), ("TopSays$Reader", 161, "top second third under many last heap mood", 2), ("TopSays$Reader", 77, "with", 3), ("TopSays$Reader", 83, "of", 4), ("TopSays$Reader", 94, "times", 5), ("TopSays$Reader", 103, "if", 6), ("TopSays$Reader", 134, "not", 7), ("TopSays$Reader", 132, "and", 8), ("TopSays$Reader", 124, "or", 9), ("TopSays$Reader", 55, "turns sinks ends", 10)]
def am_len : List Nat := [13, 32, 42, 4, 2, 5, 2, 3, 3, 2, 16]
def am_byt : List (List Int32) := [[115, 116, 101, 112, 32, 115, 119, 97, 112, 32, 99, 117, 116], [104, 101, 97, 112, 115, 32, 100, 111, 110, 101, 32, 108, 97, 116, 101, 115, 116, 32, 116, 111, 112, 32, 99, 108, 97, 112, 115, 32, 109, 97, 110, 121], [116, 111, 112, 32, 115, 101, 99, 111, 110, 100, 32, 116, 104, 105, 114, 100, 32, 117, 110, 100, 101, 114, 32, 109, 97, 110, 121, 32, 108, 97, 115, 116, 32, 104, 101, 97, 112, 32, 109, 111, 111, 100], [119, 105, 116, 104], [111, 102], [116, 105, 109, 101, 115], [105, 102], [110, 111, 116], [97, 110, 100], [111, 114], [116, 117, 114, 110, 115, 32, 115, 105, 110, 107, 115, 32, 101, 110, 100, 115]]
def am_rows (j : Nat) : Value := .int (([1, 1, 2, 6, 24, 120, 720, 5040] : List Int32).getD j 0)
def am_X (E : am_E) (U : State) : Prop :=
  (∃ adK adV : Nat → Nat, vk_S 11 am_len am_byt adK adV (am_A E) U U.heap ∧ (∀ i, i < 11 → E.2.1 (16 + i) = some (adK i) ∧ E.2.1 (32 + i) = some (adV i)) ∧ ∀ r ∈ am_strs, vk_R r.1 r.2.1 r.2.2.1 (adK r.2.2.2) U) ∧
  (∃ t : Nat, E.2.1 1 = some t ∧ va_Z "TopSays$Ways" "ROWS" "[I" (.ref t) (am_A E) U U.heap ∧ va_T .int t 8 am_rows (am_A E) U U.heap) ∧
  va_Z "java/lang/String" "COMPACT_STRINGS" "Z" (.int 1) (am_A E) U U.heap ∧
  va_Z "jdk/internal/util/Preconditions" "SIOOBE_FORMATTER" "Ljava/util/function/BiFunction;" (va_rf (E.2.1 2)) (am_A E) U U.heap
theorem am_X.to {E : am_E} {s U : State} (hW : s.WarmedH U.vm) (hk : ∀ q : Nat, q < s.heap.size → ¬ am_A E q → U.heap[q]? = s.heap[q]?) (h : am_X E s) : am_X E U := by
  obtain ⟨⟨adK, adV, h1, h2, h3⟩, ⟨t, g1, g2, g3⟩, g4, g5⟩ := h
  exact ⟨⟨adK, adV, (h1.kept hk).moved hW.alike, h2, fun r hr => (h3 r hr).warm hW⟩, ⟨t, g1, (g2.kept hk).moved hW.alike, (g3.kept hk).moved hW.alike⟩, (g4.kept hk).moved hW.alike, (g5.kept hk).moved hW.alike⟩
theorem am_X.same {E : am_E} {s U : State} (hv : U.vm = s.vm) (hh : U.heap = s.heap) (h : am_X E s) : am_X E U := by
  obtain ⟨⟨adK, adV, h1, h2, h3⟩, ⟨t, g1, g2, g3⟩, g4, g5⟩ := h
  have ha : s.vm.Alike U.vm := by rw [hv]; exact Vm.Alike.refl _
  have hk : ∀ q : Nat, q < s.heap.size → ¬ am_A E q → U.heap[q]? = s.heap[q]? := fun q _ _ => by rw [hh]
  exact ⟨⟨adK, adV, (h1.kept hk).moved ha, h2, fun r hr => (h3 r hr).same hv⟩, ⟨t, g1, (g2.kept hk).moved ha, (g3.kept hk).moved ha⟩, (g4.kept hk).moved ha, (g5.kept hk).moved ha⟩
/-- a method's frame: the machine, the code, the tables' words, the classes, what stands outside -/
def am_C (E : am_E) (M : am_M) (p : Program) (s : State) (m : MethodId) (args : Array Value) (meth : Method) (c : Code) : Prop :=
  p.tables.exec = Jvm.exec ∧ c.code = M.2.1 ∧ meth.sig.returnType = M.2.2.2 ∧ c.maxLocals = M.2.2.1 ∧ s.vm.findClass M.1.cls = some m.cls ∧ (∀ w ∈ am_tbl, w.before args s = true) ∧ meth.locks = false ∧ va_K E.2.2.2 vwCl (am_tys E) s ∧ am_X E s ∧ meth.name = M.1.name
/-- THE MACHINE, standing in method M at pc with these locals, this stack and these cells, COMES TO THE METHOD'S END with Q; at most dp frames above, nc cells of ns slots are new -/
def Ex (dp nc ns : Nat) (M : am_M) (pc : Nat) (L st : List Value) (h : am_H) (Q : Option Value → am_H → Prop) : Prop :=
  ∀ (E : am_E) (l : Launch) (p : Program) (e : Env) (R : Room) (s : State) (m : MethodId) (args : Array Value) (below : List Frame) (meth : Method) (c : Code), am_C E M p s m args meth c →
  ∀ (H : Heap) (ls : Array Slot) (locs : List Loc) (cells slots mc ms : Nat), am_R E h H → am_L E L ls M.2.2.1 → va_S (am_A E) s.heap H locs → dp ≤ R.frames → 64 * dp ≤ R.locals → cells + nc ≤ mc → slots + ns ≤ ms → mc ≤ R.cells → ms ≤ R.slots →
  W p l e R s m args below meth c H locs cells slots (MQ below (am_Qc E Q) args s mc ms (am_A E)) (F0 m pc ls (st.map (sv E)))
section ExA
variable {dp nc ns : Nat} {M : am_M} {pc pc' : Nat} {L L' st st' : List Value} {h : am_H} {Q : Option Value → am_H → Prop}
/-- one instruction that touches no cell -/
theorem Ex.one (hw : ∀ (E : am_E) (l : Launch) (p : Program) (e : Env) (R : Room) (s : State) (m : MethodId) (args : Array Value) (below : List Frame) (meth : Method) (c : Code), am_C E M p s m args meth c → ∀ (H : Heap) (ls : Array Slot) (locs : List Loc) (cells slots : Nat) (Z : State → Prop), am_L E L ls M.2.2.1 → W p l e R s m args below meth c H locs cells slots Z (F0 m pc' ls (st'.map (sv E))) → W p l e R s m args below meth c H locs cells slots Z (F0 m pc ls (st.map (sv E))))
    (k : Ex dp nc ns M pc' L st' h Q) : Ex dp nc ns M pc L st h Q := by
  intro E l p e R s m args below meth c C H ls locs cells slots mc ms hR hL hS h1 h2 h3 h4 h5 h6
  exact hw E l p e R s m args below meth c C H ls locs cells slots _ hL (k E l p e R s m args below meth c C H ls locs cells slots mc ms hR hL hS h1 h2 h3 h4 h5 h6)
theorem Ex.widen {dp1 nc1 ns1 : Nat} (k : Ex dp1 nc1 ns1 M pc L st h Q) (hd : dp1 ≤ dp) (hn : nc1 ≤ nc) (hs : ns1 ≤ ns) : Ex dp nc ns M pc L st h Q := by
  intro E l p e R s m args below meth c C H ls locs cells slots mc ms hR hL hS h1 h2 h3 h4 h5 h6
  exact k E l p e R s m args below meth c C H ls locs cells slots mc ms hR hL hS (Nat.le_trans hd h1) (by omega) (by omega) (by omega) h5 h6
theorem Ex.mono {Q1 : Option Value → am_H → Prop} (k : Ex dp nc ns M pc L st h Q1) (hq : ∀ v h', Q1 v h' → Q v h') : Ex dp nc ns M pc L st h Q := by
  intro E l p e R s m args below meth c C H ls locs cells slots mc ms hR hL hS h1 h2 h3 h4 h5 h6 T hT X
  obtain ⟨t, a1, o, b1, b2, b3, b4⟩ := k E l p e R s m args below meth c C H ls locs cells slots mc ms hR hL hS h1 h2 h3 h4 h5 h6 T hT X
  obtain ⟨⟨v, h', e1, e2, e3⟩, e4⟩ := b3
  exact ⟨t, a1, o, b1, b2, ⟨⟨v, h', e1, hq v h' e2, e3⟩, e4⟩, b4⟩
end ExA
