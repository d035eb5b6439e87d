/-! THE PICTURE OF A RUN: values, cells and locals without the machine's numbers; 'Ex' says that the machine, standing there, comes to the method's end. -/
/-- where the run's own cells begin, the cells outside, the array classes, the classes -/
abbrev am_E : Type := Nat × (Nat → Option Nat) × (Nat → Nat) × va_G
/-- a value of the picture as the machine has it: a float stands for a cell outside -/
def sv (E : am_E) : Value → Value
  | .ref i => .ref (E.1 + i)
  | .float k => va_rf (E.2.1 k.toNat)
  | v => v
abbrev am_M : Type := MethodName × ByteArray × Nat × Option FieldType
def am_cA (E : am_E) (a : vp_A) : vp_A := (a.1, match a.2 with
  | .inr (.inr (.inr (.inr f))) => .inr (.inr (.inr (.inr (fun j => (f j).map (fun i => E.1 + i)))))
  | x => x)
def am_cv (E : am_E) : va_E → va_E
  | .inl (t, a) => .inl (E.2.2.1 t, am_cA E a)
  | .inr (ci, fs) => .inr (ci, fs.map (sv E))
abbrev am_H : Type := List va_E
def am_wl (E : am_E) (h : am_H) : va_W := h.mapIdx fun i e => (E.1 + i, am_cv E e)
abbrev am_tys (E : am_E) : List (ClassId × FieldType) := [(E.2.2.1 0, .int), (E.2.2.1 1, .byte), (E.2.2.1 2, .boolean), (E.2.2.1 3, .long), (E.2.2.1 4, .object "TopSays$Row"), (E.2.2.1 5, .object "TopSays$Table"), (E.2.2.1 6, .object "TopSays$Text")]
def am_R (E : am_E) (h : am_H) (H : Heap) : Prop := H.size = E.1 + h.length ∧ va_P E.2.2.2 vwCl (am_wl E h) H
def am_kn (v : Value) : Bool := match v with
  | .retAddr _ => false
  | _ => true
def am_ls (E : am_E) (L : List Value) : List (Nat × Value) := (List.range L.length).filterMap fun i => (L[i]?).bind fun v => if am_kn v then some (i, sv E v) else none
def am_L (E : am_E) (L : List Value) (ls : Array Slot) (n : Nat) : Prop := lv_has ls n (am_ls E L) ∧ L.length = n
abbrev am_A (E : am_E) : Nat → Prop := fun q => E.1 ≤ q
def am_Qc (E : am_E) (Q : Option Value → am_H → Prop) : Array Value → State → Outcome → State → Prop := fun _ st o t => (∃ (v : Option Value) (h' : am_H), o = .returned (v.map (sv E)) ∧ Q v h' ∧ am_R E h' t.heap) ∧ va_F (am_A E) st t
theorem am_ls_mem {E : am_E} {L : List Value} {i : Nat} {v : Value} (h : L[i]? = some v) (hk : am_kn v = true) : (i, sv E v) ∈ am_ls E L := by
  have hl : i < L.length := (List.getElem?_eq_some_iff.mp h).1
  refine List.mem_filterMap.mpr ⟨i, List.mem_range.mpr hl, ?_⟩
  simp [h, hk]
theorem am_ls_of {E : am_E} {L : List Value} {q : Nat × Value} (h : q ∈ am_ls E L) : ∃ v, L[q.1]? = some v ∧ am_kn v = true ∧ q.2 = sv E v := by
  obtain ⟨i, hi, h⟩ := List.mem_filterMap.mp h
  cases hv : L[i]? with
  | none => rw [hv] at h; cases h
  | some v =>
    rw [hv] at h
    by_cases hk : am_kn v = true
    · simp [hk] at h
      subst h
      exact ⟨v, hv, hk, rfl⟩
    · simp [hk] at h
theorem am_at {E : am_E} {L : List Value} {ls : Array Slot} {n : Nat} (h : am_L E L ls n) {i : Nat} {v : Value} (hv : L[i]? = some v) (hk : am_kn v = true) : ls[i]? = some (.val (sv E v)) := h.1.2.2 _ (am_ls_mem hv hk)
theorem sv_cat (E : am_E) (v : Value) : (sv E v).category = v.category := by
  cases v <;> try rfl
  rename_i k
  show (va_rf (E.2.1 k.toNat)).category = 1
  cases E.2.1 k.toNat <;> rfl
/-- the local ahead of place i is forgotten, if it is a long one -/
def am_cl (L : List Value) (i : Nat) : List Value := match i with
  | 0 => L
  | j + 1 => match L[j]? with
    | some (.long _) => L.set j (.retAddr 0)
    | some (.double _) => L.set j (.retAddr 0)
    | _ => L
def am_st1 (L : List Value) (i : Nat) (v : Value) : List Value := (am_cl L i).set i v
def am_st2 (L : List Value) (i : Nat) (v : Value) : List Value := ((am_cl L i).set i v).set (i + 1) (.retAddr 0)
theorem am_cl_len (L : List Value) (i : Nat) : (am_cl L i).length = L.length := by
  unfold am_cl
  split
  · rfl
  · split <;> simp
theorem am_cl_at {L : List Value} {i j : Nat} {v : Value} (h : (am_cl L i)[j]? = some v) (hk : am_kn v = true) : L[j]? = some v ∧ ¬ (j + 1 = i ∧ v.category = 2) := by
  unfold am_cl at h
  split at h
  · exact ⟨h, fun q => by omega⟩
  · rename_i i k
    have key : ∀ x : Value, (L.set k (.retAddr 0))[j]? = some v → L[j]? = some v ∧ ¬ (j + 1 = k + 1 ∧ v.category = 2) := by
      intro x hx
      by_cases hj : j = k
      · subst hj
        have hl : j < L.length := by
          have := (List.getElem?_eq_some_iff.mp hx).1
          simpa using this
        rw [List.getElem?_set_self hl] at hx
        cases hx
        simp [am_kn] at hk
      · rw [List.getElem?_set_ne (fun e => hj e.symm)] at hx
        exact ⟨hx, fun q => hj (by omega)⟩
    split at h
    · exact key .null h
    · exact key .null h
    · rename_i h1 h2
      refine ⟨h, fun q => ?_⟩
      obtain ⟨q1, q2⟩ := q
      have : j = k := by omega
      subst this
      cases v <;> simp [Value.category] at q2
      · exact h1 _ h
      · exact h2 _ h
theorem am_store1 {E : am_E} {L : List Value} {ls : Array Slot} {n i : Nat} {v : Value} (h : am_L E L ls n) (hi : i < n) (hc : v.category = 1) {ls' : Array Slot}
    (h' : lv_has ls' n ((i, sv E v) :: (am_ls E L).filter (fun q => !(q.1 == i) && !(q.1 + 1 == i && q.2.category == 2)))) : am_L E (am_st1 L i v) ls' n := by
  refine ⟨⟨h'.1, h'.2.1, fun q hq => ?_⟩, by simp [am_st1, am_cl_len, h.2]⟩
  obtain ⟨w, hw, hk, e⟩ := am_ls_of hq
  refine h'.2.2 q ?_
  by_cases hj : q.1 = i
  · have hl : i < (am_cl L i).length := by rw [am_cl_len, h.2]; exact hi
    rw [hj] at hw
    have : w = v := by
      have h2 := hw
      simp only [am_st1] at h2
      rw [List.getElem?_set_self hl] at h2
      exact (Option.some.inj h2).symm
    subst this
    exact List.mem_cons.mpr (Or.inl (by cases q; simp_all))
  · have hw2 := hw
    simp only [am_st1] at hw2
    rw [List.getElem?_set_ne (fun e => hj e.symm)] at hw2
    obtain ⟨g1, g2⟩ := am_cl_at hw2 hk
    refine List.mem_cons.mpr (Or.inr (List.mem_filter.mpr ⟨?_, ?_⟩))
    · have := am_ls_mem (E := E) g1 hk
      rw [← e] at this
      exact this
    · rw [e, sv_cat]
      simp [hj]
      omega
theorem am_store2 {E : am_E} {L : List Value} {ls : Array Slot} {n i : Nat} {v : Value} (h : am_L E L ls n) (hi : i + 1 < n) (hc : v.category = 2) {ls' : Array Slot}
    (h' : lv_has ls' n ((i, sv E v) :: (am_ls E L).filter (fun q => !(q.1 == i) && (!(q.1 == i + 1) && !(q.1 + 1 == i && q.2.category == 2))))) : am_L E (am_st2 L i v) ls' n := by
  refine ⟨⟨h'.1, h'.2.1, fun q hq => ?_⟩, by simp [am_st2, am_cl_len, h.2]⟩
  obtain ⟨w, hw, hk, e⟩ := am_ls_of hq
  refine h'.2.2 q ?_
  have hw2 := hw
  simp only [am_st2] at hw2
  have hl1 : i + 1 < ((am_cl L i).set i v).length := by simp [am_cl_len, h.2]; exact hi
  have hl : i < (am_cl L i).length := by rw [am_cl_len, h.2]; omega
  by_cases hj1 : q.1 = i + 1
  · rw [hj1, List.getElem?_set_self hl1] at hw2
    cases hw2
    simp [am_kn] at hk
  · rw [List.getElem?_set_ne (fun e => hj1 e.symm)] at hw2
    by_cases hj : q.1 = i
    · rw [hj, List.getElem?_set_self hl] at hw2
      have : w = v := (Option.some.inj hw2).symm
      subst this
      exact List.mem_cons.mpr (Or.inl (by cases q; simp_all))
    · rw [List.getElem?_set_ne (fun e => hj e.symm)] at hw2
      obtain ⟨g1, g2⟩ := am_cl_at hw2 hk
      refine List.mem_cons.mpr (Or.inr (List.mem_filter.mpr ⟨?_, ?_⟩))
      · have := am_ls_mem (E := E) g1 hk
        rw [← e] at this
        exact this
      · rw [e, sv_cat]
        simp [hj, hj1]
        omega
theorem am_wl_get {E : am_E} {h : am_H} {a : Nat} {e : va_E} (he : h[a]? = some e) : (am_wl E h)[a]? = some (E.1 + a, am_cv E e) := by
  simp [am_wl, List.getElem?_mapIdx, he]
theorem am_wl_set {E : am_E} {h : am_H} {a : Nat} {e : va_E} : (am_wl E h).set a (E.1 + a, am_cv E e) = am_wl E (h.set a e) := by
  apply List.ext_getElem?
  intro k
  by_cases hk : k = a
  · subst hk
    by_cases hl : k < h.length
    · rw [List.getElem?_set_self (by simp [am_wl]; exact hl)]
      simp [am_wl, List.getElem?_mapIdx, hl]
    · rw [List.getElem?_eq_none (by simp [am_wl]; omega), List.getElem?_eq_none (by simp [am_wl]; omega)]
  · rw [List.getElem?_set_ne (fun e => hk e.symm)]
    simp [am_wl, List.getElem?_mapIdx, List.getElem?_set_ne (fun e => hk e.symm)]
theorem am_wl_push {E : am_E} {h : am_H} {e : va_E} : am_wl E h ++ [(E.1 + h.length, am_cv E e)] = am_wl E (h ++ [e]) := by
  simp [am_wl, List.mapIdx_append]
theorem am_wl_D {E : am_E} (h : am_H) : va_D (am_A E) (am_wl E h) := by
  have key : ∀ (k : Nat) (q : Nat × va_E), (am_wl E h)[k]? = some q → q.1 = E.1 + k := by
    intro k q hq
    simp only [am_wl, List.getElem?_mapIdx] at hq
    cases he : h[k]? with
    | none => rw [he] at hq; cases hq
    | some e => rw [he] at hq; cases hq; rfl
  refine ⟨fun i j p q hp hq e => ?_, fun k q hq => ?_⟩
  · rw [key i p hp, key j q hq] at e
    omega
  · rw [key k q hq]
    exact Nat.le_add_right _ _
