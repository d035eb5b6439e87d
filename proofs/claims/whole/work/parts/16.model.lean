/-! THE REFERENCE's object and its rows, at place b of the picture: its numbers, its rows of ints, its row of longs -/
abbrev am_S : Type := (Nat → Int32) × (Nat → Nat → Int32) × (Nat → Int64)
def mo (b : Nat) (S : Nat → Int32) : List Value := [.int (S 0), .ref (b + 1 + 0), .ref (b + 1 + 1), .ref (b + 1 + 2), .ref (b + 1 + 3), .ref (b + 1 + 4), .ref (b + 1 + 5), .int (S 7), .int (S 8), .int (S 9), .ref (b + 1 + 6), .ref (b + 1 + 7), .int (S 12), .int (S 13), .ref (b + 1 + 8), .ref (b + 1 + 9), .ref (b + 1 + 10), .int (S 17), .int (S 18), .int (S 19), .int (S 20), .int (S 21), .int (S 22), .int (S 23), .int (S 24), .int (S 25), .int (S 26), .ref (b + 1 + 11), .ref (b + 1 + 12), .ref (b + 1 + 13), .ref (b + 1 + 14), .int (S 31), .int (S 32), .int (S 33), .ref (b + 1 + 15), .int (S 35), .int (S 36), .ref (b + 1 + 16), .ref (b + 1 + 17), .int (S 39), .ref (b + 1 + 18), .int (S 41), .ref (b + 1 + 19), .int (S 43), .int (S 44), .ref (b + 1 + 20), .int (S 46), .int (S 47), .int (S 48), .int (S 49), .int (S 50), .int (S 51), .ref (b + 1 + 21), .ref (b + 1 + 22), .int (S 54), .int (S 55), .int (S 56), .int (S 57)]
def mlen (k : Nat) : Nat := ([7, 5725, 11450, 2, 97, 126, 400, 5, 401, 401, 401, 8, 3, 13, 13, 4214, 1568, 1568, 7, 7, 12, 3, 13] : List Nat).getD k 0
def mty (k : Nat) : Nat := ([0, 0, 0, 2, 0, 1, 1, 0, 0, 0, 0, 0, 0, 0, 0, 0, 0, 0, 0, 0, 0, 3, 0] : List Nat).getD k 0
def u2 (A : Nat → Nat → Int32) (k i : Nat) (x : Int32) : Nat → Nat → Int32 := fun j => if j = k then upd (A k) i x else A j
def Mo (b : Nat) (h : am_H) (σ : am_S) : Prop := h[b]? = some (.inr (12, mo b σ.1)) ∧ (∀ k, k < 23 → k ≠ 21 → h[b + 1 + k]? = some (.inl (mty k, mlen k, .inl (σ.2.1 k)))) ∧ h[b + 1 + 21]? = some (.inl (3, 3, .inr (.inl σ.2.2)))
/-- nothing outside the reference has changed -/
def Same (b : Nat) (h h' : am_H) : Prop := h'.length = h.length ∧ ∀ a, a < b ∨ b + 24 ≤ a → h'[a]? = h[a]?
theorem Same.rf {b : Nat} {h : am_H} : Same b h h := ⟨rfl, fun _ _ => rfl⟩
theorem Same.tr {b : Nat} {h h1 h2 : am_H} (p : Same b h h1) (q : Same b h1 h2) : Same b h h2 := ⟨q.1.trans p.1, fun a ha => (q.2 a ha).trans (p.2 a ha)⟩
theorem Same.set {b a : Nat} {h h1 : am_H} {e : va_E} (p : Same b h h1) (h1a : b ≤ a) (h2a : a < b + 24) : Same b h (h1.set a e) := ⟨by rw [List.length_set]; exact p.1, fun c hc => by rw [List.getElem?_set_ne (by omega)]; exact p.2 c hc⟩
theorem set_at {h : am_H} {a : Nat} {e e0 : va_E} (h0 : h[a]? = some e0) : (h.set a e)[a]? = some e := List.getElem?_set_self (List.getElem?_eq_some_iff.mp h0).1
theorem Mo.sc {b : Nat} {h : am_H} {σ : am_S} (hm : Mo b h σ) {k : Nat} {x : Int32} (hset : (mo b σ.1).set k (.int x) = mo b (upd σ.1 k x)) : Mo b (h.set b (.inr (12, (mo b σ.1).set k (.int x)))) (upd σ.1 k x, σ.2) := by
  refine ⟨?_, fun j h1 h2 => ?_, ?_⟩
  · rw [set_at hm.1, hset]
  · rw [List.getElem?_set_ne (by omega)]; exact hm.2.1 j h1 h2
  · rw [List.getElem?_set_ne (by omega)]; exact hm.2.2
theorem Mo.ar {b : Nat} {h : am_H} {σ : am_S} (hm : Mo b h σ) {k i : Nat} {x : Int32} (hk : k < 23) (hk2 : k ≠ 21) : Mo b (h.set (b + 1 + k) (.inl (mty k, mlen k, .inl (upd (σ.2.1 k) i x)))) (σ.1, u2 σ.2.1 k i x, σ.2.2) := by
  refine ⟨?_, fun j h1 h2 => ?_, ?_⟩
  · rw [List.getElem?_set_ne (by omega)]; exact hm.1
  · by_cases hj : j = k
    · subst hj
      rw [set_at (hm.2.1 j hk hk2)]
      simp [u2]
    · rw [List.getElem?_set_ne (by omega)]
      have : u2 σ.2.1 k i x j = σ.2.1 j := by simp [u2, hj]
      show h[b + 1 + j]? = some (.inl (mty j, mlen j, .inl (u2 σ.2.1 k i x j)))
      rw [this]
      exact hm.2.1 j h1 h2
  · rw [List.getElem?_set_ne (by omega)]; exact hm.2.2
theorem Mo.lg {b : Nat} {h : am_H} {σ : am_S} (hm : Mo b h σ) {i : Nat} {x : Int64} : Mo b (h.set (b + 1 + 21) (.inl (3, 3, .inr (.inl (vp_updL σ.2.2 i x))))) (σ.1, σ.2.1, vp_updL σ.2.2 i x) := by
  refine ⟨?_, fun j h1 h2 => ?_, ?_⟩
  · rw [List.getElem?_set_ne (by omega)]; exact hm.1
  · rw [List.getElem?_set_ne (by omega)]; exact hm.2.1 j h1 h2
  · rw [set_at hm.2.2]
section ModelRules
variable {dp nc ns : Nat} {M : am_M} {pc : Nat} {L st : List Value} {h h0 : am_H} {Q : Option Value → am_H → Prop} {b : Nat} {σ : am_S}
theorem m_put {idx k : Nat} {x : Int32} (hm : Mo b h σ) (hs : Same b h0 h) (hf : am_Fw M.1.cls idx 12 k false .int) (d : decode M.2.1 pc = .ok (.putfield idx, 3)) (hk : k < 58) (hset : (mo b σ.1).set k (.int x) = mo b (upd σ.1 k x)) (kk : ∀ h1, Mo b h1 (upd σ.1 k x, σ.2) → Same b h0 h1 → Ex dp nc ns M (pc + 3) L st h1 Q) : Ex dp nc ns M pc L (.int x :: .ref b :: st) h Q :=
  ex_putf hf d hm.1 (by exact hk) (fun _ => rfl) (fun _ => rfl) (kk _ (hm.sc hset) (hs.set (Nat.le_refl _) (by omega)))
theorem m_putz {idx k : Nat} {x : Int32} (hm : Mo b h σ) (hs : Same b h0 h) (hf : am_Fw M.1.cls idx 12 k false .boolean) (d : decode M.2.1 pc = .ok (.putfield idx, 3)) (hk : k < 58) (hx : x = 0 ∨ x = 1) (hset : (mo b σ.1).set k (.int x) = mo b (upd σ.1 k x)) (kk : ∀ h1, Mo b h1 (upd σ.1 k x, σ.2) → Same b h0 h1 → Ex dp nc ns M (pc + 3) L st h1 Q) : Ex dp nc ns M pc L (.int x :: .ref b :: st) h Q :=
  ex_putf hf d hm.1 (by exact hk) (fun _ => by rcases hx with rfl | rfl <;> rfl) (fun _ => by rcases hx with rfl | rfl <;> rfl) (kk _ (hm.sc hset) (hs.set (Nat.le_refl _) (by omega)))
theorem m_ast {k i : Nat} {x : Int32} (hm : Mo b h σ) (hs : Same b h0 h) (d : decode M.2.1 pc = .ok (.iastore, 1)) (hk : k < 23) (hk2 : k ≠ 21) (hty : mty k = 0) (hi : i < mlen k) (kk : ∀ h1, Mo b h1 (σ.1, u2 σ.2.1 k i x, σ.2.2) → Same b h0 h1 → Ex dp nc ns M (pc + 1) L st h1 Q) : Ex dp nc ns M pc L (.int x :: .int (nI i) :: .ref (b + 1 + k) :: st) h Q := by
  have ha := hm.2.1 k hk hk2
  have hl : mlen k < 2 ^ 31 := by
    have : ∀ k, k < 23 → mlen k < 2 ^ 31 := by decide
    exact this k hk
  have hm1 := hm.ar (i := i) (x := x) hk hk2
  rw [hty] at ha hm1
  exact ex_iastN d ha hi hl (kk _ hm1 (hs.set (by omega) (by omega)))
theorem m_bst {i : Nat} {x : Int32} (hm : Mo b h σ) (hs : Same b h0 h) (d : decode M.2.1 pc = .ok (.bastore, 1)) {k : Nat} (hk : k < 23) (hk2 : k ≠ 21) (hty : mty k = 1) (hi : i < mlen k) (kk : ∀ h1, Mo b h1 (σ.1, u2 σ.2.1 k i (vp_nar .byte x), σ.2.2) → Same b h0 h1 → Ex dp nc ns M (pc + 1) L st h1 Q) : Ex dp nc ns M pc L (.int x :: .int (nI i) :: .ref (b + 1 + k) :: st) h Q := by
  have ha := hm.2.1 k hk hk2
  have hl : mlen k < 2 ^ 31 := by
    have : ∀ k, k < 23 → mlen k < 2 ^ 31 := by decide
    exact this k hk
  have hm1 := hm.ar (i := i) (x := vp_nar .byte x) hk hk2
  rw [hty] at ha hm1
  exact ex_bastN d ha hi hl (kk _ hm1 (hs.set (by omega) (by omega)))
theorem m_zst {i : Nat} {x : Int32} (hm : Mo b h σ) (hs : Same b h0 h) (d : decode M.2.1 pc = .ok (.bastore, 1)) (hi : i < 2) (kk : ∀ h1, Mo b h1 (σ.1, u2 σ.2.1 3 i (vp_nar .boolean x), σ.2.2) → Same b h0 h1 → Ex dp nc ns M (pc + 1) L st h1 Q) : Ex dp nc ns M pc L (.int x :: .int (nI i) :: .ref (b + 1 + 3) :: st) h Q :=
  ex_zastN d (hm.2.1 3 (by decide) (by decide)) hi (by decide) (kk _ (hm.ar (by decide) (by decide)) (hs.set (by omega) (by omega)))
theorem m_ald {k i : Nat} (hm : Mo b h σ) (d : decode M.2.1 pc = .ok (.iaload, 1)) (hk : k < 23) (hk2 : k ≠ 21) (hty : mty k = 0) (hi : i < mlen k) (kk : Ex dp nc ns M (pc + 1) L (.int (σ.2.1 k i) :: st) h Q) : Ex dp nc ns M pc L (.int (nI i) :: .ref (b + 1 + k) :: st) h Q := by
  have ha := hm.2.1 k hk hk2
  have hl : mlen k < 2 ^ 31 := by
    have : ∀ k, k < 23 → mlen k < 2 ^ 31 := by decide
    exact this k hk
  rw [hty] at ha
  exact ex_ialdN d ha hi hl kk
theorem m_bld {k i : Nat} (hm : Mo b h σ) (d : decode M.2.1 pc = .ok (.baload, 1)) (hk : k < 23) (hk2 : k ≠ 21) (hty : mty k = 1) (hi : i < mlen k) (kk : Ex dp nc ns M (pc + 1) L (.int (σ.2.1 k i) :: st) h Q) : Ex dp nc ns M pc L (.int (nI i) :: .ref (b + 1 + k) :: st) h Q := by
  have ha := hm.2.1 k hk hk2
  have hl : mlen k < 2 ^ 31 := by
    have : ∀ k, k < 23 → mlen k < 2 ^ 31 := by decide
    exact this k hk
  rw [hty] at ha
  exact ex_baldN d ha hi hl kk
theorem m_aldv {k i : Nat} {x : Int32} (hm : Mo b h σ) (d : decode M.2.1 pc = .ok (.iaload, 1)) (hk : k < 23) (hk2 : k ≠ 21) (hty : mty k = 0) (hi : i < mlen k) (hv : σ.2.1 k i = x) (kk : Ex dp nc ns M (pc + 1) L (.int x :: st) h Q) : Ex dp nc ns M pc L (.int (nI i) :: .ref (b + 1 + k) :: st) h Q := m_ald hm d hk hk2 hty hi (by rw [hv]; exact kk)
theorem m_bldv {k i : Nat} {x : Int32} (hm : Mo b h σ) (d : decode M.2.1 pc = .ok (.baload, 1)) (hk : k < 23) (hk2 : k ≠ 21) (hty : mty k = 1) (hi : i < mlen k) (hv : σ.2.1 k i = x) (kk : Ex dp nc ns M (pc + 1) L (.int x :: st) h Q) : Ex dp nc ns M pc L (.int (nI i) :: .ref (b + 1 + k) :: st) h Q := m_bld hm d hk hk2 hty hi (by rw [hv]; exact kk)
theorem m_zld {i : Nat} (hm : Mo b h σ) (d : decode M.2.1 pc = .ok (.baload, 1)) (hi : i < 2) (kk : Ex dp nc ns M (pc + 1) L (.int (σ.2.1 3 i) :: st) h Q) : Ex dp nc ns M pc L (.int (nI i) :: .ref (b + 1 + 3) :: st) h Q := ex_zaldN d (hm.2.1 3 (by decide) (by decide)) hi (by decide) kk
theorem m_lld {i : Nat} (hm : Mo b h σ) (d : decode M.2.1 pc = .ok (.laload, 1)) (hi : i < 3) (kk : Ex dp nc ns M (pc + 1) L (.long (σ.2.2 i) :: st) h Q) : Ex dp nc ns M pc L (.int (nI i) :: .ref (b + 1 + 21) :: st) h Q := ex_laldN d hm.2.2 hi (by decide) kk
theorem m_lst {i : Nat} {x : Int64} (hm : Mo b h σ) (hs : Same b h0 h) (d : decode M.2.1 pc = .ok (.lastore, 1)) (hi : i < 3) (kk : ∀ h1, Mo b h1 (σ.1, σ.2.1, vp_updL σ.2.2 i x) → Same b h0 h1 → Ex dp nc ns M (pc + 1) L st h1 Q) : Ex dp nc ns M pc L (.long x :: .int (nI i) :: .ref (b + 1 + 21) :: st) h Q := ex_lastN d hm.2.2 hi (by decide) (kk _ hm.lg (hs.set (by omega) (by omega)))
theorem m_len {k : Nat} (hm : Mo b h σ) (d : decode M.2.1 pc = .ok (.arraylength, 1)) (hk : k < 23) (hk2 : k ≠ 21) (kk : Ex dp nc ns M (pc + 1) L (.int (nI (mlen k)) :: st) h Q) : Ex dp nc ns M pc L (.ref (b + 1 + k) :: st) h Q := by
  have h7 : ∀ k, k < 23 → mty k < 7 := by decide
  exact ex_alen (h7 k hk) d (hm.2.1 k hk hk2) kk
end ModelRules
theorem ms0 (b : Nat) (S : Nat → Int32) (x : Int32) : (mo b S).set 0 (.int x) = mo b (upd S 0 x) := rfl
theorem ms7 (b : Nat) (S : Nat → Int32) (x : Int32) : (mo b S).set 7 (.int x) = mo b (upd S 7 x) := rfl
theorem ms8 (b : Nat) (S : Nat → Int32) (x : Int32) : (mo b S).set 8 (.int x) = mo b (upd S 8 x) := rfl
theorem ms9 (b : Nat) (S : Nat → Int32) (x : Int32) : (mo b S).set 9 (.int x) = mo b (upd S 9 x) := rfl
theorem ms12 (b : Nat) (S : Nat → Int32) (x : Int32) : (mo b S).set 12 (.int x) = mo b (upd S 12 x) := rfl
theorem ms13 (b : Nat) (S : Nat → Int32) (x : Int32) : (mo b S).set 13 (.int x) = mo b (upd S 13 x) := rfl
theorem ms17 (b : Nat) (S : Nat → Int32) (x : Int32) : (mo b S).set 17 (.int x) = mo b (upd S 17 x) := rfl
theorem ms18 (b : Nat) (S : Nat → Int32) (x : Int32) : (mo b S).set 18 (.int x) = mo b (upd S 18 x) := rfl
theorem ms19 (b : Nat) (S : Nat → Int32) (x : Int32) : (mo b S).set 19 (.int x) = mo b (upd S 19 x) := rfl
theorem ms20 (b : Nat) (S : Nat → Int32) (x : Int32) : (mo b S).set 20 (.int x) = mo b (upd S 20 x) := rfl
theorem ms21 (b : Nat) (S : Nat → Int32) (x : Int32) : (mo b S).set 21 (.int x) = mo b (upd S 21 x) := rfl
theorem ms22 (b : Nat) (S : Nat → Int32) (x : Int32) : (mo b S).set 22 (.int x) = mo b (upd S 22 x) := rfl
theorem ms23 (b : Nat) (S : Nat → Int32) (x : Int32) : (mo b S).set 23 (.int x) = mo b (upd S 23 x) := rfl
theorem ms24 (b : Nat) (S : Nat → Int32) (x : Int32) : (mo b S).set 24 (.int x) = mo b (upd S 24 x) := rfl
theorem ms25 (b : Nat) (S : Nat → Int32) (x : Int32) : (mo b S).set 25 (.int x) = mo b (upd S 25 x) := rfl
theorem ms26 (b : Nat) (S : Nat → Int32) (x : Int32) : (mo b S).set 26 (.int x) = mo b (upd S 26 x) := rfl
theorem ms31 (b : Nat) (S : Nat → Int32) (x : Int32) : (mo b S).set 31 (.int x) = mo b (upd S 31 x) := rfl
theorem ms32 (b : Nat) (S : Nat → Int32) (x : Int32) : (mo b S).set 32 (.int x) = mo b (upd S 32 x) := rfl
theorem ms33 (b : Nat) (S : Nat → Int32) (x : Int32) : (mo b S).set 33 (.int x) = mo b (upd S 33 x) := rfl
theorem ms35 (b : Nat) (S : Nat → Int32) (x : Int32) : (mo b S).set 35 (.int x) = mo b (upd S 35 x) := rfl
theorem ms36 (b : Nat) (S : Nat → Int32) (x : Int32) : (mo b S).set 36 (.int x) = mo b (upd S 36 x) := rfl
theorem ms39 (b : Nat) (S : Nat → Int32) (x : Int32) : (mo b S).set 39 (.int x) = mo b (upd S 39 x) := rfl
theorem ms41 (b : Nat) (S : Nat → Int32) (x : Int32) : (mo b S).set 41 (.int x) = mo b (upd S 41 x) := rfl
theorem ms43 (b : Nat) (S : Nat → Int32) (x : Int32) : (mo b S).set 43 (.int x) = mo b (upd S 43 x) := rfl
theorem ms44 (b : Nat) (S : Nat → Int32) (x : Int32) : (mo b S).set 44 (.int x) = mo b (upd S 44 x) := rfl
theorem ms46 (b : Nat) (S : Nat → Int32) (x : Int32) : (mo b S).set 46 (.int x) = mo b (upd S 46 x) := rfl
theorem ms47 (b : Nat) (S : Nat → Int32) (x : Int32) : (mo b S).set 47 (.int x) = mo b (upd S 47 x) := rfl
theorem ms48 (b : Nat) (S : Nat → Int32) (x : Int32) : (mo b S).set 48 (.int x) = mo b (upd S 48 x) := rfl
theorem ms49 (b : Nat) (S : Nat → Int32) (x : Int32) : (mo b S).set 49 (.int x) = mo b (upd S 49 x) := rfl
theorem ms50 (b : Nat) (S : Nat → Int32) (x : Int32) : (mo b S).set 50 (.int x) = mo b (upd S 50 x) := rfl
theorem ms51 (b : Nat) (S : Nat → Int32) (x : Int32) : (mo b S).set 51 (.int x) = mo b (upd S 51 x) := rfl
theorem ms54 (b : Nat) (S : Nat → Int32) (x : Int32) : (mo b S).set 54 (.int x) = mo b (upd S 54 x) := rfl
theorem ms55 (b : Nat) (S : Nat → Int32) (x : Int32) : (mo b S).set 55 (.int x) = mo b (upd S 55 x) := rfl
theorem ms56 (b : Nat) (S : Nat → Int32) (x : Int32) : (mo b S).set 56 (.int x) = mo b (upd S 56 x) := rfl
theorem ms57 (b : Nat) (S : Nat → Int32) (x : Int32) : (mo b S).set 57 (.int x) = mo b (upd S 57 x) := rfl
