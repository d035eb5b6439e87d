/-! PURE: the code of a text, run without cells -/
/-- from place k on, st on the stack: what is answered -/
def pm (n nW : Nat) (cf ws : Nat → Int32) (k : Nat) (st : List Int32) : Option Int32 :=
  if hk : k < n then
    (if cf k = nI (cf k).toInt.toNat then
      (if (cf k).toInt.toNat % 16 = 0 then
        (match st with
        | x :: r => if r.length < 64 then some x else none
        | [] => none)
      else if (cf k).toInt.toNat % 16 = 1 then (if st.length < 64 then pm n nW cf ws (k + 1) (nI ((cf k).toInt.toNat / 16) :: st) else none)
      else if (cf k).toInt.toNat % 16 = 2 then (if st.length < 64 ∧ (cf k).toInt.toNat / 16 < nW then pm n nW cf ws (k + 1) (ws ((cf k).toInt.toNat / 16) :: st) else none)
      else if (cf k).toInt.toNat % 16 = 11 then
        (match st with
        | x :: r => if r.length < 64 then pm n nW cf ws (k + 1) ((1 - x) :: r) else none
        | [] => none)
      else if (cf k).toInt.toNat % 16 = 12 ∨ (cf k).toInt.toNat % 16 = 13 then
        (match st with
        | x :: r => if hg : k < (cf k).toInt.toNat / 16 ∧ r.length < 64 then (if x = (if (cf k).toInt.toNat % 16 = 12 then 1 else 0) then pm n nW cf ws ((cf k).toInt.toNat / 16) (x :: r) else pm n nW cf ws (k + 1) r) else none
        | [] => none)
      else if (cf k).toInt.toNat % 16 ≤ 10 then
        (match st with
        | y :: x :: r => if r.length + 1 < 64 then (if farv (joinv ((cf k).toInt.toNat % 16) x.toInt64 y.toInt64) = true then some BRK else pm n nW cf ws (k + 1) ((joinv ((cf k).toInt.toNat % 16) x.toInt64 y.toInt64).toInt32 :: r)) else none
        | _ => none)
      else none)
    else none)
  else none
termination_by n - k
decreasing_by all_goals omega
/-- the stack holds st -/
def Stk : List Int32 → (Nat → Int32) → Prop
  | [], _ => True
  | x :: r, f => f r.length = x ∧ Stk r f
theorem Stk_upd : ∀ {r : List Int32} {f : Nat → Int32} {s : Nat} {x : Int32}, r.length ≤ s → Stk r f → Stk r (upd f s x)
  | [], _, _, _, _, _ => trivial
  | y :: r, f, s, x, h, H => ⟨(if_neg (show ¬ r.length = s by have : r.length + 1 ≤ s := h; omega)).trans H.1, Stk_upd (by have : r.length + 1 ≤ s := h; omega) H.2⟩
theorem cwd {w : Nat} (hw : w < 2 ^ 31) {x : Int32} (h : x = nI w) : x.toInt.toNat = w := by rw [h, tin hw]; omega
section PmE
variable {n nW : Nat} {cf ws : Nat → Int32} {k : Nat}
theorem pm_stop (hk : k < n) (hc : cf k = nI 0) {x : Int32} {st : List Int32} (hs : st.length < 64) : pm n nW cf ws k (x :: st) = some x := by
  have e := cwd (by decide) hc
  unfold pm
  rw [dif_pos hk, e, if_pos hc, if_pos (by decide)]
  simp only []
  rw [if_pos hs]
theorem pm_num (hk : k < n) {g : Nat} (hg : 1 + 16 * g < 2 ^ 31) (hc : cf k = nI (1 + 16 * g)) {st : List Int32} (hs : st.length < 64) : pm n nW cf ws k st = pm n nW cf ws (k + 1) (nI g :: st) := by
  have e := cwd hg hc
  conv => lhs; unfold pm
  rw [dif_pos hk, e, if_pos hc, if_neg (by omega), if_pos (by omega), if_pos hs, show (1 + 16 * g) / 16 = g by omega]
theorem pm_word (hk : k < n) {g : Nat} (hg : 2 + 16 * g < 2 ^ 31) (hc : cf k = nI (2 + 16 * g)) (hgw : g < nW) {st : List Int32} (hs : st.length < 64) : pm n nW cf ws k st = pm n nW cf ws (k + 1) (ws g :: st) := by
  have e := cwd hg hc
  conv => lhs; unfold pm
  rw [dif_pos hk, e, if_pos hc, if_neg (by omega), if_neg (by omega), if_pos (by omega), show (2 + 16 * g) / 16 = g by omega, if_pos ⟨hs, hgw⟩]
theorem pm_not (hk : k < n) (hc : cf k = nI 11) {x : Int32} {st : List Int32} (hs : st.length < 64) : pm n nW cf ws k (x :: st) = pm n nW cf ws (k + 1) ((1 - x) :: st) := by
  have e := cwd (by decide) hc
  conv => lhs; unfold pm
  rw [dif_pos hk, e, if_pos hc, if_neg (by decide), if_neg (by decide), if_neg (by decide), if_pos (by decide)]
  simp only []
  rw [if_pos hs]
theorem pm_jmp (hk : k < n) {cd g : Nat} {y : Int32} (ho : cd = 12 ∧ y = 1 ∨ cd = 13 ∧ y = 0) (hg : cd + 16 * g < 2 ^ 31) (hc : cf k = nI (cd + 16 * g)) (hkg : k < g) {x : Int32} {st : List Int32} (hs : st.length < 64) : pm n nW cf ws k (x :: st) = if x = y then pm n nW cf ws g (x :: st) else pm n nW cf ws (k + 1) st := by
  have e := cwd hg hc
  have e1 : (cd + 16 * g) % 16 = cd := by omega
  have e2 : (cd + 16 * g) / 16 = g := by omega
  have e3 : (if cd = 12 then (1 : Int32) else 0) = y := by rcases ho with ⟨rfl, rfl⟩ | ⟨rfl, rfl⟩ <;> rfl
  conv => lhs; unfold pm
  rw [dif_pos hk, e, if_pos hc, e1, e2, if_neg (by omega), if_neg (by omega), if_neg (by omega), if_neg (by omega), if_pos (by omega)]
  simp only []
  rw [dif_pos ⟨hkg, hs⟩, e3]
theorem pm_bin (hk : k < n) {o : Nat} (h3 : 3 ≤ o) (h10 : o ≤ 10) (hc : cf k = nI o) {x y : Int32} {st : List Int32} (hs : st.length + 1 < 64) : pm n nW cf ws k (y :: x :: st) = if farv (joinv o x.toInt64 y.toInt64) = true then some BRK else pm n nW cf ws (k + 1) ((joinv o x.toInt64 y.toInt64).toInt32 :: st) := by
  have e := cwd (by omega) hc
  have e1 : o % 16 = o := by omega
  conv => lhs; unfold pm
  rw [dif_pos hk, e, if_pos hc, e1, if_neg (by omega), if_neg (by omega), if_neg (by omega), if_neg (by omega), if_neg (by omega), if_pos (by omega)]
  simp only []
  rw [if_pos hs]
end PmE
section AskP
variable {h : am_H} {a wd n c nC nK nW : Nat} {al : Int32} {cf kf sf tf mf wf ws : Nat → Int32}
theorem ask_pm (H : TxA h a n c nC nK al cf kf sf tf mf) (hl : 98 < h.length) (HW : h[wd]? = some (.inl (0, nW, .inl wf))) (hw : wd ≠ 98) (hW : nW < 2 ^ 31) (hws : ∀ i, i < nW → wf i = ws i) {r : Int32} : ∀ (m k : Nat), n - k ≤ m → ∀ (st : List Int32) (f : Nat → Int32), Stk st f → pm n nW cf ws k st = some r → ∃ f2, AskQ h a wd k st.length f = some (r, stC h f2) := by
  intro m
  induction m with
  | zero =>
    intro k hk st f hS e
    unfold pm at e
    rw [dif_neg (by omega)] at e
    exact absurd e (by simp)
  | succ m ih =>
    intro k hkm st f hS e
    unfold pm at e
    by_cases hk : k < n
    · rw [dif_pos hk] at e
      by_cases hc : cf k = nI (cf k).toInt.toNat
      · rw [if_pos hc] at e
        have hw2 : (cf k).toInt.toNat < 2 ^ 31 := by have := (cf k).toInt_lt; omega
        generalize hx : (cf k).toInt.toNat = w at *
        have ew : w % 16 + 16 * (w / 16) = w := by omega
        rw [← ew] at hc
        have hg : w % 16 + 16 * (w / 16) < 2 ^ 31 := by omega
        generalize w / 16 = g at *
        by_cases q0 : w % 16 = 0
        · rw [if_pos q0] at e
          rw [q0] at hc hg
          cases st with
          | nil => exact absurd e (by simp)
          | cons x r2 =>
            simp only [] at e
            by_cases q : r2.length < 64
            · rw [if_pos q] at e
              refine ⟨f, ?_⟩
              rw [show (x :: r2).length = r2.length + 1 from rfl, ask_stop H hl hk hc hg q, hS.1, Option.some.inj e]
            · rw [if_neg q] at e; exact absurd e (by simp)
        · rw [if_neg q0] at e
          by_cases q1 : w % 16 = 1
          · rw [if_pos q1] at e
            rw [q1] at hc hg
            by_cases q : st.length < 64
            · rw [if_pos q] at e
              rw [ask_num H hl hk hc hg q]
              exact ih (k + 1) (by omega) (nI g :: st) _ ⟨if_pos rfl, Stk_upd (Nat.le_refl _) hS⟩ e
            · rw [if_neg q] at e; exact absurd e (by simp)
          · rw [if_neg q1] at e
            by_cases q2 : w % 16 = 2
            · rw [if_pos q2] at e
              rw [q2] at hc hg
              by_cases q : st.length < 64 ∧ g < nW
              · rw [if_pos q] at e
                rw [ask_word H hl HW hw hW hk hc hg q.2 q.1, hws g q.2]
                exact ih (k + 1) (by omega) (ws g :: st) _ ⟨if_pos rfl, Stk_upd (Nat.le_refl _) hS⟩ e
              · rw [if_neg q] at e; exact absurd e (by simp)
            · rw [if_neg q2] at e
              by_cases q3 : w % 16 = 11
              · rw [if_pos q3] at e
                rw [q3] at hc hg
                cases st with
                | nil => exact absurd e (by simp)
                | cons x r2 =>
                  simp only [] at e
                  by_cases q : r2.length < 64
                  · rw [if_pos q] at e
                    rw [show (x :: r2).length = r2.length + 1 from rfl, ask_not H hl hk hc hg q, hS.1]
                    exact ih (k + 1) (by omega) ((1 - x) :: r2) _ ⟨if_pos rfl, Stk_upd (Nat.le_refl _) hS.2⟩ e
                  · rw [if_neg q] at e; exact absurd e (by simp)
              · rw [if_neg q3] at e
                by_cases q4 : w % 16 = 12 ∨ w % 16 = 13
                · rw [if_pos q4] at e
                  cases st with
                  | nil => exact absurd e (by simp)
                  | cons x r2 =>
                    simp only [] at e
                    by_cases q : k < g ∧ r2.length < 64
                    · rw [dif_pos q] at e
                      have ho : w % 16 = 12 ∧ (if w % 16 = 12 then (1 : Int32) else 0) = 1 ∨ w % 16 = 13 ∧ (if w % 16 = 12 then (1 : Int32) else 0) = 0 := by
                        rcases q4 with q4 | q4
                        · exact Or.inl ⟨q4, if_pos q4⟩
                        · exact Or.inr ⟨q4, if_neg (by omega)⟩
                      rw [show (x :: r2).length = r2.length + 1 from rfl, ask_jmp H hl hk ho hc hg q.1 q.2, hS.1]
                      by_cases q5 : x = (if w % 16 = 12 then 1 else 0)
                      · rw [if_pos q5] at e
                        rw [if_pos q5]
                        exact ih g (by omega) (x :: r2) _ hS e
                      · rw [if_neg q5] at e
                        rw [if_neg q5]
                        exact ih (k + 1) (by omega) r2 _ hS.2 e
                    · rw [dif_neg q] at e; exact absurd e (by simp)
                · rw [if_neg q4] at e
                  by_cases q5 : w % 16 ≤ 10
                  · rw [if_pos q5] at e
                    cases st with
                    | nil => exact absurd e (by simp)
                    | cons y r2 =>
                      cases r2 with
                      | nil => exact absurd e (by simp)
                      | cons x r3 =>
                        simp only [] at e
                        by_cases q : r3.length + 1 < 64
                        · rw [if_pos q] at e
                          have hy : f (r3.length + 1) = y := hS.1
                          rw [show (y :: x :: r3).length = r3.length + 2 from rfl, ask_bin H hl hk (by omega) q5 hc hg q, hS.2.1, hy]
                          by_cases q6 : farv (joinv (w % 16) x.toInt64 y.toInt64) = true
                          · rw [if_pos q6] at e
                            rw [if_pos q6]
                            exact ⟨f, by rw [Option.some.inj e]⟩
                          · rw [if_neg q6] at e
                            rw [if_neg q6]
                            exact ih (k + 1) (by omega) (_ :: r3) _ ⟨if_pos rfl, Stk_upd (Nat.le_refl _) hS.2.2⟩ e
                        · rw [if_neg q] at e; exact absurd e (by simp)
                  · rw [if_neg q5] at e; exact absurd e (by simp)
      · rw [if_neg hc] at e; exact absurd e (by simp)
    · rw [dif_neg hk] at e; exact absurd e (by simp)
/-- the text answers as its code does without cells -/
theorem AskV_pm (H : TxA h a n c nC nK al cf kf sf tf mf) (hl : 98 < h.length) (HW : h[wd]? = some (.inl (0, nW, .inl wf))) (hw : wd ≠ 98) (hW : nW < 2 ^ 31) (hws : ∀ i, i < nW → wf i = ws i) {r : Int32} {k : Nat} (hk : k < 2 ^ 31) (e : pm n nW cf ws k [] = some r) : AskV h a wd (nI k) r := AskV.of H hk (fun f => ask_pm H hl HW hw hW hws (n - k) k (Nat.le_refl _) [] f trivial e)
end AskP
