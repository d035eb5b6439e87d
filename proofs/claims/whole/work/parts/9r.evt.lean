/-! PURE: the reference's tests tell what the class's mean -/
def EvT (f : Nat → Int32) (t n G : Nat) (X : Bool → Nat → Bool → EvB) (P : PSt → Bool × PSt) (V : PSt → OB) : Prop := ∀ s i, (P s).1 = true → AtE f t n i s → ∃ i2, i < i2 ∧ AtE f t n i2 (P s).2 ∧ (∀ live br, live = false ∨ br = true → ∃ v, X live (G + i) br = some (v, G + i2, br)) ∧ (∃ v b2, X true (G + i) false = some (v, G + i2, b2) ∧ (V s = none → b2 = true) ∧ ∀ x, V s = some x → b2 = false ∧ v = x)
section EvalR
variable {f : Nat → Int32} {t n G nh : Nat} {A : Nat → Nat → Int32} {o : Int32} {ws : Nat → Int32}
theorem cmq_c (hb : ∀ i, i < t → -128 ≤ (f i).toInt ∧ (f i).toInt < 128) {s : PSt} (h : ¬ cmq f t s = 0) : cmq f t s = 8 ∧ cdN f t s.1 = 160 ∨ cmq f t s = 9 ∧ cdN f t s.1 = 162 ∨ cmq f t s = 10 ∧ cdN f t s.1 = 161 := by
  have d0 := sgp_c (s := s) hb (c := 60) (k := 60) (by decide) (by decide)
  have d1 := sgp_c (s := s) hb (c := 62) (k := 62) (by decide) (by decide)
  have d2 := sgp_c (s := s) hb (c := 61) (k := 61) (by decide) (by decide)
  unfold cmq at h ⊢
  by_cases q0 : sgp f t 60 s
  · rw [if_pos q0]; have := d0.mp q0; omega
  · rw [if_neg q0] at h ⊢
    by_cases q1 : sgp f t 62 s
    · rw [if_pos q1]; have := d1.mp q1; omega
    · rw [if_neg q1] at h ⊢
      by_cases q2 : sgp f t 61 s
      · rw [if_pos q2]; have := d2.mp q2; omega
      · rw [if_neg q2] at h; exact absurd rfl h
theorem cmp_cm {o c : Nat} (h : o = 8 ∧ c = 160 ∨ o = 9 ∧ c = 162 ∨ o = 10 ∧ c = 161) (x y : Int32) : cmpv (nI c) x.toInt64 y.toInt64 = cmb o x y := by
  rcases h with ⟨rfl, rfl⟩ | ⟨rfl, rfl⟩ | ⟨rfl, rfl⟩
  · rfl
  · rfl
  · rfl
theorem cmS_e (E : EvE f t n G A) {S : Bool → Nat → Bool → EvR} {T : Bool → Nat → Bool → EvB} {Sm : PSt → Bool × PSt} {Sv : PSt → OI} (HS : ∀ live, EvP f t n G live (S live) Sm Sv) {s : PSt} {i : Nat} (q40 : ¬ sgp f t 40 s) (hg : (cmS Sm f t s).1 = true) (a : AtE f t n i s) : ∃ i2, i < i2 ∧ AtE f t n i2 (cmS Sm f t s).2 ∧ (∀ live br, live = false ∨ br = true → ∃ v, pov T S A (G + n) live (G + i) br = some (v, G + i2, br)) ∧ (∃ v b2, pov T S A (G + n) true (G + i) false = some (v, G + i2, b2) ∧ (cmV Sm Sv f t s = none → b2 = true) ∧ ∀ x, cmV Sm Sv f t s = some x → b2 = false ∧ v = x) := by
  obtain ⟨c1, c2, c3, c4⟩ := E.cd a
  have hb := cdN_b (f := f) (t := t) (y := s.1)
  have d40 := sgp_c (s := s) E.2.2.2.2.2.2 (c := 40) (k := 40) (by decide) (by decide)
  have cc : ¬ cdA A (G + n) (G + i) = nI 140 := fun z => by
    rw [c1] at z
    exact q40 (d40.mpr ((nI_eq (by omega) (by decide)).mp z))
  unfold cmS cmR at hg ⊢
  by_cases q : (Sm s).1 = true ∧ ¬ cmq f t (Sm s).2 = 0
  · rw [if_pos q] at hg ⊢
    obtain ⟨g1, q0⟩ := q
    have cq := cmq_c E.2.2.2.2.2.2 q0
    have hs1 : (Sm s).2.1 < t := by
      refine Nat.lt_of_not_le (fun y => ?_)
      have := cdN_t (f := f) y
      omega
    obtain ⟨i1, hi1, a1, D1t, V1⟩ := HS true s i g1 a
    obtain ⟨i1', hi1', a1', D1f, _⟩ := HS false s i g1 a
    have ei : i1' = i1 := by
      rcases Nat.lt_trichotomy i1' i1 with hlt | he | hlt
      · have := E.up a1' a1 (Nat.le_of_lt hlt); omega
      · exact he
      · have := E.up a1 a1' (Nat.le_of_lt hlt); omega
    subst ei
    have a2 := E.nx a1 hs1
    obtain ⟨i3, hi3, a3, D3t, V3⟩ := HS true (gow f t (Sm s).2) (i1' + 1) hg a2
    obtain ⟨i3', hi3', a3', D3f, _⟩ := HS false (gow f t (Sm s).2) (i1' + 1) hg a2
    have ei : i3' = i3 := by
      rcases Nat.lt_trichotomy i3' i3 with hlt | he | hlt
      · have := E.up a3' a3 (Nat.le_of_lt hlt); omega
      · exact he
      · have := E.up a3 a3' (Nat.le_of_lt hlt); omega
    subst ei
    have D1 : ∀ live br, live = false ∨ br = true → ∃ v, S live (G + i) br = some (v, G + i1', br) := fun live br hd => by cases live <;> first | exact D1f br hd | exact D1t br hd
    have D3 : ∀ live br, live = false ∨ br = true → ∃ v, S live (G + (i1' + 1)) br = some (v, G + i3', br) := fun live br hd => by cases live <;> first | exact D3f br hd | exact D3t br hd
    obtain ⟨e1, _, _, e4⟩ := E.cd a1
    have run : ∀ live br a0 b1 c0 b2, S live (G + i) br = some (a0, G + i1', b1) → S live (G + (i1' + 1)) b1 = some (c0, G + i3', b2) → pov T S A (G + n) live (G + i) br = some (live && (!b2 && cmpv (nI (cdN f t (Sm s).2.1)) a0 c0), G + i3', b2) := fun live br a0 b1 c0 b2 hx hy => by
      unfold pov
      rw [if_pos c4, if_neg cc, hx]
      show (if G + i1' < 2799 then _ else none) = _
      rw [if_pos e4, show G + i1' + 1 = G + (i1' + 1) by omega, hy, e1]
    refine ⟨i3', by omega, a3, fun live br hd => ?_, ?_⟩
    · obtain ⟨w, ew⟩ := D1 live br hd
      obtain ⟨z, ez⟩ := D3 live br hd
      exact ⟨_, run _ _ _ _ _ _ ew ez⟩
    · obtain ⟨w, b1, ew, N1, Y1⟩ := V1 rfl
      unfold cmV
      cases hx : Sv s with
      | none =>
        have := N1 hx
        subst this
        obtain ⟨z, ez⟩ := D3 true true (Or.inr rfl)
        exact ⟨_, true, run _ _ _ _ _ _ ew ez, fun _ => rfl, fun z hz => absurd hz (by simp)⟩
      | some x =>
        obtain ⟨b1f, wx⟩ := Y1 x hx
        subst b1f
        subst wx
        obtain ⟨z, b2, ez, N3, Y3⟩ := V3 rfl
        cases hy : Sv (gow f t (Sm s).2) with
        | none =>
          have := N3 hy
          subst this
          exact ⟨_, true, run _ _ _ _ _ _ ew ez, fun _ => rfl, fun z hz => absurd hz (by simp)⟩
        | some y =>
          obtain ⟨b2f, zy⟩ := Y3 y hy
          subst b2f
          subst zy
          refine ⟨_, false, run _ _ _ _ _ _ ew ez, fun hz => absurd hz (by simp), fun u hu => ⟨rfl, ?_⟩⟩
          have hu : cmb (cmq f t (Sm s).2) x y = u := Option.some.inj hu
          rw [cmp_cm cq, hu]
          simp
  · rw [if_neg q] at hg; exact absurd hg Bool.false_ne_true
theorem par_e (E : EvE f t n G A) {S : Bool → Nat → Bool → EvR} {T : Bool → Nat → Bool → EvB} {Ts : PSt → Bool × PSt} {Tv : PSt → OB} (HT : EvT f t n G T Ts Tv) {s : PSt} {i : Nat} (q40 : sgp f t 40 s) (hg : (bra f t (Ts (gow f t s))).1 = true) (a : AtE f t n i s) : ∃ i2, i < i2 ∧ AtE f t n i2 (bra f t (Ts (gow f t s))).2 ∧ (∀ live br, live = false ∨ br = true → ∃ v, pov T S A (G + n) live (G + i) br = some (v, G + i2, br)) ∧ (∃ v b2, pov T S A (G + n) true (G + i) false = some (v, G + i2, b2) ∧ (Tv (gow f t s) = none → b2 = true) ∧ ∀ x, Tv (gow f t s) = some x → b2 = false ∧ v = x) := by
  obtain ⟨c1, c2, c3, c4⟩ := E.cd a
  have d40 := sgp_c (s := s) E.2.2.2.2.2.2 (c := 40) (k := 40) (by decide) (by decide)
  have hst : s.1 < t := tkd_y (f := f) (by have := q40.1; omega)
  have cc : cdA A (G + n) (G + i) = nI 140 := by rw [c1, d40.mp q40]
  have a1 := E.nx a hst
  have H := HT (gow f t s) (i + 1)
  generalize Ts (gow f t s) = r at *
  unfold bra at hg ⊢
  by_cases q2 : r.1 = true
  · rw [if_pos q2] at hg ⊢
    by_cases q3 : sgp f t 41 r.2
    · rw [if_pos q3] at hg ⊢
      have hs2 : r.2.1 < t := tkd_y (f := f) (by have := q3.1; omega)
      obtain ⟨i2, hi2, a2, D2, v, b2, ev, r2⟩ := H q2 a1
      have run : ∀ live br x b2, T live (G + (i + 1)) br = some (x, G + i2, b2) → pov T S A (G + n) live (G + i) br = some (x, G + (i2 + 1), b2) := fun live br x b2 hx => by
        unfold pov
        rw [if_pos c4, if_pos cc, show G + i + 1 = G + (i + 1) by omega, hx]
        rfl
      refine ⟨i2 + 1, by omega, E.nx a2 hs2, fun live br hd => ?_, v, b2, run _ _ _ _ ev, r2⟩
      obtain ⟨w, ew⟩ := D2 live br hd
      exact ⟨w, run _ _ _ _ ew⟩
    · rw [if_neg q3] at hg; exact absurd hg Bool.false_ne_true
  · rw [if_neg q2] at hg; exact absurd hg Bool.false_ne_true
theorem plr_e (E : EvE f t n G A) {S : Bool → Nat → Bool → EvR} {T : Bool → Nat → Bool → EvB} {Sm Ts : PSt → Bool × PSt} {Sv : PSt → OI} {Tv : PSt → OB} {op : Bool} (HS : ∀ live, EvP f t n G live (S live) Sm Sv) (HT : op = true → EvT f t n G T Ts Tv) : EvT f t n G (pov T S A (G + n)) (plr Sm op Ts f t) (prW Sm Sv Tv f t) := by
  intro s i hg a
  unfold plr at hg ⊢
  unfold prW
  by_cases q : sgp f t 40 s
  · rw [if_pos q] at hg ⊢
    rw [if_pos q]
    by_cases q1 : op = true
    · rw [if_pos q1] at hg ⊢
      exact par_e E (HT q1) q hg a
    · rw [if_neg q1] at hg; exact absurd hg Bool.false_ne_true
  · rw [if_neg q] at hg ⊢
    rw [if_neg q]
    exact cmS_e E HS q hg a
theorem nlp_l (E : EvE f t n G A) {X : Bool → Nat → Bool → EvB} : ∀ (m fu : Nat) (c : Bool) (s : PSt) (i : Nat), AtE f t n i s → t ≤ s.1 + m → n - i < fu → ∃ i2, i ≤ i2 ∧ AtE f t n i2 (ntL f t m c s).2 ∧ ∀ live br, nlp X A (G + n) live fu c (G + i) br = match X live (G + i2) br with
  | none => none
  | some (x, g2, b2) => some (x != (ntL f t m c s).1, g2, b2) := by
  intro m
  induction m with
  | zero =>
    intro fu c s i a hm hf
    obtain ⟨fu, rfl⟩ : ∃ k, fu = k + 1 := ⟨fu - 1, by omega⟩
    obtain ⟨c1, c2, c3, c4⟩ := E.cd a
    have c0 := cdN_t (f := f) (show t ≤ s.1 by omega)
    have no : ¬ cdA A (G + n) (G + i) = nI 7 := fun z => by
      rw [c1, c0] at z
      revert z; decide
    refine ⟨i, Nat.le_refl _, a, fun live br => ?_⟩
    unfold nlp
    rw [if_pos c4, if_neg no]
    rfl
  | succ m ih =>
    intro fu c s i a hm hf
    obtain ⟨fu, rfl⟩ : ∃ k, fu = k + 1 := ⟨fu - 1, by omega⟩
    obtain ⟨c1, c2, c3, c4⟩ := E.cd a
    have hb := cdN_b (f := f) (t := t) (y := s.1)
    have dw : wdp f t 7 s ↔ cdN f t s.1 = 7 := wdp_iff c3 (by decide) rfl
    unfold ntL
    by_cases q : wdp f t 7 s
    · have hst : s.1 < t := tkd_y (f := f) (by have := q.1; omega)
      have cc : cdA A (G + n) (G + i) = nI 7 := by rw [c1, dw.mp q]
      rw [if_pos q]
      have a1 := E.nx a hst
      have up := E.up a a1 (Nat.le_succ i)
      obtain ⟨i2, hi2, a2, r2⟩ := ih fu (!c) (gow f t s) (i + 1) a1 (by omega) (by omega)
      refine ⟨i2, by omega, a2, fun live br => ?_⟩
      rw [← r2 live br]
      conv => lhs; unfold nlp
      rw [if_pos c4, if_pos cc]
      rfl
    · have cc : ¬ cdA A (G + n) (G + i) = nI 7 := fun z => by
        rw [c1] at z
        exact q (dw.mpr ((nI_eq (by omega) (by decide)).mp z))
      rw [if_neg q]
      refine ⟨i, Nat.le_refl _, a, fun live br => ?_⟩
      unfold nlp
      rw [if_pos c4, if_neg cc]
      rfl
theorem nto_1 {c : Bool} {r : Bool × PSt} : (nto c r).1 = r.1 ∧ (nto c r).2.1 = r.2.1 := by
  unfold nto
  by_cases q : c = true
  · rw [if_pos q]; exact ⟨rfl, rfl⟩
  · rw [if_neg q]; exact ⟨rfl, rfl⟩
theorem nlp_e (E : EvE f t n G A) {X : Bool → Nat → Bool → EvB} {Pr : PSt → Bool × PSt} {Pv : PSt → OB} (HP : EvT f t n G X Pr Pv) : EvT f t n G (fun live g br => nlp X A (G + n) live 402 false g br) (pln Pr f t) (plV Pv f t) := by
  intro s i hg a
  unfold pln at hg ⊢
  obtain ⟨i1, hi1, a1, r1⟩ := nlp_l E (X := X) 400 402 false s i a (by have := E.2.2.2.2.2.1; omega) (by have := E.1; omega)
  unfold plV
  generalize ntL f t 400 false s = z at *
  obtain ⟨n1, n2⟩ := nto_1 (c := z.1) (r := Pr z.2)
  rw [n1] at hg
  obtain ⟨i2, hi2, a2, D2, v, b2, ev, N2, Y2⟩ := HP z.2 i1 hg a1
  refine ⟨i2, by omega, ⟨a2.1, by rw [n2]; exact a2.2⟩, fun live br hd => ?_, ?_⟩
  · obtain ⟨w, ew⟩ := D2 live br hd
    refine ⟨w != z.1, ?_⟩
    show nlp X A (G + n) live 402 false (G + i) br = _
    rw [r1 live br, ew]
  · refine ⟨v != z.1, b2, ?_, ?_, ?_⟩
    · show nlp X A (G + n) true 402 false (G + i) false = _
      rw [r1 true false, ev]
    · intro hz
      cases hp : Pv z.2 with
      | none => exact N2 hp
      | some x => rw [hp] at hz; exact absurd hz (by simp)
    · intro x hx
      cases hp : Pv z.2 with
      | none => rw [hp] at hx; exact absurd hx (by simp)
      | some y =>
        obtain ⟨y1, y2⟩ := Y2 y hp
        rw [hp] at hx
        have hx : (y != z.1) = x := Option.some.inj hx
        exact ⟨y1, by rw [y2, hx]⟩
theorem avL_none {y : Bool} {w cd : Nat} {Pt : PSt → Bool × PSt} {Pv : PSt → OB} : ∀ (k : Nat) (s : PSt), avL y w cd Pt Pv f t k none s = none
  | 0, _ => rfl
  | k + 1, s => by
    unfold avL
    by_cases q : wdp f t w s
    · rw [if_pos q]; exact avL_none k _
    · rw [if_neg q]

theorem blp_e (E : EvE f t n G A) {X : Bool → Nat → Bool → EvB} {Pt : PSt → Bool × PSt} {Pv : PSt → OB} (HP : EvT f t n G X Pt Pv) : ∀ (m fu : Nat) (s : PSt) (i : Nat), (anL 8 13 Pt f t m true s).1 = true → AtE f t n i s → t ≤ s.1 + m → n - i < fu → ∃ i2, i ≤ i2 ∧ AtE f t n i2 (anL 8 13 Pt f t m true s).2 ∧ (∀ live br v, live = false ∨ br = true → ∃ v2, blp X A (G + n) live fu v (G + i) br = some (v2, G + i2, br)) ∧ (∀ x : Bool, ∃ v2 b2, blp X A (G + n) true fu x (G + i) false = some (v2, G + i2, b2) ∧ (avL false 8 13 Pt Pv f t m (some x) s = none → b2 = true) ∧ ∀ z, avL false 8 13 Pt Pv f t m (some x) s = some z → b2 = false ∧ v2 = z) := by
  intro m
  induction m with
  | zero =>
    intro fu s i hg a hm hf
    obtain ⟨fu, rfl⟩ : ∃ k, fu = k + 1 := ⟨fu - 1, by omega⟩
    obtain ⟨c1, c2, c3, c4⟩ := E.cd a
    have c0 := cdN_t (f := f) (show t ≤ s.1 by omega)
    have no : ¬ cdA A (G + n) (G + i) = nI 6 := fun z => by
      rw [c1, c0] at z
      revert z; decide
    have e : ∀ live v br, blp X A (G + n) live (fu + 1) v (G + i) br = some (v, G + i, br) := fun live v br => by
      unfold blp
      rw [if_pos c4, if_neg no]
    exact ⟨i, Nat.le_refl _, a, fun live br v _ => ⟨v, e live v br⟩, fun x => ⟨_, _, e _ _ _, fun z => absurd z (by simp [avL]), fun z hz => ⟨rfl, Option.some.inj hz⟩⟩⟩
  | succ m ih =>
    intro fu s i hg a hm hf
    obtain ⟨fu, rfl⟩ : ∃ k, fu = k + 1 := ⟨fu - 1, by omega⟩
    obtain ⟨c1, c2, c3, c4⟩ := E.cd a
    have hb := cdN_b (f := f) (t := t) (y := s.1)
    have dw : wdp f t 8 s ↔ cdN f t s.1 = 6 := wdp_iff c3 (by decide) rfl
    by_cases q0 : wdp f t 8 s
    · have cc : cdA A (G + n) (G + i) = nI 6 := by rw [c1, dw.mp q0]
      have el : anL 8 13 Pt f t (m + 1) true s = anL 8 13 Pt f t m (Pt (emt (gow f t s) 13)).1 (lnd (Pt (emt (gow f t s) 13)).2 s.2.1 13) := if_pos ⟨rfl, q0⟩
      have ev : ∀ v, avL false 8 13 Pt Pv f t (m + 1) v s = avL false 8 13 Pt Pv f t m (v.bind fun x => if x = false then some false else Pv (emt (gow f t s) 13)) (lnd (Pt (emt (gow f t s) 13)).2 s.2.1 13) := fun v => if_pos q0
      rw [el] at hg ⊢
      have g1 := anL_g m _ _ hg
      rw [g1] at hg ⊢
      have hst : s.1 < t := tkd_y (f := f) (by have := q0.1; omega)
      have a1 := E.nx a hst
      have a1e : AtE f t n (i + 1) (emt (gow f t s) 13) := a1
      obtain ⟨i2, hi2, a2, D2, V2⟩ := HP (emt (gow f t s) 13) (i + 1) g1 a1e
      have up0 := E.up a a1e (Nat.le_succ i)
      have up := E.up a1e a2 (Nat.le_of_lt hi2)
      have a2e : AtE f t n i2 (lnd (Pt (emt (gow f t s) 13)).2 s.2.1 13) := a2
      obtain ⟨i3, hi3, a3, D3, V3⟩ := ih fu (lnd (Pt (emt (gow f t s) 13)).2 s.2.1 13) i2 hg a2e (by show t ≤ (Pt (emt (gow f t s) 13)).2.1 + m; omega) (by omega)
      have st : ∀ live v br w b1, X (live && v) (G + (i + 1)) br = some (w, G + i2, b1) → blp X A (G + n) live (fu + 1) v (G + i) br = blp X A (G + n) live fu (v && w) (G + i2) b1 := fun live v br w b1 hw => by
        have hw : X (live && v) (G + i + 1) br = some (w, G + i2, b1) := hw
        conv => lhs; unfold blp
        rw [if_pos c4, if_pos cc, hw]
      refine ⟨i3, by omega, a3, fun live br v hd => ?_, fun x => ?_⟩
      · obtain ⟨w, ew⟩ := D2 (live && v) br (by rcases hd with hd | hd <;> simp [hd])
        rw [st live v br w br ew]
        exact D3 live br _ hd
      · rw [ev]
        by_cases qx : x = false
        · subst qx
          obtain ⟨w, ew⟩ := D2 false false (Or.inl rfl)
          rw [st true false false w false ew]
          exact V3 false
        · have qx : x = true := by cases x <;> simp_all
          subst qx
          obtain ⟨w, b1, ew, N2, Y2⟩ := V2
          rw [st true true false w b1 ew]
          show ∃ v2 b2, _ ∧ (avL false 8 13 Pt Pv f t m (Pv (emt (gow f t s) 13)) _ = none → b2 = true) ∧ ∀ z, avL false 8 13 Pt Pv f t m (Pv (emt (gow f t s) 13)) _ = some z → b2 = false ∧ v2 = z
          cases hP : Pv (emt (gow f t s) 13) with
          | none =>
            have b1t := N2 hP
            subst b1t
            obtain ⟨v2, e2⟩ := D3 true true (true && w) (Or.inr rfl)
            exact ⟨v2, true, e2, fun _ => rfl, fun z hz => by rw [avL_none m _] at hz; exact absurd hz (by simp)⟩
          | some u =>
            obtain ⟨b1f, wy⟩ := Y2 u hP
            subst b1f
            subst wy
            rw [Bool.true_and]
            exact V3 w
    · have cc : ¬ cdA A (G + n) (G + i) = nI 6 := fun z => by
        rw [c1] at z
        exact q0 (dw.mpr ((nI_eq (by omega) (by decide)).mp z))
      have e : ∀ live v br, blp X A (G + n) live (fu + 1) v (G + i) br = some (v, G + i, br) := fun live v br => by
        unfold blp
        rw [if_pos c4, if_neg cc]
      rw [show anL 8 13 Pt f t (m + 1) true s = (true, s) from if_neg (fun z => q0 z.2)]
      have ev : ∀ v, avL false 8 13 Pt Pv f t (m + 1) v s = v := fun v => if_neg q0
      exact ⟨i, Nat.le_refl _, a, fun live br v _ => ⟨v, e live v br⟩, fun x => ⟨_, _, e _ _ _, fun z => absurd ((ev _).symm.trans z) (by simp), fun z hz => ⟨rfl, Option.some.inj ((ev _).symm.trans hz)⟩⟩⟩
theorem bov_e (E : EvE f t n G A) {X : Bool → Nat → Bool → EvB} {Pt : PSt → Bool × PSt} {Pv : PSt → OB} (HP : EvT f t n G X Pt Pv) : EvT f t n G (bov X A (G + n)) (anq 8 13 Pt f t) (anV false 8 13 Pt Pv f t) := by
  intro s i hg a
  unfold anq at hg ⊢
  have g1 := anL_g 400 _ _ hg
  obtain ⟨i2, hi2, a2, D2, w, b1, ew, N2, Y2⟩ := HP s i g1 a
  rw [g1] at hg ⊢
  obtain ⟨i3, hi3, a3, D3, V3⟩ := blp_e E HP 400 402 (Pt s).2 i2 hg a2 (by have := E.2.2.2.2.2.1; omega) (by have := E.1; omega)
  refine ⟨i3, by omega, a3, fun live br hd => ?_, ?_⟩
  · obtain ⟨w, ew⟩ := D2 live br hd
    obtain ⟨v2, e2⟩ := D3 live br w hd
    refine ⟨v2, ?_⟩
    unfold bov
    rw [ew]
    exact e2
  · unfold anV
    cases hP : Pv s with
    | none =>
      have b1t := N2 hP
      subst b1t
      obtain ⟨v2, e2⟩ := D3 true true w (Or.inr rfl)
      refine ⟨v2, true, ?_, fun _ => rfl, fun z hz => by rw [avL_none] at hz; exact absurd hz (by simp)⟩
      unfold bov
      rw [ew]
      exact e2
    | some x =>
      obtain ⟨b1f, wy⟩ := Y2 x hP
      subst b1f
      subst wy
      obtain ⟨v2, b2, e2, r2⟩ := V3 w
      refine ⟨v2, b2, ?_, r2⟩
      unfold bov
      rw [ew]
      exact e2
theorem olp_e (E : EvE f t n G A) {X : Bool → Nat → Bool → EvB} {Pt : PSt → Bool × PSt} {Pv : PSt → OB} (HP : EvT f t n G X Pt Pv) : ∀ (m fu : Nat) (s : PSt) (i : Nat), (anL 9 12 Pt f t m true s).1 = true → AtE f t n i s → t ≤ s.1 + m → n - i < fu → ∃ i2, i ≤ i2 ∧ AtE f t n i2 (anL 9 12 Pt f t m true s).2 ∧ (∀ live br v, live = false ∨ br = true → ∃ v2, olp X A (G + n) live fu v (G + i) br = some (v2, G + i2, br)) ∧ (∀ x : Bool, ∃ v2 b2, olp X A (G + n) true fu x (G + i) false = some (v2, G + i2, b2) ∧ (avL true 9 12 Pt Pv f t m (some x) s = none → b2 = true) ∧ ∀ z, avL true 9 12 Pt Pv f t m (some x) s = some z → b2 = false ∧ v2 = z) := by
  intro m
  induction m with
  | zero =>
    intro fu s i hg a hm hf
    obtain ⟨fu, rfl⟩ : ∃ k, fu = k + 1 := ⟨fu - 1, by omega⟩
    obtain ⟨c1, c2, c3, c4⟩ := E.cd a
    have c0 := cdN_t (f := f) (show t ≤ s.1 by omega)
    have no : ¬ cdA A (G + n) (G + i) = nI 5 := fun z => by
      rw [c1, c0] at z
      revert z; decide
    have e : ∀ live v br, olp X A (G + n) live (fu + 1) v (G + i) br = some (v, G + i, br) := fun live v br => by
      unfold olp
      rw [if_pos c4, if_neg no]
    exact ⟨i, Nat.le_refl _, a, fun live br v _ => ⟨v, e live v br⟩, fun x => ⟨_, _, e _ _ _, fun z => absurd z (by simp [avL]), fun z hz => ⟨rfl, Option.some.inj hz⟩⟩⟩
  | succ m ih =>
    intro fu s i hg a hm hf
    obtain ⟨fu, rfl⟩ : ∃ k, fu = k + 1 := ⟨fu - 1, by omega⟩
    obtain ⟨c1, c2, c3, c4⟩ := E.cd a
    have hb := cdN_b (f := f) (t := t) (y := s.1)
    have dw : wdp f t 9 s ↔ cdN f t s.1 = 5 := wdp_iff c3 (by decide) rfl
    by_cases q0 : wdp f t 9 s
    · have cc : cdA A (G + n) (G + i) = nI 5 := by rw [c1, dw.mp q0]
      have el : anL 9 12 Pt f t (m + 1) true s = anL 9 12 Pt f t m (Pt (emt (gow f t s) 12)).1 (lnd (Pt (emt (gow f t s) 12)).2 s.2.1 12) := if_pos ⟨rfl, q0⟩
      have ev : ∀ v, avL true 9 12 Pt Pv f t (m + 1) v s = avL true 9 12 Pt Pv f t m (v.bind fun x => if x = true then some true else Pv (emt (gow f t s) 12)) (lnd (Pt (emt (gow f t s) 12)).2 s.2.1 12) := fun v => if_pos q0
      rw [el] at hg ⊢
      have g1 := anL_g m _ _ hg
      rw [g1] at hg ⊢
      have hst : s.1 < t := tkd_y (f := f) (by have := q0.1; omega)
      have a1 := E.nx a hst
      have a1e : AtE f t n (i + 1) (emt (gow f t s) 12) := a1
      obtain ⟨i2, hi2, a2, D2, V2⟩ := HP (emt (gow f t s) 12) (i + 1) g1 a1e
      have up0 := E.up a a1e (Nat.le_succ i)
      have up := E.up a1e a2 (Nat.le_of_lt hi2)
      have a2e : AtE f t n i2 (lnd (Pt (emt (gow f t s) 12)).2 s.2.1 12) := a2
      obtain ⟨i3, hi3, a3, D3, V3⟩ := ih fu (lnd (Pt (emt (gow f t s) 12)).2 s.2.1 12) i2 hg a2e (by show t ≤ (Pt (emt (gow f t s) 12)).2.1 + m; omega) (by omega)
      have st : ∀ live v br w b1, X (live && !v) (G + (i + 1)) br = some (w, G + i2, b1) → olp X A (G + n) live (fu + 1) v (G + i) br = olp X A (G + n) live fu (v || w) (G + i2) b1 := fun live v br w b1 hw => by
        have hw : X (live && !v) (G + i + 1) br = some (w, G + i2, b1) := hw
        conv => lhs; unfold olp
        rw [if_pos c4, if_pos cc, hw]
      refine ⟨i3, by omega, a3, fun live br v hd => ?_, fun x => ?_⟩
      · obtain ⟨w, ew⟩ := D2 (live && !v) br (by rcases hd with hd | hd <;> simp [hd])
        rw [st live v br w br ew]
        exact D3 live br _ hd
      · rw [ev]
        by_cases qx : x = true
        · subst qx
          obtain ⟨w, ew⟩ := D2 false false (Or.inl rfl)
          rw [st true true false w false ew]
          exact V3 true
        · have qx : x = false := by cases x <;> simp_all
          subst qx
          obtain ⟨w, b1, ew, N2, Y2⟩ := V2
          rw [st true false false w b1 ew]
          show ∃ v2 b2, _ ∧ (avL true 9 12 Pt Pv f t m (Pv (emt (gow f t s) 12)) _ = none → b2 = true) ∧ ∀ z, avL true 9 12 Pt Pv f t m (Pv (emt (gow f t s) 12)) _ = some z → b2 = false ∧ v2 = z
          cases hP : Pv (emt (gow f t s) 12) with
          | none =>
            have b1t := N2 hP
            subst b1t
            obtain ⟨v2, e2⟩ := D3 true true (false || w) (Or.inr rfl)
            exact ⟨v2, true, e2, fun _ => rfl, fun z hz => by rw [avL_none m _] at hz; exact absurd hz (by simp)⟩
          | some u =>
            obtain ⟨b1f, wy⟩ := Y2 u hP
            subst b1f
            subst wy
            rw [Bool.false_or]
            exact V3 w
    · have cc : ¬ cdA A (G + n) (G + i) = nI 5 := fun z => by
        rw [c1] at z
        exact q0 (dw.mpr ((nI_eq (by omega) (by decide)).mp z))
      have e : ∀ live v br, olp X A (G + n) live (fu + 1) v (G + i) br = some (v, G + i, br) := fun live v br => by
        unfold olp
        rw [if_pos c4, if_neg cc]
      rw [show anL 9 12 Pt f t (m + 1) true s = (true, s) from if_neg (fun z => q0 z.2)]
      have ev : ∀ v, avL true 9 12 Pt Pv f t (m + 1) v s = v := fun v => if_neg q0
      exact ⟨i, Nat.le_refl _, a, fun live br v _ => ⟨v, e live v br⟩, fun x => ⟨_, _, e _ _ _, fun z => absurd ((ev _).symm.trans z) (by simp), fun z hz => ⟨rfl, Option.some.inj ((ev _).symm.trans hz)⟩⟩⟩
theorem tev_e (E : EvE f t n G A) {X : Bool → Nat → Bool → EvB} {Pt : PSt → Bool × PSt} {Pv : PSt → OB} (HP : EvT f t n G X Pt Pv) : EvT f t n G (tev X A (G + n)) (anq 9 12 Pt f t) (anV true 9 12 Pt Pv f t) := by
  intro s i hg a
  unfold anq at hg ⊢
  have g1 := anL_g 400 _ _ hg
  obtain ⟨i2, hi2, a2, D2, w, b1, ew, N2, Y2⟩ := HP s i g1 a
  rw [g1] at hg ⊢
  obtain ⟨i3, hi3, a3, D3, V3⟩ := olp_e E HP 400 402 (Pt s).2 i2 hg a2 (by have := E.2.2.2.2.2.1; omega) (by have := E.1; omega)
  refine ⟨i3, by omega, a3, fun live br hd => ?_, ?_⟩
  · obtain ⟨w, ew⟩ := D2 live br hd
    obtain ⟨v2, e2⟩ := D3 live br w hd
    refine ⟨v2, ?_⟩
    unfold tev
    rw [ew]
    exact e2
  · unfold anV
    cases hP : Pv s with
    | none =>
      have b1t := N2 hP
      subst b1t
      obtain ⟨v2, e2⟩ := D3 true true w (Or.inr rfl)
      refine ⟨v2, true, ?_, fun _ => rfl, fun z hz => by rw [avL_none] at hz; exact absurd hz (by simp)⟩
      unfold tev
      rw [ew]
      exact e2
    | some x =>
      obtain ⟨b1f, wy⟩ := Y2 x hP
      subst b1f
      subst wy
      obtain ⟨v2, b2, e2, r2⟩ := V3 w
      refine ⟨v2, b2, ?_, r2⟩
      unfold tev
      rw [ew]
      exact e2
theorem tsv_e (E : EvE f t n G A) (HW : HWs A nh o ws) {S : Bool → Nat → Bool → EvR} (hS : ∀ d, d ≤ 8 → ∀ live, EvP f t n G live (S live) (smd f t o d) (smV ws f t o d)) : ∀ (d : Nat), d ≤ 8 → EvT f t n G (tsv S A (G + n) (d + 1)) (tss f t o d) (tsV ws f t o d)
  | 0, _ => tev_e E (bov_e E (nlp_e E (plr_e E (hS 0 (by decide)) (fun z => absurd z (by decide)))))
  | d + 1, hd => tev_e E (bov_e E (nlp_e E (plr_e E (hS (d + 1) hd) (fun _ => tsv_e E HW hS d (by omega)))))
end EvalR
