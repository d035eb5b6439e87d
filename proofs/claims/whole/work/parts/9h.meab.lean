/-! PURE: what tests mean -/
def SmB (n nW : Nat) (cf ws : Nat → Int32) (m : Nat) (P : PSt → Bool × PSt) (V : PSt → OB) : Prop := ∀ s, (P s).1 = true → agr cf s (P s).2 → (P s).2.2.1 ≤ n → ∀ st : List Int32, st.length + m ≤ 64 → pm n nW cf ws s.2.1 st = cnV ((V s).map bI) fun x => pm n nW cf ws (P s).2.2.1 (x :: st)
theorem joinv_c {c : Nat} (h8 : 8 ≤ c) (h10 : c ≤ 10) (x y : Int32) : farv (joinv c x.toInt64 y.toInt64) = false ∧ (joinv c x.toInt64 y.toInt64).toInt32 = bI (cmb c x y) := by
  have k : ∀ b : Bool, farv (if b = true then 1 else 0) = false ∧ (if b = true then (1 : Int64) else 0).toInt32 = bI b := by intro b; cases b <;> decide
  have e : joinv c x.toInt64 y.toInt64 = if cmb c x y = true then 1 else 0 := by
    unfold joinv cmb
    rcases (show c = 8 ∨ c = 9 ∨ c = 10 by omega) with rfl | rfl | rfl
    · simp
    · simp
    · simp
  rw [e]
  exact k _
section MeanB
variable {n nW : Nat} {cf ws f : Nat → Int32} {t : Nat} {o : Int32}
theorem cmS_s {m : Nat} (hm : 1 ≤ m) {Sm : PSt → Bool × PSt} {Sv : PSt → OI} (HS : Sem n nW cf ws m Sm Sv) (HK : Kp Sm) : SmB n nW cf ws (m + 1) (cmS Sm f t) (cmV Sm Sv f t) := by
  intro s hg ha hn st hs
  unfold cmS cmR at hg ha hn ⊢
  unfold cmV
  by_cases q : (Sm s).1 = true ∧ ¬ cmq f t (Sm s).2 = 0
  · rw [if_pos q] at hg ha hn ⊢
    obtain ⟨q8, q10⟩ := cmq_3 q.2
    have K1 := HK s
    have K2 := HK (gow f t (Sm s).2)
    have n1 := K1.1
    have n2 : (Sm s).2.2.1 ≤ (Sm (gow f t (Sm s).2)).2.2.1 := K2.1
    have hn : (Sm (gow f t (Sm s).2)).2.2.1 + 1 ≤ n := hn
    have h1 := HS s q.1 (ha.sub (Nat.le_refl _) ((kpp.go (f := f) (t := t)).tr (K2.tr kpp.em))) (by omega) st (by omega)
    have h2 := fun x => HS (gow f t (Sm s).2) hg (ha.sub n1 kpp.em) (by omega) (x :: st) (by show st.length + 1 + m ≤ 64; omega)
    have hc : cf (Sm (gow f t (Sm s).2)).2.2.1 = nI (cmq f t (Sm s).2) := (ha _ (by omega) (Nat.lt_succ_self _)).trans (if_pos rfl)
    rw [h1]
    cases Sv s with
    | none => rfl
    | some x =>
      show pm n nW cf ws (Sm s).2.2.1 (x :: st) = _
      rw [show pm n nW cf ws (Sm s).2.2.1 (x :: st) = _ from h2 x]
      show _ = cnV (((Sv (gow f t (Sm s).2)).map fun y => cmb (cmq f t (Sm s).2) x y).map bI) _
      cases Sv (gow f t (Sm s).2) with
      | none => rfl
      | some y =>
        show pm n nW cf ws (Sm (gow f t (Sm s).2)).2.2.1 (y :: x :: st) = pm n nW cf ws ((Sm (gow f t (Sm s).2)).2.2.1 + 1) (bI (cmb (cmq f t (Sm s).2) x y) :: st)
        obtain ⟨j1, j2⟩ := joinv_c q8 q10 x y
        rw [pm_bin (by omega) (by omega) q10 hc (by omega), j1, if_neg (by decide), j2]
  · rw [if_neg q] at hg; exact absurd hg Bool.false_ne_true
theorem ntL_2 : ∀ (k : Nat) (b : Bool) (s : PSt), (ntL f t k b s).2.2 = s.2
  | 0, _, _ => rfl
  | k + 1, b, s => by
    unfold ntL
    by_cases q : wdp f t 7 s
    · rw [if_pos q]; exact ntL_2 k _ _
    · rw [if_neg q]
theorem pln_s {m : Nat} (hm : 1 ≤ m) {Pr : PSt → Bool × PSt} {Pv : PSt → OB} (HP : SmB n nW cf ws m Pr Pv) (HK : Kp Pr) : SmB n nW cf ws m (pln Pr f t) (plV Pv f t) := by
  intro s hg ha hn st hs
  unfold pln at hg ha hn ⊢
  unfold plV
  have e := ntL_2 (f := f) (t := t) 400 false s
  generalize ntL f t 400 false s = z at *
  have ez : z.2.2.1 = s.2.1 := congrArg Prod.fst e
  have K := HK z.2
  unfold nto at hg ha hn ⊢
  by_cases q : z.1 = true
  · rw [if_pos q] at hg ha hn ⊢
    have hn : (Pr z.2).2.2.1 + 1 ≤ n := hn
    have k1 := K.1
    have h1 := HP z.2 hg (ha.sub (by omega) kpp.em) (by omega) st hs
    have hc : cf (Pr z.2).2.2.1 = nI 11 := (ha _ (by omega) (Nat.lt_succ_self _)).trans (if_pos rfl)
    rw [← ez, h1, q]
    cases Pv z.2 with
    | none => rfl
    | some x =>
      show pm n nW cf ws (Pr z.2).2.2.1 (bI x :: st) = pm n nW cf ws ((Pr z.2).2.2.1 + 1) (bI (x != true) :: st)
      rw [pm_not (by omega) hc (by omega)]
      cases x <;> rfl
  · rw [if_neg q] at hg ha hn ⊢
    have h1 := HP z.2 hg (ha.sub (by omega) kpp.rf) (by omega) st hs
    rw [← ez, h1, show z.1 = false by cases hz : z.1 <;> simp_all]
    cases Pv z.2 with
    | none => rfl
    | some x => cases x <;> rfl
theorem plr_s {m : Nat} {Sm Ts : PSt → Bool × PSt} {Sv : PSt → OI} {Tv : PSt → OB} {op : Bool} (HC : SmB n nW cf ws m (cmS Sm f t) (cmV Sm Sv f t)) (HT : op = true → SmB n nW cf ws m Ts Tv) : SmB n nW cf ws m (plr Sm op Ts f t) (prW Sm Sv Tv f t) := by
  intro s hg ha hn st hs
  unfold plr at hg ha hn ⊢
  unfold prW
  by_cases q : sgp f t 40 s
  · rw [if_pos q] at hg ha hn ⊢
    rw [if_pos q]
    by_cases q1 : op = true
    · rw [if_pos q1] at hg ha hn ⊢
      have H := HT q1 (gow f t s)
      generalize Ts (gow f t s) = r at *
      unfold bra at hg ha hn ⊢
      by_cases q2 : r.1 = true
      · rw [if_pos q2] at hg ha hn ⊢
        by_cases q3 : sgp f t 41 r.2
        · rw [if_pos q3] at hg ha hn ⊢
          exact H q2 ha hn st hs
        · rw [if_neg q3] at hg; exact absurd hg Bool.false_ne_true
      · rw [if_neg q2] at hg; exact absurd hg Bool.false_ne_true
    · rw [if_neg q1] at hg; exact absurd hg Bool.false_ne_true
  · rw [if_neg q] at hg ha hn ⊢
    rw [if_neg q]
    exact HC s hg ha hn st hs
theorem anL_g {w cd : Nat} {Pt : PSt → Bool × PSt} : ∀ (k : Nat) (g : Bool) (s : PSt), (anL w cd Pt f t k g s).1 = true → g = true
  | 0, _, _, h => h
  | k + 1, g, s, h => by
    unfold anL at h
    by_cases q : g = true ∧ wdp f t w s
    · exact q.1
    · rw [if_neg q] at h; exact h
theorem avL_s {y : Bool} {w cd m : Nat} (ho : cd = 12 ∧ y = true ∨ cd = 13 ∧ y = false) (hn5 : n ≤ 512) (hm : 1 ≤ m) {Pt : PSt → Bool × PSt} {Pv : PSt → OB} (HP : SmB n nW cf ws m Pt Pv) (HK : Kp Pt) : ∀ (k : Nat) (g : Bool) (s : PSt) (v : OB), (anL w cd Pt f t k g s).1 = true → agr cf s (anL w cd Pt f t k g s).2 → (anL w cd Pt f t k g s).2.2.1 ≤ n → ∀ st : List Int32, st.length + m ≤ 64 → cnV (v.map bI) (fun x => pm n nW cf ws s.2.1 (x :: st)) = cnV ((avL y w cd Pt Pv f t k v s).map bI) fun x => pm n nW cf ws (anL w cd Pt f t k g s).2.2.1 (x :: st)
  | 0, _, _, _, _, _, _, _, _ => rfl
  | k + 1, g, s, v, hg, ha, hn, st, hs => by
    have gt := anL_g (k + 1) g s hg
    unfold anL at hg ha hn ⊢
    unfold avL
    by_cases q : wdp f t w s
    · rw [if_pos (show g = true ∧ wdp f t w s from ⟨gt, q⟩)] at hg ha hn ⊢
      rw [if_pos q]
      have K0 := HK (emt (gow f t s) cd)
      have n0 : s.2.1 + 1 ≤ (Pt (emt (gow f t s) cd)).2.2.1 := K0.1
      have hP := HP (emt (gow f t s) cd)
      have K2 := Kp_anL (w := w) (cd := cd) (f := f) (t := t) HK k (Pt (emt (gow f t s) cd)).1 (lnd (Pt (emt (gow f t s) cd)).2 s.2.1 cd)
      have IH := fun v => avL_s ho hn5 hm HP HK k (Pt (emt (gow f t s) cd)).1 (lnd (Pt (emt (gow f t s) cd)).2 s.2.1 cd) v hg (ha.sub (Nat.le_of_lt n0) kpp.rf) hn st hs
      have g2 := anL_g k _ _ hg
      generalize Pt (emt (gow f t s) cd) = r at *
      have n1 : r.2.2.1 ≤ (anL w cd Pt f t k r.1 (lnd r.2 s.2.1 cd)).2.2.1 := K2.1
      have hc : cf s.2.1 = nI (cd + 16 * r.2.2.1) := (ha _ (Nat.le_refl _) (by omega)).trans ((K2.2 s.2.1 n0).trans (if_pos rfl))
      have ag : agr cf (emt (gow f t s) cd) r.2 := fun i hi hz => by
        have hi : s.2.1 + 1 ≤ i := hi
        exact (ha i (by omega) (by omega)).trans ((K2.2 i hz).trans (if_neg (show ¬ i = s.2.1 by omega)))
      have hP := hP g2 ag (by omega) st hs
      rw [← IH]
      cases v with
      | none => rfl
      | some x =>
        show pm n nW cf ws s.2.1 (bI x :: st) = cnV ((if x = y then some y else Pv (emt (gow f t s) cd)).map bI) _
        have ho2 : cd = 12 ∧ bI y = 1 ∨ cd = 13 ∧ bI y = 0 := by
          rcases ho with ⟨h1, rfl⟩ | ⟨h1, rfl⟩
          · exact Or.inl ⟨h1, rfl⟩
          · exact Or.inr ⟨h1, rfl⟩
        rw [pm_jmp (by omega) ho2 (by omega) hc (by omega) (by omega)]
        by_cases q2 : x = y
        · rw [if_pos q2, if_pos (by rw [q2]), q2]; rfl
        · rw [if_neg q2, if_neg (by revert q2; cases x <;> cases y <;> decide)]
          exact hP
    · rw [if_neg (show ¬ (g = true ∧ wdp f t w s) from fun z => q z.2), if_neg q]
theorem anq_s {y : Bool} {w cd m : Nat} (ho : cd = 12 ∧ y = true ∨ cd = 13 ∧ y = false) (hn5 : n ≤ 512) (hm : 1 ≤ m) {Pt : PSt → Bool × PSt} {Pv : PSt → OB} (HP : SmB n nW cf ws m Pt Pv) (HK : Kp Pt) : SmB n nW cf ws m (anq w cd Pt f t) (anV y w cd Pt Pv f t) := by
  intro s hg ha hn st hs
  unfold anq at hg ha hn ⊢
  unfold anV
  have K := Kp_anL (w := w) (cd := cd) (f := f) (t := t) HK 400 (Pt s).1 (Pt s).2
  have n1 := (HK s).1
  have n2 := K.1
  rw [HP s (anL_g _ _ _ hg) (ha.sub (Nat.le_refl _) K) (by omega) st (by omega)]
  exact avL_s ho hn5 hm HP HK 400 _ _ _ hg (ha.sub n1 kpp.rf) hn st hs
theorem SmB.mono {m m2 : Nat} {P : PSt → Bool × PSt} {V : PSt → OB} (H : SmB n nW cf ws m P V) (h : m ≤ m2) : SmB n nW cf ws m2 P V := fun s hg ha hn st hs => H s hg ha hn st (by omega)
theorem tss_s (hW : nWo o ≤ nW) (hA : hAm f t) (hn5 : n ≤ 512) : ∀ (d : Nat), SmB n nW cf ws (2 * d + 4) (tss f t o d) (tsV ws f t o d)
  | 0 => by
    have K : Kp (pln (plr (smd f t o 0) false (fun s => (false, s)) f t) f t) := Kp_pln (Kp_plr (Kp_smd 0) (fun _ => kpp.rf))
    have Kr : Kp (plr (smd f t o 0) false (fun s => (false, s)) f t) := Kp_plr (Kp_smd 0) (fun _ => kpp.rf)
    exact anq_s (Or.inl ⟨rfl, rfl⟩) hn5 (by decide) (anq_s (Or.inr ⟨rfl, rfl⟩) hn5 (by decide) (pln_s (by decide) (plr_s (cmS_s (m := 3) (by decide) (smd_s hW hA 0) (Kp_smd 0)) (fun z => absurd z (by decide))) Kr) K) (Kp_anq K)
  | d + 1 => by
    have Kr : Kp (plr (smd f t o (d + 1)) true (tss f t o d) f t) := Kp_plr (Kp_smd (d + 1)) (Kp_tss d)
    have K : Kp (pln (plr (smd f t o (d + 1)) true (tss f t o d) f t) f t) := Kp_pln Kr
    have HC : SmB n nW cf ws (2 * (d + 1) + 4) (cmS (smd f t o (d + 1)) f t) (cmV (smd f t o (d + 1)) (smV ws f t o (d + 1)) f t) := cmS_s (m := 2 * (d + 1) + 3) (by omega) (smd_s hW hA (d + 1)) (Kp_smd (d + 1))
    exact anq_s (Or.inl ⟨rfl, rfl⟩) hn5 (by omega) (anq_s (Or.inr ⟨rfl, rfl⟩) hn5 (by omega) (pln_s (by omega) (plr_s HC (fun _ => (tss_s hW hA hn5 d).mono (by omega))) Kr) K) (Kp_anq K)
end MeanB
