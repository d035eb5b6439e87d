/-! PURE: what the texts mean, along the parser -/
abbrev OI : Type := Option Int32
/-- the machine goes on with the value; a broken one ends it -/
def cnV (v : OI) (k : Int32 → OI) : OI := match v with
  | none => some BRK
  | some x => k x
def bnv (o : Nat) (x y : Int32) : OI := if farv (joinv o x.toInt64 y.toInt64) = true then none else some (joinv o x.toInt64 y.toInt64).toInt32
def bn2 (o : Nat) (v w : OI) : OI := v.bind fun x => w.bind fun y => bnv o x y
def leaV (ws f : Nat → Int32) (t : Nat) (o : Int32) (s : PSt) : Int32 := if tkd f t s.1 = 2 then nI (nmv f t s) else if o = 0 then ws (amg f t 2 s).toInt.toNat else if (amg f t 1 s).toInt.toNat < 3 then ws (amg f t 1 s).toInt.toNat else ws (3 + ((amg f t 1 s).toInt.toNat - 3) * 6 + nmv f t (gow f t s))
def tvL (Pt : PSt → Bool × PSt) (Pv : PSt → OI) (f : Nat → Int32) (t : Nat) : Nat → OI → PSt → OI
  | 0, v, _ => v
  | k + 1, v, s => if ¬ mlq f t s = 0 then tvL Pt Pv f t k (bn2 (mlq f t s) v (Pv (gow f t s))) (emt (Pt (gow f t s)).2 (mlq f t s)) else v
def tvm (Pt : PSt → Bool × PSt) (Pv : PSt → OI) (f : Nat → Int32) (t : Nat) (s : PSt) : OI := tvL Pt Pv f t 400 (Pv s) (Pt s).2
def svL (Tm : PSt → Bool × PSt) (Tv : PSt → OI) (f : Nat → Int32) (t : Nat) : Nat → OI → PSt → OI
  | 0, v, _ => v
  | k + 1, v, s => if ¬ plq f t s = 0 then svL Tm Tv f t k (bn2 (plq f t s) v (Tv (gow f t s))) (emt (Tm (gow f t s)).2 (plq f t s)) else v
def svm (Tm : PSt → Bool × PSt) (Tv : PSt → OI) (f : Nat → Int32) (t : Nat) (s : PSt) : OI := svL Tm Tv f t 400 (Tv s) (Tm s).2
def prV (ws f : Nat → Int32) (t : Nat) (o : Int32) : Nat → PSt → OI
  | 0, s => some (leaV ws f t o s)
  | d + 1, s => if sgp f t 91 s then svm (trm (prs f t o d) f t) (tvm (prs f t o d) (prV ws f t o d) f t) f t (gow f t s) else some (leaV ws f t o s)
def smV (ws f : Nat → Int32) (t : Nat) (o : Int32) (d : Nat) : PSt → OI := svm (trm (prs f t o d) f t) (tvm (prs f t o d) (prV ws f t o d) f t) f t
abbrev OB : Type := Option Bool
def cmb (o : Nat) (x y : Int32) : Bool := if o = 8 then decide (x.toInt64 < y.toInt64) else if o = 9 then decide (y.toInt64 < x.toInt64) else decide (x.toInt64 = y.toInt64)
def cmV (Sm : PSt → Bool × PSt) (Sv : PSt → OI) (f : Nat → Int32) (t : Nat) (s : PSt) : OB := (Sv s).bind fun x => (Sv (gow f t (Sm s).2)).map fun y => cmb (cmq f t (Sm s).2) x y
def avL (y : Bool) (w cd : Nat) (Pt : PSt → Bool × PSt) (Pv : PSt → OB) (f : Nat → Int32) (t : Nat) : Nat → OB → PSt → OB
  | 0, v, _ => v
  | k + 1, v, s => if wdp f t w s then avL y w cd Pt Pv f t k (v.bind fun x => if x = y then some y else Pv (emt (gow f t s) cd)) (lnd (Pt (emt (gow f t s) cd)).2 s.2.1 cd) else v
def anV (y : Bool) (w cd : Nat) (Pt : PSt → Bool × PSt) (Pv : PSt → OB) (f : Nat → Int32) (t : Nat) (s : PSt) : OB := avL y w cd Pt Pv f t 400 (Pv s) (Pt s).2
def plV (Pv : PSt → OB) (f : Nat → Int32) (t : Nat) (s : PSt) : OB := (Pv (ntL f t 400 false s).2).map fun x => x != (ntL f t 400 false s).1
def prW (Sm : PSt → Bool × PSt) (Sv : PSt → OI) (Tv : PSt → OB) (f : Nat → Int32) (t : Nat) (s : PSt) : OB := if sgp f t 40 s then Tv (gow f t s) else cmV Sm Sv f t s
def tsV (ws f : Nat → Int32) (t : Nat) (o : Int32) : Nat → PSt → OB
  | 0 => anV true 9 12 (anq 8 13 (pln (plr (smd f t o 0) false (fun s => (false, s)) f t) f t) f t) (anV false 8 13 (pln (plr (smd f t o 0) false (fun s => (false, s)) f t) f t) (plV (prW (smd f t o 0) (smV ws f t o 0) (fun _ => none) f t) f t) f t) f t
  | d + 1 => anV true 9 12 (anq 8 13 (pln (plr (smd f t o (d + 1)) true (tss f t o d) f t) f t) f t) (anV false 8 13 (pln (plr (smd f t o (d + 1)) true (tss f t o d) f t) f t) (plV (prW (smd f t o (d + 1)) (smV ws f t o (d + 1)) (tsV ws f t o d) f t) f t) f t) f t
/-- cf holds what stands in z from s on -/
def agr (cf : Nat → Int32) (s z : PSt) : Prop := ∀ i, s.2.1 ≤ i → i < z.2.1 → cf i = z.2.2.1 i
theorem agr.sub {cf : Nat → Int32} {s z s1 z1 : PSt} (H : agr cf s z) (h1 : s.2.1 ≤ s1.2.1) (h2 : kpp z1 z) : agr cf s1 z1 := fun i hi hz => (H i (by omega) (by have := h2.1; omega)).trans (h2.2 i hz)
/-- P's code, run, puts V on the stack; it needs m places there -/
def Sem (n nW : Nat) (cf ws : Nat → Int32) (m : Nat) (P : PSt → Bool × PSt) (V : PSt → OI) : Prop := ∀ s, (P s).1 = true → agr cf s (P s).2 → (P s).2.2.1 ≤ n → ∀ st : List Int32, st.length + m ≤ 64 → pm n nW cf ws s.2.1 st = cnV (V s) fun x => pm n nW cf ws (P s).2.2.1 (x :: st)
theorem cnV_bn {o : Nat} {v w : OI} {k : Int32 → OI} : cnV (bn2 o v w) k = cnV v fun x => cnV w fun y => cnV (bnv o x y) k := by
  cases v with
  | none => rfl
  | some x => cases w with
    | none => rfl
    | some y => rfl
section MeanS
variable {n nW : Nat} {cf ws f : Nat → Int32} {t : Nat} {o : Int32}
theorem pm_bn {k c : Nat} (hk : k < n) (h3 : 3 ≤ c) (h10 : c ≤ 10) (hc : cf k = nI c) {x y : Int32} {st : List Int32} (hs : st.length + 1 < 64) : pm n nW cf ws k (y :: x :: st) = cnV (bnv c x y) fun z => pm n nW cf ws (k + 1) (z :: st) := by
  rw [pm_bin hk h3 h10 hc hs]
  unfold bnv
  by_cases q : farv (joinv c x.toInt64 y.toInt64) = true
  · rw [if_pos q, if_pos q]; rfl
  · rw [if_neg q, if_neg q]; rfl
theorem tmL_g {Pt : PSt → Bool × PSt} : ∀ (k : Nat) (g : Bool) (s : PSt), (tmL Pt f t k g s).1 = true → g = true
  | 0, _, _, h => h
  | k + 1, g, s, h => by
    unfold tmL at h
    by_cases q : g = true ∧ ¬ mlq f t s = 0
    · exact q.1
    · rw [if_neg q] at h; exact h
theorem smL_g {Pt : PSt → Bool × PSt} : ∀ (k : Nat) (g : Bool) (s : PSt), (smL Pt f t k g s).1 = true → g = true
  | 0, _, _, h => h
  | k + 1, g, s, h => by
    unfold smL at h
    by_cases q : g = true ∧ ¬ plq f t s = 0
    · exact q.1
    · rw [if_neg q] at h; exact h
theorem mlq_3 {s : PSt} (h : ¬ mlq f t s = 0) : 3 ≤ mlq f t s ∧ mlq f t s ≤ 10 := by
  unfold mlq at h ⊢
  by_cases q1 : sgp f t 42 s
  · rw [if_pos q1]; omega
  · rw [if_neg q1] at h ⊢
    by_cases q2 : sgp f t 47 s
    · rw [if_pos q2]; omega
    · rw [if_neg q2] at h ⊢
      by_cases q3 : sgp f t 37 s
      · rw [if_pos q3]; omega
      · rw [if_neg q3] at h; exact absurd rfl h
theorem plq_3 {s : PSt} (h : ¬ plq f t s = 0) : 3 ≤ plq f t s ∧ plq f t s ≤ 10 := by
  unfold plq at h ⊢
  by_cases q1 : sgp f t 43 s
  · rw [if_pos q1]; omega
  · rw [if_neg q1] at h ⊢
    by_cases q2 : sgp f t 45 s
    · rw [if_pos q2]; omega
    · rw [if_neg q2] at h; exact absurd rfl h
theorem cmq_3 {s : PSt} (h : ¬ cmq f t s = 0) : 8 ≤ cmq f t s ∧ cmq f t s ≤ 10 := by
  unfold cmq at h ⊢
  by_cases q1 : sgp f t 60 s
  · rw [if_pos q1]; omega
  · rw [if_neg q1] at h ⊢
    by_cases q2 : sgp f t 62 s
    · rw [if_pos q2]; omega
    · rw [if_neg q2] at h ⊢
      by_cases q3 : sgp f t 61 s
      · rw [if_pos q3]; omega
      · rw [if_neg q3] at h; exact absurd rfl h

theorem tvL_s {m : Nat} {Pt : PSt → Bool × PSt} {Pv : PSt → OI} (HP : Sem n nW cf ws m Pt Pv) (HK : Kp Pt) : ∀ (k : Nat) (g : Bool) (s : PSt) (v : OI), (tmL Pt f t k g s).1 = true → agr cf s (tmL Pt f t k g s).2 → (tmL Pt f t k g s).2.2.1 ≤ n → ∀ st : List Int32, st.length + 1 + m ≤ 64 → 1 ≤ m → cnV v (fun x => pm n nW cf ws s.2.1 (x :: st)) = cnV (tvL Pt Pv f t k v s) fun x => pm n nW cf ws (tmL Pt f t k g s).2.2.1 (x :: st)
  | 0, _, _, _, _, _, _, _, _, _ => rfl
  | k + 1, g, s, v, hg, ha, hn, st, hs, hm => by
    have gt := tmL_g (k + 1) g s hg
    unfold tmL at hg ha hn ⊢
    unfold tvL
    by_cases q : mlq f t s = 0
    · rw [if_neg (show ¬ (g = true ∧ ¬ mlq f t s = 0) from fun z => z.2 q), if_neg (show ¬ ¬ mlq f t s = 0 from fun z => z q)]
    · rw [if_pos (show g = true ∧ ¬ mlq f t s = 0 from ⟨gt, q⟩)] at hg ha hn ⊢
      rw [if_pos (show ¬ mlq f t s = 0 from q)]
      obtain ⟨q3, q10⟩ := mlq_3 q
      have K1 : kpp (Pt (gow f t s)).2 (emt (Pt (gow f t s)).2 (mlq f t s)) := kpp.em
      have K2 := Kp_tmL (f := f) (t := t) HK k (Pt (gow f t s)).1 (emt (Pt (gow f t s)).2 (mlq f t s))
      have K0 := HK (gow f t s)
      have n0 : s.2.1 ≤ (Pt (gow f t s)).2.2.1 := K0.1
      have n1 : (Pt (gow f t s)).2.2.1 + 1 ≤ (tmL Pt f t k (Pt (gow f t s)).1 (emt (Pt (gow f t s)).2 (mlq f t s))).2.2.1 := K2.1
      have hP := HP (gow f t s) (tmL_g k _ _ hg) (ha.sub (Nat.le_refl _) (K1.tr K2)) (by omega)
      have hc : cf (Pt (gow f t s)).2.2.1 = nI (mlq f t s) := (ha _ n0 (by omega)).trans ((K2.2 _ (Nat.lt_succ_self _)).trans (if_pos rfl))
      have IH := tvL_s HP HK k (Pt (gow f t s)).1 (emt (Pt (gow f t s)).2 (mlq f t s)) (bn2 (mlq f t s) v (Pv (gow f t s))) hg (ha.sub (Nat.le_trans n0 (Nat.le_succ _)) kpp.rf) hn st hs hm
      rw [← IH, cnV_bn]
      cases v with
      | none => rfl
      | some x =>
        show pm n nW cf ws s.2.1 (x :: st) = cnV (Pv (gow f t s)) _
        rw [show pm n nW cf ws s.2.1 (x :: st) = _ from hP (x :: st) (by show st.length + 1 + m ≤ 64; exact hs)]
        congr 1
        funext y
        exact pm_bn (by omega) q3 q10 hc (by omega)
theorem svL_s {m : Nat} {Pt : PSt → Bool × PSt} {Pv : PSt → OI} (HP : Sem n nW cf ws m Pt Pv) (HK : Kp Pt) : ∀ (k : Nat) (g : Bool) (s : PSt) (v : OI), (smL Pt f t k g s).1 = true → agr cf s (smL Pt f t k g s).2 → (smL Pt f t k g s).2.2.1 ≤ n → ∀ st : List Int32, st.length + 1 + m ≤ 64 → 1 ≤ m → cnV v (fun x => pm n nW cf ws s.2.1 (x :: st)) = cnV (svL Pt Pv f t k v s) fun x => pm n nW cf ws (smL Pt f t k g s).2.2.1 (x :: st)
  | 0, _, _, _, _, _, _, _, _, _ => rfl
  | k + 1, g, s, v, hg, ha, hn, st, hs, hm => by
    have gt := smL_g (k + 1) g s hg
    unfold smL at hg ha hn ⊢
    unfold svL
    by_cases q : plq f t s = 0
    · rw [if_neg (show ¬ (g = true ∧ ¬ plq f t s = 0) from fun z => z.2 q), if_neg (show ¬ ¬ plq f t s = 0 from fun z => z q)]
    · rw [if_pos (show g = true ∧ ¬ plq f t s = 0 from ⟨gt, q⟩)] at hg ha hn ⊢
      rw [if_pos (show ¬ plq f t s = 0 from q)]
      obtain ⟨q3, q10⟩ := plq_3 q
      have K1 : kpp (Pt (gow f t s)).2 (emt (Pt (gow f t s)).2 (plq f t s)) := kpp.em
      have K2 := Kp_smL (f := f) (t := t) HK k (Pt (gow f t s)).1 (emt (Pt (gow f t s)).2 (plq f t s))
      have K0 := HK (gow f t s)
      have n0 : s.2.1 ≤ (Pt (gow f t s)).2.2.1 := K0.1
      have n1 : (Pt (gow f t s)).2.2.1 + 1 ≤ (smL Pt f t k (Pt (gow f t s)).1 (emt (Pt (gow f t s)).2 (plq f t s))).2.2.1 := K2.1
      have hP := HP (gow f t s) (smL_g k _ _ hg) (ha.sub (Nat.le_refl _) (K1.tr K2)) (by omega)
      have hc : cf (Pt (gow f t s)).2.2.1 = nI (plq f t s) := (ha _ n0 (by omega)).trans ((K2.2 _ (Nat.lt_succ_self _)).trans (if_pos rfl))
      have IH := svL_s HP HK k (Pt (gow f t s)).1 (emt (Pt (gow f t s)).2 (plq f t s)) (bn2 (plq f t s) v (Pv (gow f t s))) hg (ha.sub (Nat.le_trans n0 (Nat.le_succ _)) kpp.rf) hn st hs hm
      rw [← IH, cnV_bn]
      cases v with
      | none => rfl
      | some x =>
        show pm n nW cf ws s.2.1 (x :: st) = cnV (Pv (gow f t s)) _
        rw [show pm n nW cf ws s.2.1 (x :: st) = _ from hP (x :: st) (by show st.length + 1 + m ≤ 64; exact hs)]
        congr 1
        funext y
        exact pm_bn (by omega) q3 q10 hc (by omega)
theorem trm_s {m : Nat} {Pt : PSt → Bool × PSt} {Pv : PSt → OI} (hm : 1 ≤ m) (HP : Sem n nW cf ws m Pt Pv) (HK : Kp Pt) : Sem n nW cf ws (m + 1) (trm Pt f t) (tvm Pt Pv f t) := by
  intro s hg ha hn st hs
  unfold trm at hg ha hn ⊢
  unfold tvm
  have K := Kp_tmL (f := f) (t := t) HK 400 (Pt s).1 (Pt s).2
  have n1 := (HK s).1
  have n2 := K.1
  rw [HP s (tmL_g _ _ _ hg) (ha.sub (Nat.le_refl _) K) (by omega) st (by omega)]
  exact tvL_s HP HK 400 _ _ _ hg (ha.sub n1 kpp.rf) hn st (by omega) hm
theorem smm_s {m : Nat} {Pt : PSt → Bool × PSt} {Pv : PSt → OI} (hm : 1 ≤ m) (HP : Sem n nW cf ws m Pt Pv) (HK : Kp Pt) : Sem n nW cf ws (m + 1) (smm Pt f t) (svm Pt Pv f t) := by
  intro s hg ha hn st hs
  unfold smm at hg ha hn ⊢
  unfold svm
  have K := Kp_smL (f := f) (t := t) HK 400 (Pt s).1 (Pt s).2
  have n1 := (HK s).1
  have n2 := K.1
  rw [HP s (smL_g _ _ _ hg) (ha.sub (Nat.le_refl _) K) (by omega) st (by omega)]
  exact svL_s HP HK 400 _ _ _ hg (ha.sub n1 kpp.rf) hn st (by omega) hm
/-- the words that a text may ask -/
def nWo (o : Int32) : Nat := if o = 0 then 8 else 21
theorem lef_s (hW : nWo o ≤ nW) (hA : ∀ s : PSt, (¬ amg f t 2 s = -1 → (amg f t 2 s).toInt.toNat < 8) ∧ (¬ amg f t 1 s = -1 → (amg f t 1 s).toInt.toNat < 6)) {m : Nat} (hm : 1 ≤ m) : Sem n nW cf ws m (lef f t o) (fun s => some (leaV ws f t o s)) := by
  intro s hg ha hn st hs
  show _ = pm n nW cf ws (lef f t o s).2.2.1 (leaV ws f t o s :: st)
  unfold lef at hg ha hn ⊢
  by_cases q : s.2.2.2.2 < 50
  · rw [if_pos q] at hg ha hn ⊢
    have eN : (pap s).2.1 = s.2.1 := rfl
    have eL : leaV ws f t o (pap s) = leaV ws f t o s := rfl
    have ha : agr cf (pap s) (lep f t o (pap s)).2 := ha
    rw [← eL, ← eN]
    generalize pap s = z at *
    unfold lep at hg ha hn ⊢
    unfold leaV
    by_cases q2 : tkd f t z.1 = 2
    · rw [if_pos q2] at hg ha hn ⊢
      rw [if_pos q2]
      unfold nuq at hg ha hn ⊢
      by_cases q3 : nmv f t z ≤ 1000
      · rw [if_pos q3] at hg ha hn ⊢
        have hn : z.2.1 + 1 ≤ n := hn
        exact pm_num (by omega) (by omega) ((ha _ (Nat.le_refl _) (Nat.lt_succ_self _)).trans (if_pos rfl)) (by omega)
      · rw [if_neg q3] at hg; exact absurd hg Bool.false_ne_true
    · rw [if_neg q2] at hg ha hn ⊢
      rw [if_neg q2]
      by_cases q4 : o = 0
      · rw [if_pos q4] at hg ha hn ⊢
        rw [if_pos q4]
        have h8 : 8 ≤ nW := by unfold nWo at hW; rw [if_pos q4] at hW; exact hW
        unfold lwq at hg ha hn ⊢
        by_cases q3 : amg f t 2 z = -1
        · rw [if_pos q3] at hg; exact absurd hg Bool.false_ne_true
        · rw [if_neg q3] at hg ha hn ⊢
          have hn : z.2.1 + 1 ≤ n := hn
          have hw := (hA z).1 q3
          exact pm_word (by omega) (by omega) ((ha _ (Nat.le_refl _) (Nat.lt_succ_self _)).trans (if_pos rfl)) (by omega) (by omega)
      · rw [if_neg q4] at hg ha hn ⊢
        rw [if_neg q4]
        have h21 : 21 ≤ nW := by unfold nWo at hW; rw [if_neg q4] at hW; exact hW
        unfold owq at hg ha hn ⊢
        by_cases q3 : amg f t 1 z = -1
        · rw [if_pos q3] at hg; exact absurd hg Bool.false_ne_true
        · rw [if_neg q3] at hg ha hn ⊢
          have hw := (hA z).2 q3
          by_cases q5 : (amg f t 1 z).toInt.toNat < 3
          · rw [if_pos q5] at hg ha hn ⊢
            rw [if_pos q5]
            have hn : z.2.1 + 1 ≤ n := hn
            exact pm_word (by omega) (by omega) ((ha _ (Nat.le_refl _) (Nat.lt_succ_self _)).trans (if_pos rfl)) (by omega) (by omega)
          · rw [if_neg q5] at hg ha hn ⊢
            rw [if_neg q5]
            by_cases q6 : tkd f t (gow f t z).1 = 2 ∧ nmv f t (gow f t z) < 6
            · rw [if_pos q6] at hg ha hn ⊢
              have hn : z.2.1 + 1 ≤ n := hn
              have h6 := q6.2
              exact pm_word (by omega) (by omega) ((ha _ (Nat.le_refl _) (Nat.lt_succ_self _)).trans (if_pos rfl)) (by omega) (by omega)
            · rw [if_neg q6] at hg; exact absurd hg Bool.false_ne_true
  · rw [if_neg q] at hg; exact absurd hg Bool.false_ne_true
def hAm (f : Nat → Int32) (t : Nat) : Prop := ∀ s : PSt, (¬ amg f t 2 s = -1 → (amg f t 2 s).toInt.toNat < 8) ∧ (¬ amg f t 1 s = -1 → (amg f t 1 s).toInt.toNat < 6)
theorem prs_s (hW : nWo o ≤ nW) (hA : hAm f t) : ∀ (d : Nat), Sem n nW cf ws (2 * d + 1) (prs f t o d) (prV ws f t o d)
  | 0 => by
    intro s hg ha hn st hs
    unfold prs at hg ha hn ⊢
    by_cases q : sgp f t 91 s
    · rw [if_pos q] at hg; exact absurd hg Bool.false_ne_true
    · rw [if_neg q] at hg ha hn ⊢
      exact lef_s hW hA (Nat.le_refl _) s hg ha hn st hs
  | d + 1 => by
    intro s hg ha hn st hs
    unfold prs at hg ha hn ⊢
    unfold prV
    by_cases q : sgp f t 91 s
    · rw [if_pos q] at hg ha hn ⊢
      rw [if_pos q]
      have HS : Sem n nW cf ws (2 * d + 1 + 1 + 1) (smm (trm (prs f t o d) f t) f t) (svm (trm (prs f t o d) f t) (tvm (prs f t o d) (prV ws f t o d) f t) f t) := smm_s (by omega) (trm_s (by omega) (prs_s hW hA d) (Kp_prs d)) (Kp_trm (Kp_prs d))
      have HS := HS (gow f t s)
      generalize smm (trm (prs f t o d) f t) f t (gow f t s) = r at *
      by_cases q2 : r.1 = true
      · rw [if_pos q2] at hg ha hn ⊢
        by_cases q3 : sgp f t 93 r.2
        · rw [if_pos q3] at hg ha hn ⊢
          exact HS q2 ha hn st (by omega)
        · rw [if_neg q3] at hg; exact absurd hg Bool.false_ne_true
      · rw [if_neg q2] at hg; exact absurd hg Bool.false_ne_true
    · rw [if_neg q] at hg ha hn ⊢
      rw [if_neg q]
      exact lef_s hW hA (by omega) s hg ha hn st hs
theorem smd_s (hW : nWo o ≤ nW) (hA : hAm f t) (d : Nat) : Sem n nW cf ws (2 * d + 3) (smd f t o d) (smV ws f t o d) := smm_s (by omega) (trm_s (by omega) (prs_s hW hA d) (Kp_prs d)) (Kp_trm (Kp_prs d))
end MeanS
