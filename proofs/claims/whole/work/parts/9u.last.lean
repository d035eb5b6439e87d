/-! PURE: a law that never asks the last count: it tells the same whatever that is -/
def AlP (P : PSt → Bool × PSt) (V V2 : PSt → OI) : Prop := ∀ s, (P s).1 = true → (P s).2.2.2.2.1 = 0 → s.2.2.2.1 = 0 ∧ V s = V2 s
def AlB (P : PSt → Bool × PSt) (V V2 : PSt → OB) : Prop := ∀ s, (P s).1 = true → (P s).2.2.2.2.1 = 0 → s.2.2.2.1 = 0 ∧ V s = V2 s
section AlU
variable {f : Nat → Int32} {t : Nat} {ws ws2 : Nat → Int32}
theorem lef_a (hw : ∀ i, ¬ i = 5 → ws i = ws2 i) : AlP (lef f t 0) (fun s => some (leaV ws f t 0 s)) (fun s => some (leaV ws2 f t 0 s)) := by
  intro s hg ha
  unfold lef at hg ha
  by_cases q : s.2.2.2.2 < 50
  · rw [if_pos q] at hg ha
    have eL : ∀ ws, leaV ws f t 0 s = leaV ws f t 0 (pap s) := fun _ => rfl
    have ea : s.2.2.2.1 = (pap s).2.2.2.1 := rfl
    show s.2.2.2.1 = 0 ∧ some (leaV ws f t 0 s) = some (leaV ws2 f t 0 s)
    rw [eL, eL, ea]
    generalize pap s = z at *
    unfold lep at hg ha
    unfold leaV
    by_cases q2 : tkd f t z.1 = 2
    · rw [if_pos q2] at hg ha
      rw [if_pos q2, if_pos q2]
      unfold nuq at hg ha
      by_cases q3 : nmv f t z ≤ 1000
      · rw [if_pos q3] at ha; exact ⟨ha, rfl⟩
      · rw [if_neg q3] at hg; exact absurd hg Bool.false_ne_true
    · rw [if_neg q2] at hg ha
      rw [if_neg q2, if_neg q2]
      rw [if_pos rfl] at hg ha
      rw [if_pos rfl, if_pos rfl]
      unfold lwq at hg ha
      by_cases q3 : amg f t 2 z = -1
      · rw [if_pos q3] at hg; exact absurd hg Bool.false_ne_true
      · rw [if_neg q3] at ha
        have ha : (if ¬ z.2.2.2.1 = 0 ∨ (amg f t 2 z).toInt.toNat = 5 then (1 : Int32) else 0) = 0 := ha
        by_cases q4 : ¬ z.2.2.2.1 = 0 ∨ (amg f t 2 z).toInt.toNat = 5
        · rw [if_pos q4] at ha; exact absurd ha (by decide)
        · refine ⟨?_, ?_⟩
          · by_cases q5 : z.2.2.2.1 = 0
            · exact q5
            · exact absurd (Or.inl q5) q4
          · rw [hw _ (fun z => q4 (Or.inr z))]
  · rw [if_neg q] at hg; exact absurd hg Bool.false_ne_true

theorem tmL_a {Pt : PSt → Bool × PSt} {Pv Pv2 : PSt → OI} (H : AlP Pt Pv Pv2) : ∀ (k : Nat) (g : Bool) (s : PSt), (tmL Pt f t k g s).1 = true → (tmL Pt f t k g s).2.2.2.2.1 = 0 → s.2.2.2.1 = 0 ∧ ∀ v, tvL Pt Pv f t k v s = tvL Pt Pv2 f t k v s
  | 0, _, _, _, ha => ⟨ha, fun _ => rfl⟩
  | k + 1, g, s, hg, ha => by
    have gt := tmL_g (k + 1) g s hg
    unfold tmL at hg ha
    unfold tvL
    by_cases q : mlq f t s = 0
    · rw [if_neg (show ¬ (g = true ∧ ¬ mlq f t s = 0) from fun z => z.2 q)] at ha
      refine ⟨ha, fun v => ?_⟩
      rw [if_neg (show ¬ ¬ mlq f t s = 0 from fun z => z q), if_neg (show ¬ ¬ mlq f t s = 0 from fun z => z q)]
    · rw [if_pos (show g = true ∧ ¬ mlq f t s = 0 from ⟨gt, q⟩)] at hg ha
      obtain ⟨a1, a2⟩ := tmL_a H k _ _ hg ha
      obtain ⟨b1, b2⟩ := H (gow f t s) (tmL_g k _ _ hg) a1
      refine ⟨b1, fun v => ?_⟩
      rw [if_pos (show ¬ mlq f t s = 0 from q), if_pos (show ¬ mlq f t s = 0 from q), a2, b2]
theorem trm_a {Pt : PSt → Bool × PSt} {Pv Pv2 : PSt → OI} (H : AlP Pt Pv Pv2) : AlP (trm Pt f t) (tvm Pt Pv f t) (tvm Pt Pv2 f t) := by
  intro s hg ha
  unfold trm at hg ha
  obtain ⟨a1, a2⟩ := tmL_a H 400 _ _ hg ha
  obtain ⟨b1, b2⟩ := H s (tmL_g 400 _ _ hg) a1
  refine ⟨b1, ?_⟩
  unfold tvm
  rw [a2, b2]
theorem smL_a {Pt : PSt → Bool × PSt} {Pv Pv2 : PSt → OI} (H : AlP Pt Pv Pv2) : ∀ (k : Nat) (g : Bool) (s : PSt), (smL Pt f t k g s).1 = true → (smL Pt f t k g s).2.2.2.2.1 = 0 → s.2.2.2.1 = 0 ∧ ∀ v, svL Pt Pv f t k v s = svL Pt Pv2 f t k v s
  | 0, _, _, _, ha => ⟨ha, fun _ => rfl⟩
  | k + 1, g, s, hg, ha => by
    have gt := smL_g (k + 1) g s hg
    unfold smL at hg ha
    unfold svL
    by_cases q : plq f t s = 0
    · rw [if_neg (show ¬ (g = true ∧ ¬ plq f t s = 0) from fun z => z.2 q)] at ha
      refine ⟨ha, fun v => ?_⟩
      rw [if_neg (show ¬ ¬ plq f t s = 0 from fun z => z q), if_neg (show ¬ ¬ plq f t s = 0 from fun z => z q)]
    · rw [if_pos (show g = true ∧ ¬ plq f t s = 0 from ⟨gt, q⟩)] at hg ha
      obtain ⟨a1, a2⟩ := smL_a H k _ _ hg ha
      obtain ⟨b1, b2⟩ := H (gow f t s) (smL_g k _ _ hg) a1
      refine ⟨b1, fun v => ?_⟩
      rw [if_pos (show ¬ plq f t s = 0 from q), if_pos (show ¬ plq f t s = 0 from q), a2, b2]
theorem smm_a {Pt : PSt → Bool × PSt} {Pv Pv2 : PSt → OI} (H : AlP Pt Pv Pv2) : AlP (smm Pt f t) (svm Pt Pv f t) (svm Pt Pv2 f t) := by
  intro s hg ha
  unfold smm at hg ha
  obtain ⟨a1, a2⟩ := smL_a H 400 _ _ hg ha
  obtain ⟨b1, b2⟩ := H s (smL_g 400 _ _ hg) a1
  refine ⟨b1, ?_⟩
  unfold svm
  rw [a2, b2]
theorem prs_a (hw : ∀ i, ¬ i = 5 → ws i = ws2 i) : ∀ (d : Nat), AlP (prs f t 0 d) (prV ws f t 0 d) (prV ws2 f t 0 d)
  | 0 => by
    intro s hg ha
    unfold prs at hg ha
    by_cases q : sgp f t 91 s
    · rw [if_pos q] at hg; exact absurd hg Bool.false_ne_true
    · rw [if_neg q] at hg ha
      exact lef_a hw s hg ha
  | d + 1 => by
    intro s hg ha
    unfold prs at hg ha
    unfold prV
    by_cases q : sgp f t 91 s
    · rw [if_pos q] at hg ha
      rw [if_pos q, if_pos q]
      have HS := smm_a (f := f) (t := t) (trm_a (f := f) (t := t) (prs_a hw d)) (gow f t s)
      generalize smm (trm (prs f t 0 d) f t) f t (gow f t s) = r at *
      by_cases q2 : r.1 = true
      · rw [if_pos q2] at hg ha
        by_cases q3 : sgp f t 93 r.2
        · rw [if_pos q3] at hg ha
          exact HS q2 ha
        · rw [if_neg q3] at hg; exact absurd hg Bool.false_ne_true
      · rw [if_neg q2] at hg; exact absurd hg Bool.false_ne_true
    · rw [if_neg q] at hg ha
      rw [if_neg q, if_neg q]
      exact lef_a hw s hg ha
theorem smd_a (hw : ∀ i, ¬ i = 5 → ws i = ws2 i) (d : Nat) : AlP (smd f t 0 d) (smV ws f t 0 d) (smV ws2 f t 0 d) := smm_a (trm_a (prs_a hw d))
theorem cmS_a {Sm : PSt → Bool × PSt} {Sv Sv2 : PSt → OI} (H : AlP Sm Sv Sv2) : AlB (cmS Sm f t) (cmV Sm Sv f t) (cmV Sm Sv2 f t) := by
  intro s hg ha
  unfold cmS cmR at hg ha
  unfold cmV
  by_cases q : (Sm s).1 = true ∧ ¬ cmq f t (Sm s).2 = 0
  · rw [if_pos q] at hg ha
    obtain ⟨a1, a2⟩ := H (gow f t (Sm s).2) hg ha
    obtain ⟨b1, b2⟩ := H s q.1 a1
    rw [a2, b2]
    exact ⟨b1, rfl⟩
  · rw [if_neg q] at hg; exact absurd hg Bool.false_ne_true
theorem pln_a {Pr : PSt → Bool × PSt} {Pv Pv2 : PSt → OB} (H : AlB Pr Pv Pv2) : AlB (pln Pr f t) (plV Pv f t) (plV Pv2 f t) := by
  intro s hg ha
  unfold pln at hg ha
  unfold plV
  have e := ntL_2 (f := f) (t := t) 400 false s
  generalize ntL f t 400 false s = z at *
  rw [(nto_1 (c := z.1) (r := Pr z.2)).1] at hg
  have ha : (Pr z.2).2.2.2.2.1 = 0 := by
    unfold nto at ha
    by_cases q : z.1 = true
    · rw [if_pos q] at ha; exact ha
    · rw [if_neg q] at ha; exact ha
  obtain ⟨a1, a2⟩ := H z.2 hg ha
  rw [a2]
  exact ⟨by rw [← e]; exact a1, rfl⟩
theorem plr_a {Sm Ts : PSt → Bool × PSt} {Sv Sv2 : PSt → OI} {Tv Tv2 : PSt → OB} {op : Bool} (HC : AlB (cmS Sm f t) (cmV Sm Sv f t) (cmV Sm Sv2 f t)) (HT : op = true → AlB Ts Tv Tv2) : AlB (plr Sm op Ts f t) (prW Sm Sv Tv f t) (prW Sm Sv2 Tv2 f t) := by
  intro s hg ha
  unfold plr at hg ha
  unfold prW
  by_cases q : sgp f t 40 s
  · rw [if_pos q] at hg ha
    rw [if_pos q, if_pos q]
    by_cases q1 : op = true
    · rw [if_pos q1] at hg ha
      have H := HT q1 (gow f t s)
      generalize Ts (gow f t s) = r at *
      unfold bra at hg ha
      by_cases q2 : r.1 = true
      · rw [if_pos q2] at hg ha
        by_cases q3 : sgp f t 41 r.2
        · rw [if_pos q3] at hg ha
          exact H q2 ha
        · rw [if_neg q3] at hg; exact absurd hg Bool.false_ne_true
      · rw [if_neg q2] at hg; exact absurd hg Bool.false_ne_true
    · rw [if_neg q1] at hg; exact absurd hg Bool.false_ne_true
  · rw [if_neg q] at hg ha
    rw [if_neg q, if_neg q]
    exact HC s hg ha
theorem anL_a {y : Bool} {w cd : Nat} {Pt : PSt → Bool × PSt} {Pv Pv2 : PSt → OB} (H : AlB Pt Pv Pv2) : ∀ (k : Nat) (g : Bool) (s : PSt), (anL w cd Pt f t k g s).1 = true → (anL w cd Pt f t k g s).2.2.2.2.1 = 0 → s.2.2.2.1 = 0 ∧ ∀ v, avL y w cd Pt Pv f t k v s = avL y w cd Pt Pv2 f t k v s
  | 0, _, _, _, ha => ⟨ha, fun _ => rfl⟩
  | k + 1, g, s, hg, ha => by
    have gt := anL_g (k + 1) g s hg
    unfold anL at hg ha
    unfold avL
    by_cases q : wdp f t w s
    · rw [if_pos (show g = true ∧ wdp f t w s from ⟨gt, q⟩)] at hg ha
      obtain ⟨a1, a2⟩ := anL_a H k _ _ hg ha
      obtain ⟨b1, b2⟩ := H (emt (gow f t s) cd) (anL_g k _ _ hg) a1
      refine ⟨b1, fun v => ?_⟩
      rw [if_pos q, if_pos q, a2, b2]
    · rw [if_neg (show ¬ (g = true ∧ wdp f t w s) from fun z => q z.2)] at ha
      refine ⟨ha, fun v => ?_⟩
      rw [if_neg q, if_neg q]
theorem anq_a {y : Bool} {w cd : Nat} {Pt : PSt → Bool × PSt} {Pv Pv2 : PSt → OB} (H : AlB Pt Pv Pv2) : AlB (anq w cd Pt f t) (anV y w cd Pt Pv f t) (anV y w cd Pt Pv2 f t) := by
  intro s hg ha
  unfold anq at hg ha
  obtain ⟨a1, a2⟩ := anL_a (y := y) H 400 _ _ hg ha
  obtain ⟨b1, b2⟩ := H s (anL_g 400 _ _ hg) a1
  refine ⟨b1, ?_⟩
  unfold anV
  rw [a2, b2]
theorem tss_a (hw : ∀ i, ¬ i = 5 → ws i = ws2 i) : ∀ (d : Nat), AlB (tss f t 0 d) (tsV ws f t 0 d) (tsV ws2 f t 0 d)
  | 0 => anq_a (anq_a (pln_a (plr_a (cmS_a (smd_a hw 0)) (fun z => absurd z (by decide)))))
  | d + 1 => anq_a (anq_a (pln_a (plr_a (cmS_a (smd_a hw (d + 1))) (fun _ => tss_a hw d))))
/-- the law's clauses, if none of them asks it -/
theorem rcl_a (hw : ∀ i, ¬ i = 5 → ws i = ws2 i) {S : CSt} (hg : (rcl f t 0 S).1 = true) (ha : (rcl f t 0 S).2.1.2.2.2.1 = 0) : S.1.2.2.2.1 = 0 ∧ ltV ws f t S = ltV ws2 f t S ∧ (¬ amg f t 10 S.1 = 2 → lsV ws f t S = lsV ws2 f t S) := by
  have e : rcl f t 0 S = rru f t 0 S := if_pos rfl
  rw [e] at hg ha
  obtain ⟨g1, g2, g3, g4, g5⟩ := rru_good hg
  rw [g4] at ha
  have t1 : (lS1 f t S).1.2.2.2.1 = 0 ∧ ltV ws f t S = ltV ws2 f t S := by
    unfold rif at g3 ha
    unfold ltV
    by_cases q : wdp f t 6 (lS1 f t S).1
    · rw [if_pos q] at g3 ha
      rw [if_pos q, if_pos q]
      exact tss_a hw 8 (gow f t (lS1 f t S).1) g3 ha
    · rw [if_neg q] at ha
      rw [if_neg q, if_neg q]
      exact ⟨ha, rfl⟩
  by_cases q2 : amg f t 10 S.1 = 2
  · have eS : lS1 f t S = bgn f t (amg f t 10 S.1) S := if_pos q2
    refine ⟨?_, t1.2, fun z => absurd q2 z⟩
    have := t1.1
    rw [eS] at this
    exact this
  · have eS : lS1 f t S = (rsm f t 0 0 (bgn f t (amg f t 10 S.1) S)).2 := if_neg q2
    have h1 := t1.1
    rw [eS] at h1
    obtain ⟨a1, a2⟩ := smd_a hw 8 (gow f t S.1) (g2 q2) h1
    exact ⟨a1, t1.2, fun _ => a2⟩
theorem cls_a (hw : ∀ i, ¬ i = 5 → ws i = ws2 i) : ∀ (m : Nat) (S : CSt), (rdL f t 0 m S).1 = true → (rdL f t 0 m S).2.1.2.2.2.1 = 0 → S.1.2.2.2.1 = 0 ∧ (∀ kd w, ¬ kd = 2 → (cls f t 0 m S).foldl (lst ws f t kd) w = (cls f t 0 m S).foldl (lst ws2 f t kd) w) ∧ lit ws f t (cls f t 0 m S) = lit ws2 f t (cls f t 0 m S)
  | 0, S, h, _ => absurd h Bool.false_ne_true
  | m + 1, S, h, ha => by
    obtain ⟨g, r⟩ := rdL_good h
    have one : (rcl f t 0 S).2.1.2.2.2.1 = 0 → S.1.2.2.2.1 = 0 ∧ lso ws f t S = lso ws2 f t S ∧ ∀ kd w, ¬ kd = 2 → lst ws f t kd w S = lst ws2 f t kd w S := fun z => by
      obtain ⟨a1, a2, a3⟩ := rcl_a hw g z
      have e : lso ws f t S = lso ws2 f t S := by unfold lso; rw [a2]
      refine ⟨a1, e, fun kd w hk => ?_⟩
      unfold lst
      rw [e]
      by_cases q : amg f t 10 S.1 = kd
      · rw [a3 (fun z => hk (q.symm.trans z))]
      · rw [if_neg (fun z => q z.1), if_neg (fun z => q z.1)]
    rcases r with ⟨q, e1, e2⟩ | ⟨q, q3, e1, e2⟩
    · rw [e1] at ha
      obtain ⟨a1, a2, a3⟩ := one ha
      rw [e2]
      refine ⟨a1, fun kd w hk => a3 kd w hk, ?_⟩
      unfold lit
      simp [a2]
    · rw [e1] at h ha
      obtain ⟨i1, i2, i3⟩ := cls_a hw m _ h ha
      obtain ⟨a1, a2, a3⟩ := one i1
      rw [e2]
      refine ⟨a1, fun kd w hk => ?_, ?_⟩
      · show (cls f t 0 m _).foldl (lst ws f t kd) (lst ws f t kd w S) = (cls f t 0 m _).foldl (lst ws2 f t kd) (lst ws2 f t kd w S)
        rw [a3 kd w hk, i2 kd _ hk]
      · unfold lit at i3 ⊢
        rw [List.any_cons, List.any_cons, i3, a2]
end AlU
