/-! PURE: a law's text: what the reference tells by it and what the class does are one -/
def lso (ws f : Nat → Int32) (t : Nat) (S : CSt) : Bool := decide (ltV ws f t S = some true)
def lst (ws f : Nat → Int32) (t : Nat) (kd : Int32) (w : Int32) (S : CSt) : Int32 := if amg f t 10 S.1 = kd ∧ lso ws f t S = true then (lsV ws f t S).getD w else w
def lhd (f : Nat → Int32) (t : Nat) (L : List CSt) : Bool := L.any fun S => decide (amg f t 10 S.1 = 2)
def lit (ws f : Nat → Int32) (t : Nat) (L : List CSt) : Bool := L.any fun S => decide (amg f t 10 S.1 = 2) && lso ws f t S
section LawT
variable {f : Nat → Int32} {t n G nh : Nat} {A : Nat → Nat → Int32} {ws : Nat → Int32}
theorem tsum_e (E : EvE f t n G A) (HW : HWs A nh 0 ws) {d : Nat} (h : d ≤ 8) (live : Bool) : EvP f t n G live (tsumv A (G + n) nh live) (smd f t 0 d) (smV ws f t 0 d) := by
  have e : decide (¬ (0 : Int32) = 0) = false := by decide
  have H := sumv_e (live := live) (o := 0) E HW h
  rw [e] at H
  exact H
theorem clv_e (E : EvE f t n G A) (HW : HWs A nh 0 ws) {S : CSt} {i : Nat} (hg : (rcl f t 0 S).1 = true) (a : AtE f t n i S.1) : ∃ i2 s ho b2 k, i < i2 ∧ AtE f t n i2 (rcl f t 0 S).2.1 ∧ k < 3 ∧ amg f t 10 S.1 = nI k ∧ cdA A (G + n) (G + i) = nI (1 + k) ∧ i < n ∧ clv (tsumv A (G + n) nh true) (tsv (tsumv A (G + n) nh) A (G + n) 9 true) A (G + n) (G + i) = some (s, ho, G + i2 + 1, b2) ∧ (k = 2 → ho = lso ws f t S) ∧ (k < 2 → ho = (lso ws f t S && (lsV ws f t S).isSome) ∧ ∀ x, lsV ws f t S = some x → s = x.toInt64) := by
  have er : rcl f t 0 S = rru f t 0 S := if_pos rfl
  rw [er] at hg ⊢
  obtain ⟨g1, g2, g3, g4, g5⟩ := rru_good hg
  obtain ⟨c1, c2, c3, c4⟩ := E.cd a
  have hb := cdN_b (f := f) (t := t) (y := S.1.1)
  obtain ⟨k, hk, ek, ec⟩ := amg_ex c3 (w := 10) (by decide) g1
  have hk : k < 3 := hk
  have ep : pmw 10 k = 1 + k := by
    have : ∀ k, k < 3 → pmw 10 k = 1 + k := by decide
    exact this k hk
  rw [ep] at ec
  have hst : S.1.1 < t := by
    refine Nat.lt_of_not_le (fun y => ?_)
    have := cdN_t (f := f) y
    omega
  have a1 := E.nx a hst
  have HT := tsv_e E HW (S := tsumv A (G + n) nh) (fun d hd live => tsum_e E HW hd live) 8 (Nat.le_refl _)
  -- from the place of the test on
  have fin : ∀ (i1 : Nat) (s : Int64) (sb : Bool), i < i1 → AtE f t n i1 (lS1 f t S).1 → (if cdA A (G + n) (G + i) = nI 3 then some (1, G + i + 1, false) else tsumv A (G + n) nh true (G + i + 1) false) = some (s, G + i1, sb) → ∃ i2 b2, i < i2 ∧ AtE f t n i2 (rru f t 0 S).2.1 ∧ clv (tsumv A (G + n) nh true) (tsv (tsumv A (G + n) nh) A (G + n) 9 true) A (G + n) (G + i) = some (s, lso ws f t S && !sb, G + i2 + 1, b2) := fun i1 s sb hi1 ai1 e1 => by
    obtain ⟨d1, d2, d3, d4⟩ := E.cd ai1
    have hb1 := cdN_b (f := f) (t := t) (y := (lS1 f t S).1.1)
    have dw : wdp f t 6 (lS1 f t S).1 ↔ cdN f t (lS1 f t S).1.1 = 4 := wdp_iff d3 (by decide) rfl
    rw [g4]
    unfold rif at g3 ⊢
    unfold clv lso ltV
    rw [if_pos c4, e1]
    show ∃ i2 b2, _ ∧ _ ∧ (if G + i1 < 2799 then _ else none) = _
    rw [if_pos d4]
    by_cases q : wdp f t 6 (lS1 f t S).1
    · rw [if_pos q] at g3 ⊢
      rw [if_pos q]
      have hs1 : (lS1 f t S).1.1 < t := tkd_y (f := f) (by have := q.1; omega)
      obtain ⟨i2, hi2, a2, _, v, b2, ev, N2, Y2⟩ := HT (gow f t (lS1 f t S).1) (i1 + 1) g3 (E.nx ai1 hs1)
      refine ⟨i2, b2, by omega, a2, ?_⟩
      rw [if_pos (by rw [d1, dw.mp q]), show G + i1 + 1 = G + (i1 + 1) by omega, ev]
      show some (s, v && (!b2 && !sb), G + i2 + 1, b2) = _
      congr 2
      cases hv : tsV ws f t 0 8 (gow f t (lS1 f t S).1) with
      | none => rw [N2 hv]; simp
      | some x =>
        obtain ⟨y1, y2⟩ := Y2 x hv
        rw [y1, y2]
        cases x <;> simp
    · rw [if_neg q] at g3 ⊢
      rw [if_neg q]
      refine ⟨i1, false, hi1, ai1, ?_⟩
      rw [if_neg (fun z => by rw [d1] at z; exact q (dw.mpr ((nI_eq (by omega) (by decide)).mp z)))]
      show some (s, true && (!false && !sb), G + i1 + 1, false) = _
      simp
  have c13 : cdA A (G + n) (G + i) = nI (1 + k) := by rw [c1, ec]
  by_cases q2 : k = 2
  · have e2 : amg f t 10 S.1 = 2 := by rw [ek, q2]; rfl
    have eS : lS1 f t S = bgn f t (amg f t 10 S.1) S := if_pos e2
    obtain ⟨i2, b2, h1, h2, h3⟩ := fin (i + 1) 1 false (Nat.lt_succ_self i) (by rw [eS]; exact a1) (by rw [c13, q2, if_pos rfl]; rfl)
    refine ⟨i2, _, _, b2, k, h1, h2, hk, ek, c13, c2.mpr hst, h3, fun _ => ?_, fun z => by omega⟩
    simp
  · have e2 : ¬ amg f t 10 S.1 = 2 := fun z => q2 ((nI_eq (b := 2) (by omega) (by decide)).mp (ek.symm.trans z))
    have eS : lS1 f t S = (rsm f t 0 0 (bgn f t (amg f t 10 S.1) S)).2 := if_neg e2
    obtain ⟨i1, hi1, ai1, _, V1⟩ := tsum_e E HW (Nat.le_refl _) true (gow f t S.1) (i + 1) (g2 e2) a1
    obtain ⟨v, sb, ev, N1, Y1⟩ := V1 rfl
    obtain ⟨i2, b2, h1, h2, h3⟩ := fin i1 v sb (by omega) (by rw [eS]; exact ai1) (by rw [c13, if_neg (fun z => q2 (by have := (nI_eq (by omega) (by decide)).mp z; omega)), show G + i + 1 = G + (i + 1) by omega, ev])
    refine ⟨i2, _, _, b2, k, h1, h2, hk, ek, c13, c2.mpr hst, h3, fun z => absurd z q2, fun _ => ⟨?_, fun x hx => (Y1 x hx).2⟩⟩
    unfold lsV
    cases hv : smV ws f t 0 8 (gow f t S.1) with
    | none => rw [N1 hv]; rfl
    | some x => rw [(Y1 x hv).1]; rfl
theorem tlv_e (E : EvE f t n G A) (HW : HWs A nh 0 ws) (hd : Int32) : ∀ (m fu : Nat) (S : CSt) (i : Nat) (told : Int64) (hh it br : Bool), (rdL f t 0 m S).1 = true → AtE f t n i S.1 → m < fu → ∃ v h2 i2 g b2, tlv (tsumv A (G + n) nh true) (tsv (tsumv A (G + n) nh) A (G + n) 9 true) A (G + n) hd fu told hh it (G + i) br = some (v, h2, i2, g, b2) ∧ (∀ k0 w, hd = nI (1 + k0) → k0 < 2 → told = w.toInt64 → v = ((cls f t 0 m S).foldl (lst ws f t (nI k0)) w).toInt64) ∧ (hd = nI 3 → h2 = (hh || lhd f t (cls f t 0 m S)) ∧ i2 = (it || lit ws f t (cls f t 0 m S)))
  | 0, _, _, _, _, _, _, _, h, _, _ => absurd h Bool.false_ne_true
  | m + 1, fu, S, i, told, hh, it, br, h, a, hf => by
    obtain ⟨fu, rfl⟩ : ∃ k, fu = k + 1 := ⟨fu - 1, by omega⟩
    obtain ⟨g, r⟩ := rdL_good h
    obtain ⟨i2, s, ho, b2, k, hi2, a2, hk, ek, ec, hin, ecl, h2, h01⟩ := clv_e E HW g a
    have hG := E.2.1
    have hn4 := E.1
    have tk := tin (show k < 2 ^ 31 by omega)
    have st : tlv (tsumv A (G + n) nh true) (tsv (tsumv A (G + n) nh) A (G + n) 9 true) A (G + n) hd (fu + 1) told hh it (G + i) br = tlv (tsumv A (G + n) nh true) (tsv (tsumv A (G + n) nh) A (G + n) 9 true) A (G + n) hd fu (if nI (1 + k) = hd ∧ ho = true then s else told) (hh || decide (nI (1 + k) = hd)) (it || (decide (nI (1 + k) = hd) && ho)) (G + i2 + 1) b2 := by
      conv => lhs; unfold tlv
      rw [if_pos (show G + i < 4000 by omega), if_pos (show G + i < G + n by omega), ecl, ec]
    -- one clause more
    have one : ∀ k0 w, hd = nI (1 + k0) → k0 < 2 → told = w.toInt64 → (if nI (1 + k) = hd ∧ ho = true then s else told) = (lst ws f t (nI k0) w S).toInt64 := fun k0 w e1 e2 e3 => by
      unfold lst
      rw [ek]
      by_cases q : k = k0
      · subst q
        obtain ⟨z1, z2⟩ := h01 e2
        rw [z1]
        by_cases q3 : lso ws f t S = true
        · rw [if_pos (show nI k = nI k ∧ lso ws f t S = true from ⟨rfl, q3⟩), q3, Bool.true_and]
          cases hv : lsV ws f t S with
          | none => rw [if_neg (fun z => by exact absurd z.2 (by simp)), e3]; rfl
          | some x => rw [if_pos ⟨e1.symm, rfl⟩, z2 x hv]; rfl
        · rw [if_neg (show ¬ (nI (1 + k) = hd ∧ (lso ws f t S && (lsV ws f t S).isSome) = true) from fun z => q3 ((Bool.and_eq_true _ _).mp z.2).1), if_neg (show ¬ (nI k = nI k ∧ lso ws f t S = true) from fun z => q3 z.2), e3]
      · rw [if_neg (fun z => q (by have := (nI_eq (by omega) (by omega)).mp (z.1.trans e1); omega)), if_neg (fun z => q ((nI_eq (by omega) (by omega)).mp z.1)), e3]
    have two : hd = nI 3 → (decide (nI (1 + k) = hd) = decide (amg f t 10 S.1 = 2)) ∧ (decide (nI (1 + k) = hd) && ho) = (decide (amg f t 10 S.1 = 2) && lso ws f t S) := fun e1 => by
      rw [ek, e1]
      by_cases q : k = 2
      · rw [h2 q, q]; exact ⟨rfl, rfl⟩
      · have n1 : ¬ nI (1 + k) = nI 3 := fun z => q (by have := (nI_eq (by omega) (by decide)).mp z; omega)
        have n2 : ¬ nI k = (2 : Int32) := fun z => q ((nI_eq (b := 2) (by omega) (by decide)).mp z)
        simp [n1, n2]
    rcases r with ⟨q, e1, e2⟩ | ⟨q, q3, e1, e2⟩
    · have hi2n : i2 = n := by
        obtain ⟨_, x2, _, _⟩ := E.cd a2
        have := a2.1
        omega
      obtain ⟨fu, rfl⟩ : ∃ k, fu = k + 1 := ⟨fu - 1, by omega⟩
      rw [st]
      refine ⟨(if nI (1 + k) = hd ∧ ho = true then s else told), (hh || decide (nI (1 + k) = hd)), (it || (decide (nI (1 + k) = hd) && ho)), G + i2 + 1, b2, ?_, ?_, ?_⟩
      · unfold tlv
        rw [if_pos (show G + i2 + 1 < 4000 by omega), if_neg (show ¬ G + i2 + 1 < G + n by omega)]
      · intro k0 w z1 z2 z3
        rw [e2]
        exact one k0 w z1 z2 z3
      · intro z
        obtain ⟨y1, y2⟩ := two z
        rw [y2, y1, e2]
        unfold lhd lit
        simp
    · have hs2 : (rcl f t 0 S).2.1.1 < t := tkd_y (f := f) (by have := q3.1; omega)
      have a3 : AtE f t n (i2 + 1) (gow f t (rcl f t 0 S).2.1, (rcl f t 0 S).2.2).1 := E.nx a2 hs2
      rw [e1] at h
      obtain ⟨v, x2, y2, g2, b3, ev, r1, r2⟩ := tlv_e E HW hd m fu _ (i2 + 1) (if nI (1 + k) = hd ∧ ho = true then s else told) (hh || decide (nI (1 + k) = hd)) (it || (decide (nI (1 + k) = hd) && ho)) b2 h a3 (by omega)
      refine ⟨v, x2, y2, g2, b3, ?_, ?_, ?_⟩
      · rw [st]; exact ev
      · intro k0 w z1 z2 z3
        rw [e2]
        exact r1 k0 _ z1 z2 (one k0 w z1 z2 z3)
      · intro z
        obtain ⟨w1, w2⟩ := two z
        obtain ⟨u1, u2⟩ := r2 z
        rw [u1, u2, w2, w1, e2]
        unfold lhd lit
        simp [Bool.or_assoc]
/-- values that are not broken -/
theorem bnv_nb {o : Nat} {x y z : Int32} (h : bnv o x y = some z) : ¬ z = BRK := fun e => by
  obtain ⟨h1, h2⟩ := (bn_far (o := o) (x := x) (y := y)).2 z h
  rw [e] at h2
  rw [← h2] at h1
  exact h1 (by decide)
theorem tvL_nb {Pt : PSt → Bool × PSt} {Pv : PSt → OI} : ∀ (k : Nat) (v : OI) (s : PSt), (∀ x, v = some x → ¬ x = BRK) → ∀ x, tvL Pt Pv f t k v s = some x → ¬ x = BRK
  | 0, _, _, h, x, hx => h x hx
  | k + 1, v, s, h, x, hx => by
    unfold tvL at hx
    by_cases q : ¬ mlq f t s = 0
    · rw [if_pos q] at hx
      refine tvL_nb k _ _ (fun y hy => ?_) x hx
      unfold bn2 at hy
      cases v with
      | none => exact absurd hy (by simp)
      | some a => cases hp : Pv (gow f t s) with
        | none => rw [hp] at hy; exact absurd hy (by simp)
        | some b => rw [hp] at hy; exact bnv_nb hy
    · rw [if_neg q] at hx; exact h x hx
theorem svL_nb {Pt : PSt → Bool × PSt} {Pv : PSt → OI} : ∀ (k : Nat) (v : OI) (s : PSt), (∀ x, v = some x → ¬ x = BRK) → ∀ x, svL Pt Pv f t k v s = some x → ¬ x = BRK
  | 0, _, _, h, x, hx => h x hx
  | k + 1, v, s, h, x, hx => by
    unfold svL at hx
    by_cases q : ¬ plq f t s = 0
    · rw [if_pos q] at hx
      refine svL_nb k _ _ (fun y hy => ?_) x hx
      unfold bn2 at hy
      cases v with
      | none => exact absurd hy (by simp)
      | some a => cases hp : Pv (gow f t s) with
        | none => rw [hp] at hy; exact absurd hy (by simp)
        | some b => rw [hp] at hy; exact bnv_nb hy
    · rw [if_neg q] at hx; exact h x hx
theorem prV_nb {o : Int32} (hw : ∀ i, ¬ ws i = BRK) : ∀ (d : Nat) (s : PSt) (x : Int32), prV ws f t o d s = some x → ¬ x = BRK := by
  have hl : ∀ s : PSt, ¬ leaV ws f t o s = BRK := fun s => by
    unfold leaV
    by_cases q : tkd f t s.1 = 2
    · rw [if_pos q]
      intro z
      have := congrArg Int32.toInt z
      rw [tin (show nmv f t s < 2 ^ 31 by have := nmv_le (f := f) (t := t) (s := s); omega)] at this
      have e : (BRK : Int32).toInt = -2147483648 := by decide
      omega
    · rw [if_neg q]
      by_cases q2 : o = 0
      · rw [if_pos q2]; exact hw _
      · rw [if_neg q2]
        by_cases q3 : (amg f t 1 s).toInt.toNat < 3
        · rw [if_pos q3]; exact hw _
        · rw [if_neg q3]; exact hw _
  intro d
  induction d with
  | zero => intro s x hx; rw [← Option.some.inj hx]; exact hl s
  | succ d ih =>
    intro s x hx
    unfold prV at hx
    by_cases q : sgp f t 91 s
    · rw [if_pos q] at hx
      exact svL_nb _ _ _ (fun y hy => tvL_nb _ _ _ (fun z hz => ih _ _ hz) y hy) x hx
    · rw [if_neg q] at hx; rw [← Option.some.inj hx]; exact hl s
theorem smV_nb {o : Int32} (hw : ∀ i, ¬ ws i = BRK) {d : Nat} {s : PSt} {x : Int32} (h : smV ws f t o d s = some x) : ¬ x = BRK := svL_nb _ _ _ (fun y hy => tvL_nb _ _ _ (fun z hz => prV_nb hw d _ _ hz) y hy) x h
/-- what the class's rows hold of a law that was read, F behind it -/
def LawR (n c : Nat) (cf kf sf tf : Nat → Int32) (f : Nat → Int32) (t : Nat) (L : List CSt) : Prop := c = L.length ∧ n ≤ 512 ∧ ∀ j S, L[j]? = some S → kf j = amg f t 10 S.1 ∧ ¬ amg f t 10 S.1 = -1 ∧ (¬ amg f t 10 S.1 = 2 → ∃ k, k < 512 ∧ sf (j * 3) = nI k ∧ ∀ ws, pm n 8 cf ws k [] = some ((lsV ws f t S).getD BRK)) ∧ ((¬ wdp f t 6 (lS1 f t S).1 ∧ tf j = -1) ∨ (wdp f t 6 (lS1 f t S).1 ∧ ∃ k, k < 512 ∧ tf j = nI k ∧ ∀ ws, pm n 8 cf ws k [] = some (((ltV ws f t S).map bI).getD BRK)))
noncomputable def RpM (n nW : Nat) (cf ws : Nat → Int32) (x : Int32) : Int32 := (pm n nW cf ws x.toInt.toNat []).getD BRK
theorem RpM_v {n nW : Nat} {cf ws : Nat → Int32} {x r : Int32} {k : Nat} (hk : k < 512) (e : x = nI k) (h : pm n nW cf ws k [] = some r) : RpM n nW cf ws x = r := by
  unfold RpM
  rw [e, tin (show k < 2 ^ 31 by omega), show (k : Int).toNat = k by omega, h]
  rfl
theorem LawR.sem {n c nC nK : Nat} {al : Int32} {cf kf sf tf mf : Nat → Int32} {L : List CSt} (H : LawR n c cf kf sf tf f t L) : TxSemL n c nC nK al cf kf sf tf mf (RpM n 8 cf) := by
  intro h a wf ws HX hl h100 hw j hj
  obtain ⟨h1, h2, h3⟩ := H
  obtain ⟨S, hS⟩ : ∃ S, L[j]? = some S := ⟨L[j]'(by omega), List.getElem?_eq_getElem (by omega)⟩
  obtain ⟨a1, a2, a3, a4⟩ := h3 j S hS
  constructor
  · intro q
    rcases a4 with ⟨_, z⟩ | ⟨_, k, hk, e, hp⟩
    · exact absurd z q
    · rw [RpM_v hk e (hp ws), e]
      exact AskV_pm HX hl h100 (by decide) (by decide) hw (by omega) (hp ws)
  · intro q
    rw [a1] at q
    obtain ⟨k, hk, e, hp⟩ := a3 q
    rw [RpM_v hk e (hp ws), e]
    exact AskV_pm HX hl h100 (by decide) (by decide) hw (by omega) (hp ws)
theorem LawR.so {n c : Nat} {cf kf sf tf : Nat → Int32} {L : List CSt} (H : LawR n c cf kf sf tf f t L) {j : Nat} {S : CSt} (hS : L[j]? = some S) (ws : Nat → Int32) : (tf j = -1 ∨ RpM n 8 cf ws (tf j) = 1) ↔ lso ws f t S = true := by
  obtain ⟨h1, h2, h3⟩ := H
  obtain ⟨a1, a2, a3, a4⟩ := h3 j S hS
  unfold lso
  rw [decide_eq_true_iff]
  rcases a4 with ⟨q, z⟩ | ⟨q, k, hk, e, hp⟩
  · unfold ltV
    rw [if_neg q]
    exact ⟨fun _ => rfl, fun _ => Or.inl z⟩
  · rw [RpM_v hk e (hp ws)]
    have n1 : ¬ tf j = -1 := fun z => by
      have := congrArg Int32.toInt (e.symm.trans z)
      rw [tim1, tin (show k < 2 ^ 31 by omega)] at this
      omega
    cases ltV ws f t S with
    | none => exact ⟨fun z => z.elim (fun y => absurd y n1) (fun y => absurd y (by decide)), fun z => absurd z (by simp)⟩
    | some x => cases x with
      | true => exact ⟨fun _ => rfl, fun _ => Or.inr rfl⟩
      | false => exact ⟨fun z => z.elim (fun y => absurd y n1) (fun y => absurd y (by decide)), fun z => absurd z (by simp)⟩
theorem LawR.lat {n c : Nat} {cf kf sf tf : Nat → Int32} {L : List CSt} (H : LawR n c cf kf sf tf f t L) (hw : ∀ i, ¬ ws i = BRK) {kd : Int32} (hk : ¬ kd = 2) (w : Int32) : ∀ j, j ≤ L.length → latv kf tf sf (RpM n 8 cf ws) kd w j = (L.take j).foldl (lst ws f t kd) w
  | 0, _ => by rw [List.take_zero]; rfl
  | j + 1, hj => by
    have ih := LawR.lat H hw hk w j (by omega)
    obtain ⟨S, hS⟩ : ∃ S, L[j]? = some S := ⟨L[j]'(by omega), List.getElem?_eq_getElem (by omega)⟩
    have so := H.so hS ws
    obtain ⟨a1, a2, a3, a4⟩ := H.2.2 j S hS
    rw [List.take_add_one, List.foldl_append, ← ih, hS]
    show _ = lst ws f t kd (latv kf tf sf (RpM n 8 cf ws) kd w j) S
    show (if kf j = kd ∧ (tf j = -1 ∨ RpM n 8 cf ws (tf j) = 1) ∧ ¬ RpM n 8 cf ws (sf (j * 3)) = BRK then RpM n 8 cf ws (sf (j * 3)) else latv kf tf sf (RpM n 8 cf ws) kd w j) = _
    generalize latv kf tf sf (RpM n 8 cf ws) kd w j = u
    unfold lst
    by_cases q : amg f t 10 S.1 = kd
    · obtain ⟨k, hk2, e, hp⟩ := a3 (fun z => hk (q.symm.trans z))
      rw [RpM_v hk2 e (hp ws)]
      by_cases q2 : lso ws f t S = true
      · rw [if_pos (show amg f t 10 S.1 = kd ∧ lso ws f t S = true from ⟨q, q2⟩)]
        cases hv : lsV ws f t S with
        | none => rw [if_neg (fun z => z.2.2 rfl)]; rfl
        | some x => rw [if_pos ⟨a1.trans q, so.mpr q2, smV_nb hw hv⟩]; rfl
      · rw [if_neg (fun z => q2 (so.mp z.2.1)), if_neg (fun z => q2 z.2)]
    · rw [if_neg (fun z => q (a1.symm.trans z.1)), if_neg (fun z => q z.1)]
theorem LawR.hev {n c : Nat} {cf kf sf tf : Nat → Int32} {L : List CSt} (H : LawR n c cf kf sf tf f t L) (ws : Nat → Int32) (ace : Bool) : ∀ (k j : Nat) (no : Bool), j + k = L.length → hev kf tf (RpM n 8 cf ws) ace k j no = (lit ws f t (L.drop j) || (no && ace && !lhd f t (L.drop j)))
  | 0, j, no, hj => by
    rw [List.drop_of_length_le (by omega)]
    show (no && ace) = _
    unfold lit lhd
    simp
  | k + 1, j, no, hj => by
    obtain ⟨S, hS⟩ : ∃ S, L[j]? = some S := ⟨L[j]'(by omega), List.getElem?_eq_getElem (by omega)⟩
    have so := H.so hS ws
    obtain ⟨a1, a2, a3, a4⟩ := H.2.2 j S hS
    have ed : L.drop j = S :: L.drop (j + 1) := by
      have hl : j < L.length := by omega
      rw [List.drop_eq_getElem_cons hl]
      congr 1
      rw [List.getElem?_eq_getElem hl] at hS
      exact Option.some.inj hS
    have i1 := LawR.hev H ws ace k (j + 1) false (by omega)
    have i2 := LawR.hev H ws ace k (j + 1) no (by omega)
    rw [ed]
    show (if kf j = 2 then (if tf j = -1 ∨ RpM n 8 cf ws (tf j) = 1 then true else Jvm.Pilot.CTopSaysLaw_law_r2558_8a5759.hev kf tf (RpM n 8 cf ws) ace k (j + 1) false) else Jvm.Pilot.CTopSaysLaw_law_r2558_8a5759.hev kf tf (RpM n 8 cf ws) ace k (j + 1) no) = _
    rw [i1, i2, a1]
    unfold lit lhd
    by_cases q : amg f t 10 S.1 = 2
    · rw [if_pos q]
      by_cases q2 : lso ws f t S = true
      · rw [if_pos (so.mpr q2)]; simp [q, q2]
      · rw [if_neg (fun z => q2 (so.mp z))]; simp [q, q2]
    · rw [if_neg q]; simp [q]
end LawT
