/-! PURE: the reference's sums tell what the class's mean -/
def EvE (f : Nat → Int32) (t n G : Nat) (A : Nat → Nat → Int32) : Prop := n ≤ 400 ∧ G + n < 2799 ∧ plc f t n = t ∧ (∀ i, i < n → plc f t i < t) ∧ (∀ i, i < n → A 1 (125 + (G + i)) = nI (cdN f t (plc f t i)) ∧ A 1 (2925 + (G + i)) = nI (vlN f t (plc f t i))) ∧ t ≤ 400 ∧ (∀ i, i < t → -128 ≤ (f i).toInt ∧ (f i).toInt < 128)
def AtE (f : Nat → Int32) (t n i : Nat) (s : PSt) : Prop := i ≤ n ∧ plc f t i = s.1
/-- X evaluates what P reads; its meaning is V -/
def EvP (f : Nat → Int32) (t n G : Nat) (live : Bool) (X : Nat → Bool → EvR) (P : PSt → Bool × PSt) (V : PSt → OI) : Prop := ∀ s i, (P s).1 = true → AtE f t n i s → ∃ i2, i < i2 ∧ AtE f t n i2 (P s).2 ∧ (∀ br, live = false ∨ br = true → ∃ v, X (G + i) br = some (v, G + i2, br)) ∧ (live = true → ∃ v b2, X (G + i) false = some (v, G + i2, b2) ∧ (V s = none → b2 = true) ∧ ∀ x, V s = some x → b2 = false ∧ v = x.toInt64)
/-- the words as both sides have them -/
def HWs (A : Nat → Nat → Int32) (nh : Nat) (o : Int32) (ws : Nat → Int32) : Prop := (o = 0 → ∀ k, k < 8 → A 11 (pmw 2 k - 8) = ws k) ∧ (¬ o = 0 → (∀ k, k < 3 → A 12 k = ws k) ∧ ∀ k q, 3 ≤ k → k < 6 → q < 6 → hvl A nh (nI (pmw 1 k)) q = ws (3 + (k - 3) * 6 + q))
theorem tcn {c : Nat} (h : c < 2 ^ 31) : (nI c).toNatClampNeg = c := by
  show (nI c).toInt.toNat = c
  rw [tin h]; omega
theorem near64 {v : Int64} (h : ¬ farv v = true) : v.toInt32.toInt64 = v := by
  unfold farv at h
  simp only [Bool.or_eq_true, decide_eq_true_eq, not_or] at h
  have h1 := mt Int64.lt_iff_toInt_lt.mpr h.1
  have h2 := mt Int64.lt_iff_toInt_lt.mpr h.2
  have e1 : (-1000000000 : Int64).toInt = -1000000000 := by decide
  have e2 : (1000000000 : Int64).toInt = 1000000000 := by decide
  apply Int64.toInt_inj.mp
  rw [Int32.toInt_toInt64, Int64.toInt_toInt32]
  rw [Int.bmod_eq_of_le] <;> omega
theorem bn_far {o : Nat} {x y : Int32} : (bnv o x y = none ↔ farv (joinv o x.toInt64 y.toInt64) = true) ∧ ∀ z, bnv o x y = some z → ¬ farv (joinv o x.toInt64 y.toInt64) = true ∧ z.toInt64 = joinv o x.toInt64 y.toInt64 := by
  unfold bnv
  by_cases q : farv (joinv o x.toInt64 y.toInt64) = true
  · rw [if_pos q]; exact ⟨⟨fun _ => q, fun _ => rfl⟩, fun z hz => absurd hz (by simp)⟩
  · rw [if_neg q]
    refine ⟨⟨fun z => absurd z (by simp), fun z => absurd z q⟩, fun z hz => ⟨q, ?_⟩⟩
    rw [← Option.some.inj hz]
    exact near64 q
theorem bdb_far (v : Int64) : bdb v true false = farv v := by
  unfold bdb farv
  rw [Bool.false_or, Bool.true_and, Bool.or_comm]
theorem op_fin {o : Nat} {x y : Int32} {v : Int64} {b1 : Bool} (h0 : b1 = false → v = joinv o x.toInt64 y.toInt64) (h1 : b1 = true → farv (joinv o x.toInt64 y.toInt64) = true) : (bnv o x y = none → bdb v true b1 = true) ∧ ∀ z, bnv o x y = some z → bdb v true b1 = false ∧ bdv v true b1 = z.toInt64 := by
  obtain ⟨n1, s1⟩ := bn_far (o := o) (x := x) (y := y)
  cases b1 with
  | true =>
    refine ⟨fun _ => by unfold bdb; rfl, fun z hz => absurd (h1 rfl) (s1 z hz).1⟩
  | false =>
    have h0 := h0 rfl
    subst h0
    rw [bdb_far]
    refine ⟨fun z => n1.mp z, fun z hz => ?_⟩
    obtain ⟨a1, a2⟩ := s1 z hz
    have a1 : farv (joinv o x.toInt64 y.toInt64) = false := by cases hx : farv (joinv o x.toInt64 y.toInt64) <;> simp_all
    refine ⟨a1, ?_⟩
    unfold bdv
    rw [bdb_far, if_neg (by rw [a1]; decide)]
    exact a2.symm
theorem far0 : farv (-2147483648) = true := by decide
theorem op_ml {o c : Nat} (h : o = 5 ∧ c = 142 ∨ o = 6 ∧ c = 147 ∨ o = 7 ∧ c = 137) (x y : Int32) : (bnv o x y = none → bdb (tx (nI c) x.toInt64 (tw (nI c) y.toInt64)) true (tb (nI c) y.toInt64 true false) = true) ∧ ∀ z, bnv o x y = some z → bdb (tx (nI c) x.toInt64 (tw (nI c) y.toInt64)) true (tb (nI c) y.toInt64 true false) = false ∧ bdv (tx (nI c) x.toInt64 (tw (nI c) y.toInt64)) true (tb (nI c) y.toInt64 true false) = z.toInt64 := by
  rcases h with ⟨rfl, rfl⟩ | ⟨rfl, rfl⟩ | ⟨rfl, rfl⟩
  · refine op_fin (fun _ => ?_) (fun z => ?_)
    · unfold tx tw tz joinv
      simp
    · unfold tb tz at z
      simp at z
  · by_cases q : y.toInt64 = 0
    · have e : tb (nI 147) y.toInt64 true false = true := by
        unfold tb tz
        rw [q]; decide
      rw [e]
      refine op_fin (fun z => absurd z (by decide)) (fun _ => ?_)
      unfold joinv
      rw [if_neg (by decide), if_neg (by decide), if_neg (by decide), if_pos rfl, if_pos q]
      exact far0
    · have ez : tz (nI 147) y.toInt64 = false := by unfold tz; simp [q]
      have e : tb (nI 147) y.toInt64 true false = false := by unfold tb; rw [ez]; rfl
      rw [e]
      refine op_fin (fun _ => ?_) (fun z => absurd z (by decide))
      unfold tx tw joinv
      rw [ez, if_neg (by decide), if_pos rfl, if_neg (by decide), if_neg (by decide), if_neg (by decide), if_neg (by decide), if_pos rfl, if_neg q]
  · by_cases q : y.toInt64 = 0
    · have e : tb (nI 137) y.toInt64 true false = true := by
        unfold tb tz
        rw [q]; decide
      rw [e]
      refine op_fin (fun z => absurd z (by decide)) (fun _ => ?_)
      unfold joinv
      rw [if_neg (by decide), if_neg (by decide), if_neg (by decide), if_neg (by decide), if_pos rfl, if_pos q]
      exact far0
    · have ez : tz (nI 137) y.toInt64 = false := by unfold tz; simp [q]
      have e : tb (nI 137) y.toInt64 true false = false := by unfold tb; rw [ez]; rfl
      rw [e]
      refine op_fin (fun _ => ?_) (fun z => absurd z (by decide))
      unfold tx tw joinv
      rw [ez, if_neg (by decide), if_neg (by decide), if_neg (by decide), if_neg (by decide), if_neg (by decide), if_neg (by decide), if_neg (by decide), if_pos rfl, if_neg q]
theorem op_pl {o c : Nat} (h : o = 3 ∧ c = 143 ∨ o = 4 ∧ c = 145) (x y : Int32) : (bnv o x y = none → bdb (sx (nI c) x.toInt64 y.toInt64) true false = true) ∧ ∀ z, bnv o x y = some z → bdb (sx (nI c) x.toInt64 y.toInt64) true false = false ∧ bdv (sx (nI c) x.toInt64 y.toInt64) true false = z.toInt64 := by
  rcases h with ⟨rfl, rfl⟩ | ⟨rfl, rfl⟩
  · exact op_fin (fun _ => rfl) (fun z => absurd z (by decide))
  · exact op_fin (fun _ => rfl) (fun z => absurd z (by decide))
section EvalQ
variable {f : Nat → Int32} {t n G nh : Nat} {A : Nat → Nat → Int32} {o : Int32} {ws : Nat → Int32} {live : Bool}
theorem EvE.cd (E : EvE f t n G A) {i : Nat} {s : PSt} (a : AtE f t n i s) : cdA A (G + n) (G + i) = nI (cdN f t s.1) ∧ (i < n ↔ s.1 < t) ∧ s.1 ≤ t ∧ G + i < 2799 := by
  obtain ⟨h1, h2, h3, h4, h5, h6, _⟩ := E
  obtain ⟨a1, a2⟩ := a
  unfold cdA
  by_cases q : i < n
  · have := h4 i q
    rw [if_pos (by omega), (h5 i q).1, a2]
    rw [a2] at this
    exact ⟨rfl, by omega, by omega, by omega⟩
  · have e : i = n := by omega
    subst e
    rw [h3] at a2
    rw [if_neg (by omega), ← a2, cdN_t (Nat.le_refl _)]
    exact ⟨rfl, by omega, by omega, by omega⟩
theorem EvE.nx (E : EvE f t n G A) {i : Nat} {s : PSt} (a : AtE f t n i s) (h : s.1 < t) : AtE f t n (i + 1) (gow f t s) := by
  have := ((E.cd a).2.1.mpr h)
  refine ⟨by omega, ?_⟩
  show skw f t (tnx f t (plc f t i)) = skw f t (tnx f t s.1)
  rw [a.2]
theorem EvE.vl (E : EvE f t n G A) {i : Nat} {s : PSt} (a : AtE f t n i s) (h : s.1 < t) : A 1 (2925 + (G + i)) = nI (vlN f t s.1) := by
  have := (E.2.2.2.2.1 i ((E.cd a).2.1.mpr h)).2
  rw [a.2] at this
  exact this
theorem EvE.up (E : EvE f t n G A) {i j : Nat} {s z : PSt} (a : AtE f t n i s) (c : AtE f t n j z) (h : i ≤ j) : s.1 + (j - i) ≤ z.1 := by
  have K : ∀ m, i + m ≤ n → plc f t i + m ≤ plc f t (i + m) := fun m => by
    induction m with
    | zero => exact fun _ => Nat.le_refl _
    | succ m ih =>
      intro hm
      have ih := ih (by omega)
      have hp := E.2.2.2.1 (i + m) (by omega)
      have hy := (gow_y (f := f) (t := t) (s := (plc f t (i + m), 0, f, 0, 0)) (Nat.le_of_lt hp)).2.2 hp
      have hy : plc f t (i + m) < plc f t (i + m + 1) := hy
      show plc f t i + (m + 1) ≤ plc f t (i + m + 1)
      omega
  have := K (j - i) (by have := c.1; omega)
  rw [show i + (j - i) = j by omega, a.2, c.2] at this
  exact this
theorem pv_d {br : Bool} {x : Int32} : pv0 true false x = x.toInt64 := if_pos ⟨rfl, Bool.false_ne_true⟩
theorem leaf_e (E : EvE f t n G A) (HW : HWs A nh o ws) : EvP f t n G live (leafv A (G + n) nh (decide (¬ o = 0)) live) (lef f t o) (fun s => some (leaV ws f t o s)) := by
  intro s i hg a
  obtain ⟨c1, c2, c3, c4⟩ := E.cd a
  have hb := cdN_b (f := f) (t := t) (y := s.1)
  unfold lef at hg ⊢
  by_cases q : s.2.2.2.2 < 50
  · rw [if_pos q] at hg ⊢
    have eL : leaV ws f t o s = leaV ws f t o (pap s) := rfl
    have a : AtE f t n i (pap s) := a
    have es : s.1 = (pap s).1 := rfl
    show ∃ i2, i < i2 ∧ AtE f t n i2 (lep f t o (pap s)).2 ∧ (∀ br, live = false ∨ br = true → ∃ v, leafv A (G + n) nh (decide (¬ o = 0)) live (G + i) br = some (v, G + i2, br)) ∧ (live = true → ∃ v b2, leafv A (G + n) nh (decide (¬ o = 0)) live (G + i) false = some (v, G + i2, b2) ∧ (some (leaV ws f t o (pap s)) = none → b2 = true) ∧ ∀ x, some (leaV ws f t o (pap s)) = some x → b2 = false ∧ v = x.toInt64)
    rw [es] at c1 c2 c3 hb
    clear eL es q
    generalize pap s = z at *
    have fin : ∀ (z2 : PSt) (i2 : Nat) (x : Int32), i < i2 → AtE f t n i2 z2 → (∀ br, leafv A (G + n) nh (decide (¬ o = 0)) live (G + i) br = some (pv0 live br x, G + i2, br)) → leaV ws f t o z = x → ∃ i2, i < i2 ∧ AtE f t n i2 z2 ∧ (∀ br, live = false ∨ br = true → ∃ v, leafv A (G + n) nh (decide (¬ o = 0)) live (G + i) br = some (v, G + i2, br)) ∧ (live = true → ∃ v b2, leafv A (G + n) nh (decide (¬ o = 0)) live (G + i) false = some (v, G + i2, b2) ∧ (some (leaV ws f t o z) = none → b2 = true) ∧ ∀ x, some (leaV ws f t o z) = some x → b2 = false ∧ v = x.toInt64) := fun z2 i2 x h1 h2 h3 h4 => by
      refine ⟨i2, h1, h2, fun br _ => ⟨_, h3 br⟩, fun hl => ⟨_, false, h3 false, fun y => absurd y (by simp), fun y hy => ⟨rfl, ?_⟩⟩⟩
      rw [hl, ← Option.some.inj hy, h4]
      exact if_pos ⟨rfl, Bool.false_ne_true⟩
    unfold lep at hg ⊢
    by_cases q2 : tkd f t z.1 = 2
    · rw [if_pos q2] at hg ⊢
      have hst : z.1 < t := tkd_y (f := f) (by omega)
      have nm := nmv_r (s := z) q2
      unfold nuq at hg ⊢
      by_cases q3 : nmv f t z ≤ 1000
      · rw [if_pos q3] at hg ⊢
        refine fin _ (i + 1) (nI (nmv f t z)) (Nat.lt_succ_self i) (E.nx a hst) (fun br => ?_) (by unfold leaV; rw [if_pos q2])
        unfold leafv
        rw [c1, if_pos (by rw [cdN_2.mp q2]), E.vl a hst, show vlN f t z.1 = nmv f t z by omega]
        rfl
      · rw [if_neg q3] at hg; exact absurd hg Bool.false_ne_true
    · rw [if_neg q2] at hg ⊢
      have n50 : ¬ nI (cdN f t z.1) = nI 50 := fun y => q2 (cdN_2.mpr ((nI_eq (by omega) (by decide)).mp y))
      by_cases q4 : o = 0
      · rw [if_pos q4] at hg ⊢
        unfold lwq at hg ⊢
        by_cases q3 : amg f t 2 z = -1
        · rw [if_pos q3] at hg; exact absurd hg Bool.false_ne_true
        · rw [if_neg q3] at hg ⊢
          obtain ⟨k, hk, ek, ec⟩ := amg_ex c3 (w := 2) (by decide) q3
          have hk : k < 8 := hk
          have c8 := (pmw2 _ hb).mp ⟨k, hk, ec⟩
          have hst : z.1 < t := by
            refine Nat.lt_of_not_le (fun y => ?_)
            have := cdN_t (f := f) y
            omega
          refine fin _ (i + 1) (ws k) (Nat.lt_succ_self i) (E.nx a hst) (fun br => ?_) ?_
          · unfold leafv
            rw [c1, if_neg n50, if_pos (by simp [q4]), tcn (by omega), if_pos ⟨rfl, c8⟩, ec, HW.1 q4 k hk]
            rfl
          · unfold leaV
            rw [if_neg q2, if_pos q4, ek, tin (show k < 2 ^ 31 by omega)]
            rfl
      · rw [if_neg q4] at hg ⊢
        unfold owq at hg ⊢
        by_cases q3 : amg f t 1 z = -1
        · rw [if_pos q3] at hg; exact absurd hg Bool.false_ne_true
        · rw [if_neg q3] at hg ⊢
          obtain ⟨k, hk, ek, ec⟩ := amg_ex c3 (w := 1) (by decide) q3
          have hk : k < 6 := hk
          have c14 := (pmw1 _ hb).mp ⟨k, hk, ec⟩
          have hh := pmw1h k hk
          have ekn : (amg f t 1 z).toInt.toNat = k := by rw [ek, tin (show k < 2 ^ 31 by omega)]; rfl
          have hst : z.1 < t := by
            refine Nat.lt_of_not_le (fun y => ?_)
            have := cdN_t (f := f) y
            omega
          have nO : ¬ decide (¬ o = 0) = false := by simp [q4]
          have hd : (nI (cdN f t z.1) = nI 14 ∨ nI (cdN f t z.1) = nI 15 ∨ nI (cdN f t z.1) = nI 19) ↔ 3 ≤ k := by
            rw [← hh, ← ec, nI_eq (by omega) (by decide), nI_eq (by omega) (by decide), nI_eq (by omega) (by decide)]
          rw [ekn] at hg ⊢
          by_cases q5 : k < 3
          · rw [if_pos q5] at hg ⊢
            have e16 : pmw 1 k = 16 + k := by
              have : ∀ k, k < 3 → pmw 1 k = 16 + k := by decide
              exact this k q5
            refine fin _ (i + 1) (ws k) (Nat.lt_succ_self i) (E.nx a hst) (fun br => ?_) ?_
            · unfold leafv
              rw [c1, if_neg n50, if_neg nO, if_neg (fun y => by have := hd.mp y; omega), tcn (by omega), if_pos ⟨rfl, by omega⟩, ec, e16, show 16 + k - 16 = k by omega, (HW.2 q4).1 k q5]
              rfl
            · unfold leaV
              rw [if_neg q2, if_neg q4, ekn, if_pos q5]
          · rw [if_neg q5] at hg ⊢
            by_cases q6 : tkd f t (gow f t z).1 = 2 ∧ nmv f t (gow f t z) < 6
            · rw [if_pos q6] at hg ⊢
              have a1 := E.nx a hst
              have hs1 : (gow f t z).1 < t := tkd_y (f := f) (by have := q6.1; omega)
              have nm := nmv_r (s := gow f t z) q6.1
              have v1 := E.vl a1 hs1
              have hv : vlN f t (gow f t z).1 = nmv f t (gow f t z) := by have := q6.2; omega
              rw [hv] at v1
              have h6 := q6.2
              refine fin _ (i + 1 + 1) (ws (3 + (k - 3) * 6 + nmv f t (gow f t z))) (by omega) (E.nx a1 hs1) (fun br => ?_) ?_
              · unfold leafv
                rw [show G + i + 1 = G + (i + 1) by omega]
                rw [c1, if_neg n50, if_neg nO, if_pos (hd.mpr (by omega)), v1, tcn (by omega), if_pos ⟨rfl, h6⟩, ec, (HW.2 q4).2 k _ (by omega) hk h6]
                rfl
              · unfold leaV
                rw [if_neg q2, if_neg q4, ekn, if_neg q5]
            · rw [if_neg q6] at hg; exact absurd hg Bool.false_ne_true
  · rw [if_neg q] at hg; exact absurd hg Bool.false_ne_true
theorem tvL_none {Pt : PSt → Bool × PSt} {Pv : PSt → OI} : ∀ (k : Nat) (s : PSt), tvL Pt Pv f t k none s = none
  | 0, _ => rfl
  | k + 1, s => by
    unfold tvL
    by_cases q : ¬ mlq f t s = 0
    · rw [if_pos q]; exact tvL_none k _
    · rw [if_neg q]
theorem svL_none {Pt : PSt → Bool × PSt} {Pv : PSt → OI} : ∀ (k : Nat) (s : PSt), svL Pt Pv f t k none s = none
  | 0, _ => rfl
  | k + 1, s => by
    unfold svL
    by_cases q : ¬ plq f t s = 0
    · rw [if_pos q]; exact svL_none k _
    · rw [if_neg q]

theorem mlq_c (hb : ∀ i, i < t → -128 ≤ (f i).toInt ∧ (f i).toInt < 128) {s : PSt} : (¬ mlq f t s = 0 ↔ cdN f t s.1 = 142 ∨ cdN f t s.1 = 147 ∨ cdN f t s.1 = 137) ∧ (¬ mlq f t s = 0 → mlq f t s = 5 ∧ cdN f t s.1 = 142 ∨ mlq f t s = 6 ∧ cdN f t s.1 = 147 ∨ mlq f t s = 7 ∧ cdN f t s.1 = 137) := by

  have d0 := sgp_c (s := s) hb (c := 42) (k := 42) (by decide) (by decide)
  have d1 := sgp_c (s := s) hb (c := 47) (k := 47) (by decide) (by decide)
  have d2 := sgp_c (s := s) hb (c := 37) (k := 37) (by decide) (by decide)
  unfold mlq
  by_cases q0 : sgp f t 42 s
  · rw [if_pos q0]
    have := d0.mp q0
    exact ⟨⟨fun _ => by omega, fun _ => by decide⟩, fun _ => by omega⟩
  · rw [if_neg q0]
    have n0 : ¬ cdN f t s.1 = 142 := fun z => q0 (d0.mpr z)
    by_cases q1 : sgp f t 47 s
    · rw [if_pos q1]
      have := d1.mp q1
      exact ⟨⟨fun _ => by omega, fun _ => by decide⟩, fun _ => by omega⟩
    · rw [if_neg q1]
      have n1 : ¬ cdN f t s.1 = 147 := fun z => q1 (d1.mpr z)
      by_cases q2 : sgp f t 37 s
      · rw [if_pos q2]
        have := d2.mp q2
        exact ⟨⟨fun _ => by omega, fun _ => by decide⟩, fun _ => by omega⟩
      · rw [if_neg q2]
        have n2 : ¬ cdN f t s.1 = 137 := fun z => q2 (d2.mpr z)
        exact ⟨⟨fun z => absurd rfl z, fun z => by omega⟩, fun z => absurd rfl z⟩
theorem plq_c (hb : ∀ i, i < t → -128 ≤ (f i).toInt ∧ (f i).toInt < 128) {s : PSt} : (¬ plq f t s = 0 ↔ cdN f t s.1 = 143 ∨ cdN f t s.1 = 145) ∧ (¬ plq f t s = 0 → plq f t s = 3 ∧ cdN f t s.1 = 143 ∨ plq f t s = 4 ∧ cdN f t s.1 = 145) := by

  have d0 := sgp_c (s := s) hb (c := 43) (k := 43) (by decide) (by decide)
  have d1 := sgp_c (s := s) hb (c := 45) (k := 45) (by decide) (by decide)
  unfold plq
  by_cases q0 : sgp f t 43 s
  · rw [if_pos q0]
    have := d0.mp q0
    exact ⟨⟨fun _ => by omega, fun _ => by decide⟩, fun _ => by omega⟩
  · rw [if_neg q0]
    have n0 : ¬ cdN f t s.1 = 143 := fun z => q0 (d0.mpr z)
    by_cases q1 : sgp f t 45 s
    · rw [if_pos q1]
      have := d1.mp q1
      exact ⟨⟨fun _ => by omega, fun _ => by decide⟩, fun _ => by omega⟩
    · rw [if_neg q1]
      have n1 : ¬ cdN f t s.1 = 145 := fun z => q1 (d1.mpr z)
      exact ⟨⟨fun z => absurd rfl z, fun z => by omega⟩, fun z => absurd rfl z⟩
theorem tlp_e (E : EvE f t n G A) {X : Nat → Bool → EvR} {Pt : PSt → Bool × PSt} {Pv : PSt → OI} (HP : EvP f t n G live (X) Pt Pv) : ∀ (m fu : Nat) (s : PSt) (i : Nat), (tmL Pt f t m true s).1 = true → AtE f t n i s → t ≤ s.1 + m → n - i < fu → ∃ i2, i ≤ i2 ∧ AtE f t n i2 (tmL Pt f t m true s).2 ∧ (∀ br v, live = false ∨ br = true → ∃ v2, tlp X A (G + n) live fu v (G + i) br = some (v2, G + i2, br)) ∧ (live = true → ∀ x : Int32, ∃ v2 b2, tlp X A (G + n) live fu x.toInt64 (G + i) false = some (v2, G + i2, b2) ∧ (tvL Pt Pv f t m (some x) s = none → b2 = true) ∧ ∀ z, tvL Pt Pv f t m (some x) s = some z → b2 = false ∧ v2 = z.toInt64) := by
  intro m
  induction m with
  | zero =>
    intro fu s i hg a hm hf
    obtain ⟨fu, rfl⟩ : ∃ k, fu = k + 1 := ⟨fu - 1, by omega⟩
    obtain ⟨c1, c2, c3, c4⟩ := E.cd a
    have c0 := cdN_t (f := f) (show t ≤ s.1 by omega)
    have no : ¬ (cdA A (G + n) (G + i) = nI 142 ∨ cdA A (G + n) (G + i) = nI 147 ∨ cdA A (G + n) (G + i) = nI 137) := fun z => by
      rw [c1, c0] at z
      revert z; decide
    have e : ∀ v br, tlp X A (G + n) live (fu + 1) v (G + i) br = some (v, G + i, br) := fun v br => by
      unfold tlp
      rw [if_pos c4, if_neg no]
    exact ⟨i, Nat.le_refl _, a, fun br v _ => ⟨v, e v br⟩, fun _ x => ⟨_, _, e _ _, fun z => absurd z (by simp [tvL]), fun z hz => ⟨rfl, by rw [Option.some.inj hz]⟩⟩⟩
  | succ m ih =>
    intro fu s i hg a hm hf
    obtain ⟨fu, rfl⟩ : ∃ k, fu = k + 1 := ⟨fu - 1, by omega⟩
    obtain ⟨c1, c2, c3, c4⟩ := E.cd a
    have hb := cdN_b (f := f) (t := t) (y := s.1)
    obtain ⟨d1, d2⟩ := mlq_c (s := s) E.2.2.2.2.2.2
    have dc : (cdA A (G + n) (G + i) = nI 142 ∨ cdA A (G + n) (G + i) = nI 147 ∨ cdA A (G + n) (G + i) = nI 137) ↔ ¬ mlq f t s = 0 := by
      rw [c1, d1, nI_eq (by omega) (by decide), nI_eq (by omega) (by decide), nI_eq (by omega) (by decide)]
    by_cases q0 : mlq f t s = 0
    · have e : ∀ v br, tlp X A (G + n) live (fu + 1) v (G + i) br = some (v, G + i, br) := fun v br => by
        unfold tlp
        rw [if_pos c4, if_neg (fun z => dc.mp z q0)]
      rw [show tmL Pt f t (m + 1) true s = (true, s) from if_neg (fun z => z.2 q0)]
      have ev : ∀ v, tvL Pt Pv f t (m + 1) v s = v := fun v => if_neg (fun z => z q0)
      exact ⟨i, Nat.le_refl _, a, fun br v _ => ⟨v, e v br⟩, fun _ x => ⟨_, _, e _ _, fun z => absurd ((ev _).symm.trans z) (by simp), fun z hz => ⟨rfl, by rw [Option.some.inj ((ev _).symm.trans hz)]⟩⟩⟩
    · have el : tmL Pt f t (m + 1) true s = tmL Pt f t m (Pt (gow f t s)).1 (emt (Pt (gow f t s)).2 (mlq f t s)) := if_pos ⟨rfl, q0⟩
      have ev : ∀ v, tvL Pt Pv f t (m + 1) v s = tvL Pt Pv f t m (bn2 (mlq f t s) v (Pv (gow f t s))) (emt (Pt (gow f t s)).2 (mlq f t s)) := fun v => if_pos q0
      rw [el] at hg ⊢
      have g1 := tmL_g m _ _ hg
      rw [g1] at hg ⊢
      have hst : s.1 < t := by
        refine Nat.lt_of_not_le (fun y => ?_)
        have := cdN_t (f := f) y
        have := d2 q0
        omega
      have a1 := E.nx a hst
      obtain ⟨i2, hi2, a2, D2, V2⟩ := HP (gow f t s) (i + 1) g1 a1
      have up0 := E.up a a1 (Nat.le_succ i)
      have up := E.up a1 a2 (Nat.le_of_lt hi2)
      have a2e : AtE f t n i2 (emt (Pt (gow f t s)).2 (mlq f t s)) := a2
      obtain ⟨i3, hi3, a3, D3, V3⟩ := ih fu (emt (Pt (gow f t s)).2 (mlq f t s)) i2 hg a2e (by show t ≤ (Pt (gow f t s)).2.1 + m; omega) (by omega)
      have st : ∀ v br w b1, (X) (G + (i + 1)) br = some (w, G + i2, b1) → tlp X A (G + n) live (fu + 1) v (G + i) br = tlp X A (G + n) live fu (bdv (tx (nI (cdN f t s.1)) v (tw (nI (cdN f t s.1)) w)) live (tb (nI (cdN f t s.1)) w live b1)) (G + i2) (bdb (tx (nI (cdN f t s.1)) v (tw (nI (cdN f t s.1)) w)) live (tb (nI (cdN f t s.1)) w live b1)) := fun v br w b1 hw => by
        have hw : (X) (G + i + 1) br = some (w, G + i2, b1) := hw
        conv => lhs; unfold tlp
        rw [if_pos c4, if_pos (dc.mpr q0), hw, c1]
      refine ⟨i3, by omega, a3, fun br v hd => ?_, fun hl x => ?_⟩
      · obtain ⟨w, ew⟩ := D2 br hd
        rw [st v br w br ew]
        have eb : ∀ y, bdb y live (tb (nI (cdN f t s.1)) w live br) = br := fun y => by
          rcases hd with hd | hd
          · subst hd
            unfold bdb tb
            simp
          · subst hd
            unfold bdb tb
            simp
        rw [eb]
        exact D3 br _ hd
      · subst hl
        obtain ⟨w, b1, ew, N2, Y2⟩ := V2 rfl
        rw [st _ _ _ _ ew, ev]
        cases hP : Pv (gow f t s) with
        | none =>
          have b1t := N2 hP
          subst b1t
          have eb : ∀ y, bdb y true (tb (nI (cdN f t s.1)) w true true) = true := fun y => by
            unfold bdb tb
            simp
          rw [eb]
          obtain ⟨v2, e2⟩ := D3 true (bdv (tx (nI (cdN f t s.1)) x.toInt64 (tw (nI (cdN f t s.1)) w)) true (tb (nI (cdN f t s.1)) w true true)) (Or.inr rfl)
          refine ⟨v2, true, e2, fun _ => rfl, fun z hz => ?_⟩
          have : tvL Pt Pv f t m (bn2 (mlq f t s) (some x) none) (emt (Pt (gow f t s)).2 (mlq f t s)) = none := tvL_none m _
          rw [this] at hz
          exact absurd hz (by simp)
        | some y =>
          obtain ⟨b1f, wy⟩ := Y2 y hP
          subst b1f
          subst wy
          have ebn : bn2 (mlq f t s) (some x) (some y) = bnv (mlq f t s) x y := rfl
          rw [ebn]
          obtain ⟨o1, o2⟩ := op_ml (d2 q0) x y
          cases hB : bnv (mlq f t s) x y with
          | none =>
            rw [o1 hB]
            obtain ⟨v2, e2⟩ := D3 true (bdv (tx (nI (cdN f t s.1)) x.toInt64 (tw (nI (cdN f t s.1)) y.toInt64)) true (tb (nI (cdN f t s.1)) y.toInt64 true false)) (Or.inr rfl)
            refine ⟨v2, true, e2, fun _ => rfl, fun z hz => ?_⟩
            rw [tvL_none m _] at hz
            exact absurd hz (by simp)
          | some z =>
            obtain ⟨o3, o4⟩ := o2 z hB
            rw [o3, o4]
            exact V3 rfl z
theorem slp_e (E : EvE f t n G A) {X : Nat → Bool → EvR} {Pt : PSt → Bool × PSt} {Pv : PSt → OI} (HP : EvP f t n G live (tmv X A (G + n) live) Pt Pv) : ∀ (m fu : Nat) (s : PSt) (i : Nat), (smL Pt f t m true s).1 = true → AtE f t n i s → t ≤ s.1 + m → n - i < fu → ∃ i2, i ≤ i2 ∧ AtE f t n i2 (smL Pt f t m true s).2 ∧ (∀ br v, live = false ∨ br = true → ∃ v2, slp X A (G + n) live fu v (G + i) br = some (v2, G + i2, br)) ∧ (live = true → ∀ x : Int32, ∃ v2 b2, slp X A (G + n) live fu x.toInt64 (G + i) false = some (v2, G + i2, b2) ∧ (svL Pt Pv f t m (some x) s = none → b2 = true) ∧ ∀ z, svL Pt Pv f t m (some x) s = some z → b2 = false ∧ v2 = z.toInt64) := by
  intro m
  induction m with
  | zero =>
    intro fu s i hg a hm hf
    obtain ⟨fu, rfl⟩ : ∃ k, fu = k + 1 := ⟨fu - 1, by omega⟩
    obtain ⟨c1, c2, c3, c4⟩ := E.cd a
    have c0 := cdN_t (f := f) (show t ≤ s.1 by omega)
    have no : ¬ (cdA A (G + n) (G + i) = nI 143 ∨ cdA A (G + n) (G + i) = nI 145) := fun z => by
      rw [c1, c0] at z
      revert z; decide
    have e : ∀ v br, slp X A (G + n) live (fu + 1) v (G + i) br = some (v, G + i, br) := fun v br => by
      unfold slp
      rw [if_pos c4, if_neg no]
    exact ⟨i, Nat.le_refl _, a, fun br v _ => ⟨v, e v br⟩, fun _ x => ⟨_, _, e _ _, fun z => absurd z (by simp [svL]), fun z hz => ⟨rfl, by rw [Option.some.inj hz]⟩⟩⟩
  | succ m ih =>
    intro fu s i hg a hm hf
    obtain ⟨fu, rfl⟩ : ∃ k, fu = k + 1 := ⟨fu - 1, by omega⟩
    obtain ⟨c1, c2, c3, c4⟩ := E.cd a
    have hb := cdN_b (f := f) (t := t) (y := s.1)
    obtain ⟨d1, d2⟩ := plq_c (s := s) E.2.2.2.2.2.2
    have dc : (cdA A (G + n) (G + i) = nI 143 ∨ cdA A (G + n) (G + i) = nI 145) ↔ ¬ plq f t s = 0 := by
      rw [c1, d1, nI_eq (by omega) (by decide), nI_eq (by omega) (by decide)]
    by_cases q0 : plq f t s = 0
    · have e : ∀ v br, slp X A (G + n) live (fu + 1) v (G + i) br = some (v, G + i, br) := fun v br => by
        unfold slp
        rw [if_pos c4, if_neg (fun z => dc.mp z q0)]
      rw [show smL Pt f t (m + 1) true s = (true, s) from if_neg (fun z => z.2 q0)]
      have ev : ∀ v, svL Pt Pv f t (m + 1) v s = v := fun v => if_neg (fun z => z q0)
      exact ⟨i, Nat.le_refl _, a, fun br v _ => ⟨v, e v br⟩, fun _ x => ⟨_, _, e _ _, fun z => absurd ((ev _).symm.trans z) (by simp), fun z hz => ⟨rfl, by rw [Option.some.inj ((ev _).symm.trans hz)]⟩⟩⟩
    · have el : smL Pt f t (m + 1) true s = smL Pt f t m (Pt (gow f t s)).1 (emt (Pt (gow f t s)).2 (plq f t s)) := if_pos ⟨rfl, q0⟩
      have ev : ∀ v, svL Pt Pv f t (m + 1) v s = svL Pt Pv f t m (bn2 (plq f t s) v (Pv (gow f t s))) (emt (Pt (gow f t s)).2 (plq f t s)) := fun v => if_pos q0
      rw [el] at hg ⊢
      have g1 := smL_g m _ _ hg
      rw [g1] at hg ⊢
      have hst : s.1 < t := by
        refine Nat.lt_of_not_le (fun y => ?_)
        have := cdN_t (f := f) y
        have := d2 q0
        omega
      have a1 := E.nx a hst
      obtain ⟨i2, hi2, a2, D2, V2⟩ := HP (gow f t s) (i + 1) g1 a1
      have up0 := E.up a a1 (Nat.le_succ i)
      have up := E.up a1 a2 (Nat.le_of_lt hi2)
      have a2e : AtE f t n i2 (emt (Pt (gow f t s)).2 (plq f t s)) := a2
      obtain ⟨i3, hi3, a3, D3, V3⟩ := ih fu (emt (Pt (gow f t s)).2 (plq f t s)) i2 hg a2e (by show t ≤ (Pt (gow f t s)).2.1 + m; omega) (by omega)
      have st : ∀ v br w b1, (tmv X A (G + n) live) (G + (i + 1)) br = some (w, G + i2, b1) → slp X A (G + n) live (fu + 1) v (G + i) br = slp X A (G + n) live fu (bdv (sx (nI (cdN f t s.1)) v w) live (b1)) (G + i2) (bdb (sx (nI (cdN f t s.1)) v w) live (b1)) := fun v br w b1 hw => by
        have hw : (tmv X A (G + n) live) (G + i + 1) br = some (w, G + i2, b1) := hw
        conv => lhs; unfold slp
        rw [if_pos c4, if_pos (dc.mpr q0), hw, c1]
      refine ⟨i3, by omega, a3, fun br v hd => ?_, fun hl x => ?_⟩
      · obtain ⟨w, ew⟩ := D2 br hd
        rw [st v br w br ew]
        have eb : ∀ y, bdb y live (br) = br := fun y => by
          rcases hd with hd | hd
          · subst hd
            unfold bdb 
            simp
          · subst hd
            unfold bdb 
            simp
        rw [eb]
        exact D3 br _ hd
      · subst hl
        obtain ⟨w, b1, ew, N2, Y2⟩ := V2 rfl
        rw [st _ _ _ _ ew, ev]
        cases hP : Pv (gow f t s) with
        | none =>
          have b1t := N2 hP
          subst b1t
          have eb : ∀ y, bdb y true (true) = true := fun y => by
            unfold bdb 
            simp
          rw [eb]
          obtain ⟨v2, e2⟩ := D3 true (bdv (sx (nI (cdN f t s.1)) x.toInt64 w) true (true)) (Or.inr rfl)
          refine ⟨v2, true, e2, fun _ => rfl, fun z hz => ?_⟩
          have : svL Pt Pv f t m (bn2 (plq f t s) (some x) none) (emt (Pt (gow f t s)).2 (plq f t s)) = none := svL_none m _
          rw [this] at hz
          exact absurd hz (by simp)
        | some y =>
          obtain ⟨b1f, wy⟩ := Y2 y hP
          subst b1f
          subst wy
          have ebn : bn2 (plq f t s) (some x) (some y) = bnv (plq f t s) x y := rfl
          rw [ebn]
          obtain ⟨o1, o2⟩ := op_pl (d2 q0) x y
          cases hB : bnv (plq f t s) x y with
          | none =>
            rw [o1 hB]
            obtain ⟨v2, e2⟩ := D3 true (bdv (sx (nI (cdN f t s.1)) x.toInt64 y.toInt64) true (false)) (Or.inr rfl)
            refine ⟨v2, true, e2, fun _ => rfl, fun z hz => ?_⟩
            rw [svL_none m _] at hz
            exact absurd hz (by simp)
          | some z =>
            obtain ⟨o3, o4⟩ := o2 z hB
            rw [o3, o4]
            exact V3 rfl z
theorem tmv_e (E : EvE f t n G A) {X : Nat → Bool → EvR} {Pt : PSt → Bool × PSt} {Pv : PSt → OI} (HP : EvP f t n G live (X) Pt Pv) : EvP f t n G live (tmv X A (G + n) live) (trm Pt f t) (tvm Pt Pv f t) := by
  intro s i hg a
  unfold trm at hg ⊢
  have g1 := tmL_g 400 _ _ hg
  obtain ⟨i2, hi2, a2, D2, V2⟩ := HP s i g1 a
  rw [g1] at hg ⊢
  obtain ⟨i3, hi3, a3, D3, V3⟩ := tlp_e E HP 400 402 (Pt s).2 i2 hg a2 (by have := E.2.2.2.2.2.1; omega) (by have := E.1; omega)
  refine ⟨i3, by omega, a3, fun br hd => ?_, fun hl => ?_⟩
  · obtain ⟨w, ew⟩ := D2 br hd
    obtain ⟨v2, e2⟩ := D3 br w hd
    refine ⟨v2, ?_⟩
    unfold tmv
    rw [ew]
    exact e2
  · obtain ⟨w, b1, ew, N2, Y2⟩ := V2 hl
    unfold tvm
    cases hP : Pv s with
    | none =>
      have b1t := N2 hP
      subst b1t
      obtain ⟨v2, e2⟩ := D3 true w (Or.inr rfl)
      refine ⟨v2, true, ?_, fun _ => rfl, fun z hz => ?_⟩
      · unfold tmv
        rw [ew]
        exact e2
      · rw [tvL_none] at hz
        exact absurd hz (by simp)
    | some x =>
      obtain ⟨b1f, wy⟩ := Y2 x hP
      subst b1f
      subst wy
      obtain ⟨v2, b2, e2, r2⟩ := V3 hl x
      refine ⟨v2, b2, ?_, r2⟩
      unfold tmv
      rw [ew]
      exact e2
theorem smv_e (E : EvE f t n G A) {X : Nat → Bool → EvR} {Pt : PSt → Bool × PSt} {Pv : PSt → OI} (HP : EvP f t n G live (tmv X A (G + n) live) Pt Pv) : EvP f t n G live (smv X A (G + n) live) (smm Pt f t) (svm Pt Pv f t) := by
  intro s i hg a
  unfold smm at hg ⊢
  have g1 := smL_g 400 _ _ hg
  obtain ⟨i2, hi2, a2, D2, V2⟩ := HP s i g1 a
  rw [g1] at hg ⊢
  obtain ⟨i3, hi3, a3, D3, V3⟩ := slp_e E HP 400 402 (Pt s).2 i2 hg a2 (by have := E.2.2.2.2.2.1; omega) (by have := E.1; omega)
  refine ⟨i3, by omega, a3, fun br hd => ?_, fun hl => ?_⟩
  · obtain ⟨w, ew⟩ := D2 br hd
    obtain ⟨v2, e2⟩ := D3 br w hd
    refine ⟨v2, ?_⟩
    unfold smv
    rw [ew]
    exact e2
  · obtain ⟨w, b1, ew, N2, Y2⟩ := V2 hl
    unfold svm
    cases hP : Pv s with
    | none =>
      have b1t := N2 hP
      subst b1t
      obtain ⟨v2, e2⟩ := D3 true w (Or.inr rfl)
      refine ⟨v2, true, ?_, fun _ => rfl, fun z hz => ?_⟩
      · unfold smv
        rw [ew]
        exact e2
      · rw [svL_none] at hz
        exact absurd hz (by simp)
    | some x =>
      obtain ⟨b1f, wy⟩ := Y2 x hP
      subst b1f
      subst wy
      obtain ⟨v2, b2, e2, r2⟩ := V3 hl x
      refine ⟨v2, b2, ?_, r2⟩
      unfold smv
      rw [ew]
      exact e2
theorem ptv_e (E : EvE f t n G A) (HW : HWs A nh o ws) : ∀ (d D : Nat), d ≤ D → EvP f t n G live (ptv A (G + n) nh (decide (¬ o = 0)) live D) (prs f t o d) (prV ws f t o d)
  | 0, D, _ => by
    intro s i hg a
    obtain ⟨c1, c2, c3, c4⟩ := E.cd a
    have hb := cdN_b (f := f) (t := t) (y := s.1)
    have d91 := sgp_c (s := s) E.2.2.2.2.2.2 (c := 91) (k := 91) (by decide) (by decide)
    unfold prs at hg ⊢
    by_cases q : sgp f t 91 s
    · rw [if_pos q] at hg; exact absurd hg Bool.false_ne_true
    · rw [if_neg q] at hg ⊢
      have cc : ¬ cdA A (G + n) (G + i) = nI 191 := fun z => by
        rw [c1] at z
        exact q (d91.mpr ((nI_eq (by omega) (by decide)).mp z))
      obtain ⟨i2, hi2, a2, D2, V2⟩ := leaf_e (live := live) E HW s i hg a
      have ep : ∀ br, ptv A (G + n) nh (decide (¬ o = 0)) live D (G + i) br = leafv A (G + n) nh (decide (¬ o = 0)) live (G + i) br := fun br => by
        cases D with
        | zero => unfold ptv; rw [if_pos c4]
        | succ D => unfold ptv; rw [if_pos c4, if_neg cc]
      unfold prV
      exact ⟨i2, hi2, a2, fun br hd => by rw [ep]; exact D2 br hd, by rw [ep]; exact V2⟩
  | d + 1, D, hD => by
    obtain ⟨D, rfl⟩ : ∃ k, D = k + 1 := ⟨D - 1, by omega⟩
    intro s i hg a
    obtain ⟨c1, c2, c3, c4⟩ := E.cd a
    have hb := cdN_b (f := f) (t := t) (y := s.1)
    have d91 := sgp_c (s := s) E.2.2.2.2.2.2 (c := 91) (k := 91) (by decide) (by decide)
    unfold prs at hg ⊢
    unfold ptv prV
    rw [if_pos c4]
    by_cases q : sgp f t 91 s
    · rw [if_pos q] at hg ⊢
      have hst : s.1 < t := tkd_y (f := f) (by have := q.1; omega)
      have cc : cdA A (G + n) (G + i) = nI 191 := by rw [c1, d91.mp q]
      rw [if_pos cc, if_pos q]
      have a1 := E.nx a hst
      have HS := smv_e E (tmv_e E (ptv_e E HW d D (by omega))) (gow f t s) (i + 1)
      have er : smm (trm (prs f t o d) f t) f t (gow f t s) = smd f t o d (gow f t s) := rfl
      rw [er] at hg HS ⊢
      generalize smd f t o d (gow f t s) = r at *
      by_cases q2 : r.1 = true
      · rw [if_pos q2] at hg ⊢
        by_cases q3 : sgp f t 93 r.2
        · rw [if_pos q3] at hg ⊢
          obtain ⟨i2, hi2, a2, D2, V2⟩ := HS q2 a1
          have hs2 : r.2.1 < t := tkd_y (f := f) (by have := q3.1; omega)
          refine ⟨i2 + 1, by omega, E.nx a2 hs2, fun br hd => ?_, fun hl => ?_⟩
          · obtain ⟨v, ev⟩ := D2 br hd
            refine ⟨v, ?_⟩
            rw [if_pos c4, if_pos cc, show G + i + 1 = G + (i + 1) by omega, ev]
            rfl
          · obtain ⟨v, b2, ev, r2⟩ := V2 hl
            refine ⟨v, b2, ?_, r2⟩
            rw [show G + i + 1 = G + (i + 1) by omega, ev]
            rfl
        · rw [if_neg q3] at hg; exact absurd hg Bool.false_ne_true
      · rw [if_neg q2] at hg; exact absurd hg Bool.false_ne_true
    · rw [if_neg q] at hg ⊢
      have cc : ¬ cdA A (G + n) (G + i) = nI 191 := fun z => by
        rw [c1] at z
        exact q (d91.mpr ((nI_eq (by omega) (by decide)).mp z))
      rw [if_neg cc, if_neg q]
      obtain ⟨i2, hi2, a2, D2, V2⟩ := leaf_e (live := live) E HW s i hg a
      exact ⟨i2, hi2, a2, fun br hd => by rw [if_pos c4, if_neg cc]; exact D2 br hd, V2⟩
theorem sumv_e (E : EvE f t n G A) (HW : HWs A nh o ws) {d D : Nat} (h : d ≤ D) : EvP f t n G live (smv (ptv A (G + n) nh (decide (¬ o = 0)) live D) A (G + n) live) (smd f t o d) (smV ws f t o d) := smv_e E (tmv_e E (ptv_e E HW d D h))
end EvalQ
