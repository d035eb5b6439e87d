/-! PURE: the reference's evaluation, as functions -/
theorem nbI (b : Bool) : nI (bN (b = true)) = bI b := by cases b <;> rfl
def OkF (b : Nat) (σ : am_S) (X : am_H → Option (Int64 × am_H)) (P : Nat → Bool → EvR) : Prop := ∀ (g : Nat) (br : Bool) (v : Int64) (g2 : Nat) (b2 : Bool) (h : am_H), P g br = some (v, g2, b2) → Mo b h (evS σ g br) → ∃ h2, X h = some (v, h2) ∧ Mo b h2 (evS σ g2 b2) ∧ Same b h h2
def OkG (b : Nat) (σ : am_S) (X : Int32 → am_H → Option (Int32 × am_H)) (P : Bool → Nat → Bool → EvB) : Prop := ∀ (live : Bool) (g : Nat) (br : Bool) (v : Bool) (g2 : Nat) (b2 : Bool) (h : am_H), P live g br = some (v, g2, b2) → Mo b h (evS σ g br) → ∃ h2, X (bI live) h = some (bI v, h2) ∧ Mo b h2 (evS σ g2 b2) ∧ Same b h h2
section EvX
variable {b : Nat} {σ : am_S} {h : am_H} {ge g n : Nat} {br : Bool}
theorem ev21 (M : Mo b h (evS σ g br)) : gI h 12 b 21 = some (nI g) := M.i21
theorem ev23 (M : Mo b h (evS σ g br)) : gI h 12 b 23 = some (bI br) := by rw [M.i23, ← nbI]; rfl
theorem ev_go (M : Mo b h (evS σ g br)) (g2 : Nat) : ∃ h2, pV h 12 b 21 (.int (nI g2)) = some h2 ∧ Mo b h2 (evS σ g2 br) ∧ Same b h h2 := by
  obtain ⟨h2, e, M2, S2⟩ := M.w21 (nI g2)
  rw [evS_go] at M2
  exact ⟨h2, e, M2, S2⟩
theorem ev_br (M : Mo b h (evS σ g br)) (b2 : Bool) : ∃ h2, pV h 12 b 23 (.int (bI b2)) = some h2 ∧ Mo b h2 (evS σ g b2) ∧ Same b h h2 := by
  obtain ⟨h2, e, M2, S2⟩ := M.w23 (bI b2)
  rw [← nbI, evS_br] at M2
  exact ⟨h2, e, M2, S2⟩
theorem codeAt_p (hge : σ.1 22 = nI ge) (hge2 : ge ≤ 2800) (hg : g < 2 ^ 30) (k : Nat) (hk : k < 2 ^ 30) (M : Mo b h (evS σ g br)) : Ref_codeAt b (nI k) h = some (cdA σ.2.1 ge k) := by
  have tg := tin (show ge < 2 ^ 31 by omega)
  have tk := tin (show k < 2 ^ 31 by omega)
  unfold Ref_codeAt cdA
  rw [if_pos M.o, M.i22, show (evS σ g br).1 22 = nI ge from hge]
  simp only [Option.bind_some]
  by_cases q : k < ge
  · rw [if_neg (fun z => by have := tile.mp z; omega), if_pos q, M.r2]
    simp only [Option.bind_some]
    rw [show (125 : Int32) + nI k = nI (125 + k) from nI_add 125 k, show aI h 0 (b + 1 + 1) (nI (125 + k)) = _ from M.rd (r := 1) (by decide) (by decide) (show 125 + k < 5725 by omega)]
    rfl
  · rw [if_pos (tile.mpr (by omega)), if_neg q]
    rfl
theorem passes_p (hge : σ.1 22 = nI ge) (hge2 : ge ≤ 2800) (hg : g < 2 ^ 30) (M : Mo b h (evS σ g br)) (c : Int32) : ∃ h2, Ref_passes0 b c h = some (bI (decide (cdA σ.2.1 ge g = c)), h2) ∧ Same b h h2 ∧ (cdA σ.2.1 ge g = c → Mo b h2 (evS σ (g + 1) br)) ∧ (¬ cdA σ.2.1 ge g = c → h2 = h) := by
  have e0 : Ref_passes0 b c h = if cdA σ.2.1 ge g = c then Ref_passes0_17 b 1 h else Ref_passes0_17 b 0 h := by
    unfold Ref_passes0
    rw [if_pos M.o, ev21 M]
    simp only [Option.bind_some]
    rw [codeAt_p hge hge2 hg g hg M]
    rfl
  by_cases q : cdA σ.2.1 ge g = c
  · obtain ⟨h2, e, M2, S2⟩ := ev_go M (g + 1)
    refine ⟨h2, ?_, S2, fun _ => M2, fun z => absurd q z⟩
    rw [e0, if_pos q]
    unfold Ref_passes0_17
    rw [if_neg (by decide), ev21 M]
    simp only [Option.bind_some]
    rw [nI_p1, e, show bI (decide (cdA σ.2.1 ge g = c)) = 1 from if_pos (decide_eq_true q)]
    rfl
  · refine ⟨h, ?_, Same.rf, fun z => absurd z q, fun _ => rfl⟩
    rw [e0, if_neg q]
    unfold Ref_passes0_17
    rw [if_pos rfl, show bI (decide (cdA σ.2.1 ge g = c)) = 0 from if_neg (fun z => q (of_decide_eq_true z))]
    rfl
theorem bounded_p (M : Mo b h (evS σ g br)) (v : Int64) (live : Bool) : ∃ h2, Ref_bounded b v (bI live) h = some (bdv v live br, h2) ∧ Mo b h2 (evS σ g (bdb v live br)) ∧ Same b h h2 := by
  have e25 : ∀ (h : am_H) (br : Bool), Mo b h (evS σ g br) → Ref_bounded_25 b v h = some ((if br = true then 0 else v), h) := fun h br M => by
    unfold Ref_bounded_25
    rw [ev23 M]
    simp only [Option.bind_some]
    by_cases q : br = true
    · rw [if_neg (fun x => bI_0.mp x q), if_pos q]
    · rw [if_pos (bI_0.mpr q), if_neg q]
  obtain ⟨h2, e2, M2, S2⟩ := ev_br M true
  have e20 : Ref_bounded_20 b v h = some (0, h2) := by
    unfold Ref_bounded_20
    rw [show pV h 12 b 23 (.int (1 : Int32)) = _ from e2]
    simp only [Option.bind_some]
    rw [e25 h2 true M2]
    rfl
  unfold Ref_bounded
  rw [if_pos M.o]
  have c1 : ((0 : Int32) < lg_cmp v 1000000000) ↔ 1000000000 < v := by
    have c := cmpg (x := v) (y := 1000000000)
    constructor
    · intro z
      by_cases y : 1000000000 < v
      · exact y
      · have a1 := tile.mp (c.mpr y)
        have a2 := tilt.mp z
        omega
    · intro z
      refine tilt.mpr ?_
      have a1 := mt tile.mpr (fun y => c.mp y z)
      omega
  by_cases q : live = true
  · rw [if_neg (fun x => bI_0.mp x q)]
    subst q
    by_cases q1 : 1000000000 < v
    · rw [if_pos (c1.mpr q1), e20]
      have eb : bdb v true br = true := by unfold bdb; simp [q1]
      refine ⟨h2, ?_, by rw [eb]; exact M2, S2⟩
      unfold bdv
      rw [eb]; rfl
    · rw [if_neg (fun z => q1 (c1.mp z))]
      by_cases q2 : v < -1000000000
      · rw [if_neg (fun z => cmpz.mp z q2), e20]
        have eb : bdb v true br = true := by unfold bdb; simp [q2]
        refine ⟨h2, ?_, by rw [eb]; exact M2, S2⟩
        unfold bdv
        rw [eb]; rfl
      · rw [if_pos (cmpz.mpr q2), e25 h br M]
        have eb : bdb v true br = br := by unfold bdb; simp [q1, q2]
        refine ⟨h, ?_, by rw [eb]; exact M, Same.rf⟩
        unfold bdv
        rw [eb]
  · rw [if_pos (bI_0.mpr q), e25 h br M]
    have q : live = false := by cases live <;> simp_all
    subst q
    have eb : bdb v false br = br := by unfold bdb; simp
    refine ⟨h, ?_, by rw [eb]; exact M, Same.rf⟩
    unfold bdv
    rw [eb]
/-- numbers that are counts -/
theorem clN {x : Int32} (h : x = nI x.toNatClampNeg) : ∃ k, x = nI k ∧ k = x.toNatClampNeg := ⟨_, h, rfl⟩
theorem heapVal_p (hn : σ.2.1 1 96 = nI n) (hn6 : n ≤ 6) (M : Mo b h (evS σ g br)) {c : Int32} {q : Nat} (hq : q < 6) : Ref_heapValue b c (nI q) h = some (hvl σ.2.1 n c q) := by
  have tq := tin (show q < 2 ^ 31 by omega)
  have tn := tin (show n < 2 ^ 31 by omega)
  have eH : Ref_isHeap b (nI q) h = some (bI (decide (q < n))) := by
    unfold Ref_isHeap
    rw [if_pos M.o, M.r2]
    simp only [Option.bind_some]
    rw [show (96 : Int32) = nI 96 from rfl, show aI h 0 (b + 1 + 1) (nI 96) = _ from M.rd (r := 1) (by decide) (by decide) (show 96 < 5725 by decide), show (evS σ g br).2.1 1 96 = nI n from hn]
    simp only [Option.bind_some]
    unfold Ref_lies
    rw [if_neg (fun z => by have := tilt.mp z; rw [ti0] at this; omega)]
    have es : (nI n - (1 : Int32)).toInt = (n : Int) - 1 := by
      rw [show nI n - (1 : Int32) = nI n + (-1 : Int32) by rw [Int32.sub_eq_add_neg], hS_m, hS_t (by omega)]
    by_cases z : q < n
    · rw [if_neg (fun y => by have := tilt.mp y; omega), show bI (decide (q < n)) = 1 from if_pos (decide_eq_true z)]
      rfl
    · rw [if_pos (tilt.mpr (by omega)), show bI (decide (q < n)) = 0 from if_neg (fun y => z (of_decide_eq_true y))]
      rfl
  have e16 : (0 : Int32) + (16 : Int32) * nI q = nI (16 * q) := by
    rw [show (16 : Int32) * nI q = nI (16 * q) from pk_mul 16 q, show (0 : Int32) = nI 0 from rfl, nI_add, Nat.zero_add]
  have rd : ∀ i, i < 5725 → aI h 0 (b + 1 + 1) (nI i) = some (σ.2.1 1 i) := fun i hi => M.rd (r := 1) (by decide) (by decide) hi
  unfold Ref_heapValue hvl
  rw [if_pos M.o, eH]
  simp only [Option.bind_some]
  by_cases z : q < n
  · rw [if_neg (fun x => bI_0.mp x (decide_eq_true z)), if_pos z]
    by_cases z1 : c = nI 14
    · rw [if_pos (show c = (14 : Int32) from z1), if_pos z1]
      unfold Ref_cardOf Ref_placeOf
      rw [if_pos M.o, M.r2]
      simp only [Option.bind_some]
      rw [e16, show nI (16 * q) + (3 : Int32) = nI (16 * q + 3) from nI_add _ 3, show nI (16 * q + 3) + (0 : Int32) = nI (16 * q + 3 + 0) from nI_add _ 0, rd _ (by omega)]
      rfl
    · rw [if_neg (show ¬ c = (14 : Int32) from z1), if_neg z1, M.r2]
      unfold Ref_placeOf
      simp only [Option.bind_some]
      rw [e16]
      by_cases z2 : c = nI 15
      · rw [if_pos (show c = (15 : Int32) from z2), if_pos z2, show nI (16 * q) + (0 : Int32) = nI (16 * q + 0) from nI_add _ 0, rd _ (by omega)]
        rfl
      · rw [if_neg (show ¬ c = (15 : Int32) from z2), if_neg z2, show nI (16 * q) + (1 : Int32) = nI (16 * q + 1) from nI_add _ 1, rd _ (by omega)]
        rfl
  · rw [if_pos (bI_0.mpr (fun y => z (of_decide_eq_true y))), if_neg z]
theorem leaf_p (hge : σ.1 22 = nI ge) (hge2 : ge ≤ 2800) (hg : g < 2799) {inO live : Bool} (h24 : σ.1 24 = bI inO) (hn : σ.2.1 1 96 = nI n) (hn6 : n ≤ 6) (hc : ¬ cdA σ.2.1 ge g = nI 191) {v : Int64} {g2 : Nat} {b2 : Bool} (hv : leafv σ.2.1 ge n inO live g br = some (v, g2, b2)) (M : Mo b h (evS σ g br)) {dd : Nat} : ∃ h2, Ref_partOf dd b (bI live) h = some (v, h2) ∧ Mo b h2 (evS σ g2 b2) ∧ Same b h h2 := by
  obtain ⟨hx, ex, Sx, _, nx⟩ := passes_p hge hge2 (by omega) M (nI 191)
  have nx := nx hc
  subst nx
  obtain ⟨h1, e1, M1, S1⟩ := ev_go M (g + 1)
  have c24 : ∀ (h : am_H) (g : Nat) (br : Bool), Mo b h (evS σ g br) → gI h 12 b 24 = some (bI inO) := fun h g br M => by rw [M.i24]; exact congrArg some h24
  have e0 : Ref_partOf dd b (bI live) hx = if bI inO = (0 : Int32) then Ref_partOf_89 dd b (bI live) (cdA σ.2.1 ge g) 0 h1 else (Ref_isOfHeap (cdA σ.2.1 ge g) h1).bind fun x21 => if x21 = (0 : Int32) then Ref_partOf_89 dd b (bI live) (cdA σ.2.1 ge g) (0 : Int32) h1 else (gR h1 12 b 2).bind fun x25 => (gI h1 12 b 21).bind fun x27 => (aI h1 0 x25 ((2925 : Int32) + x27)).bind fun x29 => (gI h1 12 b 21).bind fun x31 => (pV h1 12 b 21 (.int (x31 + (1 : Int32)))).bind fun h33 => Ref_partOf_89 dd b (bI live) (cdA σ.2.1 ge g) x29 h33 := by
    rw [Ref_partOf_e, if_pos M.o]
    unfold Ref_sign
    simp only [Option.bind_some]
    rw [show Ref_passes0 b ((100 : Int32) + 91) hx = _ from ex]
    simp only [Option.bind_some]
    rw [if_pos (bI_0.mpr (fun z => hc (of_decide_eq_true z))), ev21 M]
    simp only [Option.bind_some]
    rw [codeAt_p hge hge2 (by omega) g (by omega) M]
    simp only [Option.bind_some]
    rw [nI_p1, e1]
    simp only [Option.bind_some]
    rw [c24 h1 _ _ M1]
    rfl
  have rd : ∀ (h : am_H) (g : Nat) (br : Bool), Mo b h (evS σ g br) → ∀ i, i < 5725 → aI h 0 (b + 1 + 1) (nI i) = some (σ.2.1 1 i) := fun h g br M i hi => M.rd (r := 1) (by decide) (by decide) hi
  -- the value, dead or alive
  have e89 : ∀ (h3 : am_H) (g3 : Nat) (y x : Int32), Mo b h3 (evS σ g3 br) → (live = true → ¬ br = true → Ref_partOf_89 dd b (bI live) (cdA σ.2.1 ge g) y h3 = some (x.toInt64, h3)) → Ref_partOf_89 dd b (bI live) (cdA σ.2.1 ge g) y h3 = some (pv0 live br x, h3) := fun h3 g3 y x M3 hx => by
    unfold pv0
    by_cases q1 : live = true
    · by_cases q2 : br = true
      · rw [if_neg (fun z => z.2 q2), Ref_partOf_89_e, if_neg (fun x => bI_0.mp x q1), ev23 M3]
        simp only [Option.bind_some]
        rw [if_neg (fun x => bI_0.mp x q2)]
      · rw [if_pos ⟨q1, q2⟩]; exact hx q1 q2
    · rw [if_neg (fun z => q1 z.1), Ref_partOf_89_e, if_pos (bI_0.mpr q1)]
  have al : ∀ (h3 : am_H) (g3 : Nat) (y : Int32), Mo b h3 (evS σ g3 br) → live = true → ¬ br = true → Ref_partOf_89 dd b (bI live) (cdA σ.2.1 ge g) y h3 = if cdA σ.2.1 ge g = (50 : Int32) then (gR h3 12 b 2).bind fun x70 => (gI h3 12 b 21).bind fun x72 => (aI h3 0 x70 (((2925 : Int32) + x72) - (1 : Int32))).bind fun x74 => some (Int32.toInt64 x74, h3) else if bI inO = (0 : Int32) then (gR h3 12 b 27).bind fun x66 => (aI h3 0 x66 (cdA σ.2.1 ge g - (8 : Int32))).bind fun x68 => some (Int32.toInt64 x68, h3) else (Ref_isOfHeap (cdA σ.2.1 ge g) h3).bind fun x56 => if x56 = (0 : Int32) then (gR h3 12 b 28).bind fun x60 => (aI h3 0 x60 (cdA σ.2.1 ge g - (16 : Int32))).bind fun x62 => some (Int32.toInt64 x62, h3) else (Ref_heapValue b (cdA σ.2.1 ge g) y h3).bind fun x64 => some (Int32.toInt64 x64, h3) := fun h3 g3 y M3 q1 q2 => by
    rw [Ref_partOf_89_e, if_neg (fun x => bI_0.mp x q1), ev23 M3]
    simp only [Option.bind_some]
    rw [if_pos (bI_0.mpr q2), c24 h3 _ _ M3]
    rfl
  rw [e0]
  unfold leafv at hv
  by_cases q50 : cdA σ.2.1 ge g = nI 50
  · rw [if_pos q50] at hv
    obtain ⟨rfl, rfl, rfl⟩ : pv0 live br (σ.2.1 1 (2925 + g)) = v ∧ g + 1 = g2 ∧ br = b2 := by
      have := Option.some.inj hv
      exact ⟨congrArg Prod.fst this, congrArg (fun z => z.2.1) this, congrArg (fun z => z.2.2) this⟩
    have fin : ∀ y, Ref_partOf_89 dd b (bI live) (cdA σ.2.1 ge g) y h1 = some (pv0 live br (σ.2.1 1 (2925 + g)), h1) := fun y => e89 h1 (g + 1) y _ M1 (fun q1 q2 => by
      rw [al h1 (g + 1) y M1 q1 q2, if_pos (show cdA σ.2.1 ge g = (50 : Int32) from q50), M1.r2, ev21 M1]
      simp only [Option.bind_some]
      rw [show (2925 : Int32) + nI (g + 1) = nI (2925 + (g + 1)) from nI_add 2925 _, show nI (2925 + (g + 1)) - (1 : Int32) = nI (2925 + g) from pk_sub (a := 2925 + (g + 1)) (b := 1) (by omega), rd h1 _ _ M1 _ (by omega)]
      rfl)
    refine ⟨h1, ?_, M1, S1⟩
    by_cases qo : bI inO = (0 : Int32)
    · rw [if_pos qo]; exact fin 0
    · rw [if_neg qo, q50, show Ref_isOfHeap (nI 50) h1 = some 0 from rfl]
      simp only [Option.bind_some]
      rw [if_pos (by first | rfl | trivial), ← q50]
      exact fin 0
  · rw [if_neg q50] at hv
    have q50' : ¬ cdA σ.2.1 ge g = (50 : Int32) := q50
    by_cases qi : inO = false
    · rw [if_pos qi] at hv
      subst qi
      by_cases qc : cdA σ.2.1 ge g = nI (cdA σ.2.1 ge g).toNatClampNeg ∧ 8 ≤ (cdA σ.2.1 ge g).toNatClampNeg ∧ (cdA σ.2.1 ge g).toNatClampNeg ≤ 15
      · rw [if_pos qc] at hv
        obtain ⟨k, ek, ek2⟩ := clN qc.1
        rw [← ek2] at hv qc
        obtain ⟨rfl, rfl, rfl⟩ : pv0 live br (σ.2.1 11 (k - 8)) = v ∧ g + 1 = g2 ∧ br = b2 := by
          have := Option.some.inj hv
          exact ⟨congrArg Prod.fst this, congrArg (fun z => z.2.1) this, congrArg (fun z => z.2.2) this⟩
        refine ⟨h1, ?_, M1, S1⟩
        rw [if_pos (by first | rfl | trivial)]
        refine e89 h1 (g + 1) 0 _ M1 (fun q1 q2 => ?_)
        rw [al h1 (g + 1) 0 M1 q1 q2, if_neg q50', if_pos (by first | rfl | trivial), M1.r27]
        simp only [Option.bind_some]
        rw [ek, show nI k - (8 : Int32) = nI (k - 8) from pk_sub (a := k) (b := 8) (by omega), show aI h1 0 (b + 1 + 11) (nI (k - 8)) = _ from M1.rd (r := 11) (by decide) (by decide) (show k - 8 < 8 by omega)]
        rfl
      · rw [if_neg qc] at hv; exact absurd hv (by simp)
    · rw [if_neg qi] at hv
      have qi : inO = true := by revert qi; cases inO <;> decide
      subst qi
      rw [if_neg (by decide)]
      by_cases qh : cdA σ.2.1 ge g = nI 14 ∨ cdA σ.2.1 ge g = nI 15 ∨ cdA σ.2.1 ge g = nI 19
      · rw [if_pos qh] at hv
        have eh : ∀ h', Ref_isOfHeap (cdA σ.2.1 ge g) h' = some 1 := fun h' => by rcases qh with z | z | z <;> rw [z] <;> rfl
        by_cases qv : σ.2.1 1 (2925 + (g + 1)) = nI (σ.2.1 1 (2925 + (g + 1))).toNatClampNeg ∧ (σ.2.1 1 (2925 + (g + 1))).toNatClampNeg < 6
        · rw [if_pos qv] at hv
          obtain ⟨k, ek, ek2⟩ := clN qv.1
          rw [← ek2] at hv qv
          obtain ⟨rfl, rfl, rfl⟩ : pv0 live br (hvl σ.2.1 n (cdA σ.2.1 ge g) k) = v ∧ g + 1 + 1 = g2 ∧ br = b2 := by
            have := Option.some.inj hv
            exact ⟨congrArg Prod.fst this, congrArg (fun z => z.2.1) this, congrArg (fun z => z.2.2) this⟩
          obtain ⟨h3, e3, M3, S3⟩ := ev_go M1 (g + 1 + 1)
          refine ⟨h3, ?_, M3, S1.tr S3⟩
          rw [eh]
          simp only [Option.bind_some]
          rw [if_neg (by decide), M1.r2, ev21 M1]
          simp only [Option.bind_some]
          rw [show (2925 : Int32) + nI (g + 1) = nI (2925 + (g + 1)) from nI_add 2925 _, rd h1 _ _ M1 _ (by omega), ek]
          simp only [Option.bind_some]
          rw [nI_p1, e3]
          simp only [Option.bind_some]
          refine e89 h3 (g + 1 + 1) (nI k) _ M3 (fun q1 q2 => ?_)
          rw [al h3 (g + 1 + 1) (nI k) M3 q1 q2, if_neg q50', if_neg (by decide), eh]
          simp only [Option.bind_some]
          rw [if_neg (by decide), heapVal_p hn hn6 M3 qv.2]
          rfl
        · rw [if_neg qv] at hv; exact absurd hv (by simp)
      · rw [if_neg qh] at hv
        by_cases qc : cdA σ.2.1 ge g = nI (cdA σ.2.1 ge g).toNatClampNeg ∧ 16 ≤ (cdA σ.2.1 ge g).toNatClampNeg ∧ (cdA σ.2.1 ge g).toNatClampNeg ≤ 18
        · rw [if_pos qc] at hv
          obtain ⟨k, ek, ek2⟩ := clN qc.1
          rw [← ek2] at hv qc
          have eh : ∀ h', Ref_isOfHeap (cdA σ.2.1 ge g) h' = some 0 := fun h' => by
            rw [ek, isOfHeap_v (by omega), show bI (decide (k = 14 ∨ k = 15 ∨ k = 19)) = 0 from if_neg (fun z => by have := of_decide_eq_true z; omega)]
          obtain ⟨rfl, rfl, rfl⟩ : pv0 live br (σ.2.1 12 (k - 16)) = v ∧ g + 1 = g2 ∧ br = b2 := by
            have := Option.some.inj hv
            exact ⟨congrArg Prod.fst this, congrArg (fun z => z.2.1) this, congrArg (fun z => z.2.2) this⟩
          refine ⟨h1, ?_, M1, S1⟩
          rw [eh]
          simp only [Option.bind_some]
          rw [if_pos (by first | rfl | trivial)]
          refine e89 h1 (g + 1) 0 _ M1 (fun q1 q2 => ?_)
          rw [al h1 (g + 1) 0 M1 q1 q2, if_neg q50', if_neg (by decide), eh]
          simp only [Option.bind_some]
          rw [if_pos (by first | rfl | trivial), M1.r28]
          simp only [Option.bind_some]
          rw [ek, show nI k - (16 : Int32) = nI (k - 16) from pk_sub (a := k) (b := 16) (by omega), show aI h1 0 (b + 1 + 12) (nI (k - 16)) = _ from M1.rd (r := 12) (by decide) (by decide) (show k - 16 < 3 by omega)]
          rfl
        · rw [if_neg qc] at hv; exact absurd hv (by simp)
end EvX
