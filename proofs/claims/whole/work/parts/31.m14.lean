/-! THE REFERENCE: tests -/
abbrev EvB : Type := Option (Bool × Nat × Bool)
def OkB (m : am_M) (d b : Nat) (σ : am_S) (P : Bool → Nat → Bool → EvB) : Prop := ∀ (live : Bool) (g : Nat) (br : Bool) (v : Bool) (g2 : Nat) (b2 : Bool) (h : am_H), P live g br = some (v, g2, b2) → Mo b h (evS σ g br) → Ex d 0 0 m 0 (am_en [.ref b, .int (nI (bN (live = true)))] m.2.2.1) [] h (fun r h2 => r = some (.int (nI (bN (v = true)))) ∧ Mo b h2 (evS σ g2 b2) ∧ Same b h h2)
def blp (P : Bool → Nat → Bool → EvB) (A : Nat → Nat → Int32) (ge : Nat) (live : Bool) : Nat → Bool → Nat → Bool → EvB
  | 0, _, _, _ => none
  | f + 1, v, g, br => if g < 2799 then
      (if cdA A ge g = nI 6 then (match P (live && v) (g + 1) br with
        | none => none
        | some (w, g2, b2) => blp P A ge live f (v && w) g2 b2) else some (v, g, br)) else none
def bov (P : Bool → Nat → Bool → EvB) (A : Nat → Nat → Int32) (ge : Nat) (live : Bool) (g : Nat) (br : Bool) : EvB := match P live g br with
  | none => none
  | some (v, g2, b2) => blp P A ge live 402 v g2 b2
def olp (P : Bool → Nat → Bool → EvB) (A : Nat → Nat → Int32) (ge : Nat) (live : Bool) : Nat → Bool → Nat → Bool → EvB
  | 0, _, _, _ => none
  | f + 1, v, g, br => if g < 2799 then
      (if cdA A ge g = nI 5 then (match P (live && !v) (g + 1) br with
        | none => none
        | some (w, g2, b2) => olp P A ge live f (v || w) g2 b2) else some (v, g, br)) else none
def tev (P : Bool → Nat → Bool → EvB) (A : Nat → Nat → Int32) (ge : Nat) (live : Bool) (g : Nat) (br : Bool) : EvB := match P live g br with
  | none => none
  | some (v, g2, b2) => olp P A ge live 402 v g2 b2
def nlp (P : Bool → Nat → Bool → EvB) (A : Nat → Nat → Int32) (ge : Nat) (live : Bool) : Nat → Bool → Nat → Bool → EvB
  | 0, _, _, _ => none
  | f + 1, nt, g, br => if g < 2799 then
      (if cdA A ge g = nI 7 then nlp P A ge live f (!nt) (g + 1) br else (match P live g br with
        | none => none
        | some (x, g2, b2) => some (x != nt, g2, b2))) else none
def cmpv (s : Int32) (a c : Int64) : Bool := if s = nI 160 then decide (a < c) else if s = nI 162 then decide (c < a) else decide (a = c)
theorem bt {v : Bool} : bN (v = true) = 0 ↔ v = false := by cases v <;> simp [bN]
theorem bn {v : Bool} : ¬ bN (v = true) = 0 ↔ v = true := by cases v <;> simp [bN]
set_option maxHeartbeats 400000 in
set_option maxRecDepth 100000 in
theorem l_bothOfC {b : Nat} {h0 h : am_H} {σ : am_S} {g g2 z : Nat} {live v w br b2 : Bool} {dC d : Nat} {P : Bool → Nat → Bool → EvB} {x3 : Value} (hd : dC + 1 ≤ d) {Q : Option Value → am_H → Prop} (hz : z = bN ((live && v) = true)) (hP : OkB mX12_plainOf dC b σ P) (hPv : P (live && v) g br = some (w, g2, b2)) (hm : Mo b h (evS σ g br)) (hs : Same b h0 h)
    (hk : ∀ (h2 : am_H) (y : Nat) (x : Int32), y = bN ((v && w) = true) → Mo b h2 (evS σ g2 b2) → Same b h0 h2 → Ex d 0 0 mX12_bothOf 6 [.ref b, .int (nI (bN (live = true))), .int (nI y), .int x] [] h2 Q) : Ex d 0 0 mX12_bothOf 29 [.ref b, .int (nI (bN (live = true))), .int (nI (bN (v = true))), x3] [.int (nI z), .ref b] h Q := by
  subst hz
  refine ex_callV0 (dc := dC) (as := [.int _]) dX12_bothOf_29 MX12_plainOf kX12_298 iX12_plainOf sX12_plainOf rfl rfl hm.1 rfl rfl (Nat.le_of_ble_eq_true rfl) (Nat.le_of_ble_eq_true rfl) (by first | decide | omega) (hP _ _ _ _ _ _ _ hPv hm) (fun r h2 q => ?_)
  obtain ⟨rfl, hm, hs2⟩ := q
  have hs := hs.tr hs2
  show Ex _ 0 0 _ _ _ (Value.int _ :: _) _ _
  refine ex_istore_n dX12_bothOf_32 (by decide) ?_
  refine ex_iload_n dX12_bothOf_33 rfl ?_
  refine ex_if_eqN 45 dX12_bothOf_34 (by decide) (by first | omega | exact bN_lt) (fun q34 => ?_) (fun q34 => ?_)
  · skip
    refine ex_iconstN (nI 0) dX12_bothOf_45 (by decide) ?_
    refine ex_istore_n dX12_bothOf_46 (by decide) ?_
    refine ex_goto 6 dX12_bothOf_47 (by decide) ?_
    exact hk _ 0 _ (by first | (rw [bt.mp q34]; rfl) | (rw [bt.mp q38]; cases v <;> rfl) | (rw [bt.mp q34, bt.mp q38]; rfl)) hm hs
  · skip
    refine ex_iload_n dX12_bothOf_37 rfl ?_
    refine ex_if_eqN 45 dX12_bothOf_38 (by decide) (by first | omega | exact bN_lt) (fun q38 => ?_) (fun q38 => ?_)
    · skip
      refine ex_iconstN (nI 0) dX12_bothOf_45 (by decide) ?_
      refine ex_istore_n dX12_bothOf_46 (by decide) ?_
      refine ex_goto 6 dX12_bothOf_47 (by decide) ?_
      exact hk _ 0 _ (by first | (rw [bt.mp q34]; rfl) | (rw [bt.mp q38]; cases v <;> rfl) | (rw [bt.mp q34, bt.mp q38]; rfl)) hm hs
    · skip
      refine ex_iconstN (nI 1) dX12_bothOf_41 (by decide) ?_
      refine ex_goto 46 dX12_bothOf_42 (by decide) ?_
      refine ex_istore_n dX12_bothOf_46 (by decide) ?_
      refine ex_goto 6 dX12_bothOf_47 (by decide) ?_
      exact hk _ 1 _ (by first | (rw [bn.mp q34, bn.mp q38]; rfl) | (rw [bn.mp q34]; rfl) | (rw [bn.mp q38]; cases v <;> rfl)) hm hs
set_option maxHeartbeats 400000 in
set_option maxRecDepth 100000 in
theorem l_bothOf {b : Nat} {h0 : am_H} {σ : am_S} {ge : Nat} {live : Bool} {dC d : Nat} {P : Bool → Nat → Bool → EvB} (hge : σ.1 22 = nI ge) (hge2 : ge ≤ 2800) (hd : dC + 1 ≤ d) (hd2 : 2 ≤ d) (hP : OkB mX12_plainOf dC b σ P) {vr : Bool} {gr : Nat} {br2 : Bool} : ∀ (f : Nat) (v : Bool) (g : Nat) (br : Bool) (h : am_H) (y : Nat) (x3 : Value), y = bN (v = true) → blp P σ.2.1 ge live f v g br = some (vr, gr, br2) → Mo b h (evS σ g br) → Same b h0 h → Ex d 0 0 mX12_bothOf 6 [.ref b, .int (nI (bN (live = true))), .int (nI y), x3] [] h (fun r h2 => r = some (.int (nI (bN (vr = true)))) ∧ Mo b h2 (evS σ gr br2) ∧ Same b h0 h2) := by
  intro f
  induction f with
  | zero => intro v g br h y x3 hy hv; cases hv
  | succ f ih0 =>
    intro v g br h y x3 hy hv hm hs
    subst hy
    have ih : ∀ (v : Bool) (g : Nat) (br : Bool) (h : am_H) (y : Nat) (x3 : Value), y = bN (v = true) → blp P σ.2.1 ge live f v g br = some (vr, gr, br2) → Mo b h (evS σ g br) → Same b h0 h → Ex d 0 0 mX12_bothOf 6 [.ref b, .int (nI (bN (live = true))), .int (nI y), x3] [] h (fun r h2 => r = some (.int (nI (bN (vr = true)))) ∧ Mo b h2 (evS σ gr br2) ∧ Same b h0 h2) := ih0
    simp only [blp] at hv
    by_cases hg : g < 2799
    · rw [if_pos hg] at hv
      by_cases hc : cdA σ.2.1 ge g = nI 6
      · rw [if_pos hc] at hv
        cases hPv : P (live && v) (g + 1) br with
        | none => rw [hPv] at hv; cases hv
        | some q =>
          obtain ⟨w, g2, b2⟩ := q
          rw [hPv] at hv
          dsimp only at hv
          refine ex_aload_n dX12_bothOf_6 rfl rfl ?_
          refine ex_bipushN (nI 6) dX12_bothOf_7 (by decide) ?_
          refine ex_callV0 (dc := 1) (as := [.int _]) dX12_bothOf_9 MX12_passes0 kX12_283 iX12_passes0 sX12_passes0 rfl rfl hm.1 rfl rfl (Nat.le_of_ble_eq_true rfl) (Nat.le_of_ble_eq_true rfl) (by first | decide | omega) (e_passes0 _ (by omega) hge hge2 hm) (fun r h2 q => ?_)
          obtain ⟨rfl, hm, hs2⟩ := q
          have hs := hs.tr hs2
          rw [if_pos hc] at hm
          rw [bN_t hc]
          show Ex _ 0 0 _ _ _ (Value.int _ :: _) _ _
          refine ex_if_eqN 50 dX12_bothOf_12 (by decide) (by first | omega | exact bN_lt) (fun q12 => ?_) (fun q12 => ?_)
          · skip
            exact absurd q12 (by decide)
          · skip
            refine ex_aload_n dX12_bothOf_15 rfl rfl ?_
            refine ex_iload_n dX12_bothOf_16 rfl ?_
            refine ex_if_eqN 28 dX12_bothOf_17 (by decide) (by first | omega | exact bN_lt) (fun q17 => ?_) (fun q17 => ?_)
            · skip
              refine ex_iconstN (nI 0) dX12_bothOf_28 (by decide) ?_
              exact l_bothOfC (z := 0) hd (by first | (rw [bt.mp q17]; rfl) | (rw [bt.mp q21]; cases live <;> rfl) | (rw [bn.mp q21]; cases live <;> rfl)) hP hPv hm hs (fun h2 y x hy hm hs => ih _ _ _ _ _ _ hy hv hm hs)
            · skip
              refine ex_iload_n dX12_bothOf_20 rfl ?_
              refine ex_if_eqN 28 dX12_bothOf_21 (by decide) (by first | omega | exact bN_lt) (fun q21 => ?_) (fun q21 => ?_)
              · skip
                refine ex_iconstN (nI 0) dX12_bothOf_28 (by decide) ?_
                exact l_bothOfC (z := 0) hd (by first | (rw [bt.mp q17]; rfl) | (rw [bt.mp q21]; cases live <;> rfl) | (rw [bn.mp q21]; cases live <;> rfl)) hP hPv hm hs (fun h2 y x hy hm hs => ih _ _ _ _ _ _ hy hv hm hs)
              · skip
                refine ex_iconstN (nI 1) dX12_bothOf_24 (by decide) ?_
                refine ex_goto 29 dX12_bothOf_25 (by decide) ?_
                exact l_bothOfC (z := 1) hd (by first | (rw [bn.mp q17, bn.mp q21]; rfl) | (rw [bn.mp q17, bt.mp q21]; rfl)) hP hPv hm hs (fun h2 y x hy hm hs => ih _ _ _ _ _ _ hy hv hm hs)
      · rw [if_neg hc] at hv
        simp only [Option.some.injEq, Prod.mk.injEq] at hv
        obtain ⟨e1, e2, e3⟩ := hv
        refine ex_aload_n dX12_bothOf_6 rfl rfl ?_
        refine ex_bipushN (nI 6) dX12_bothOf_7 (by decide) ?_
        refine ex_callV0 (dc := 1) (as := [.int _]) dX12_bothOf_9 MX12_passes0 kX12_283 iX12_passes0 sX12_passes0 rfl rfl hm.1 rfl rfl (Nat.le_of_ble_eq_true rfl) (Nat.le_of_ble_eq_true rfl) (by first | decide | omega) (e_passes0 _ (by omega) hge hge2 hm) (fun r h2 q => ?_)
        obtain ⟨rfl, hm, hs2⟩ := q
        have hs := hs.tr hs2
        rw [if_neg hc] at hm
        rw [bN_f hc]
        show Ex _ 0 0 _ _ _ (Value.int _ :: _) _ _
        refine ex_if_eqN 50 dX12_bothOf_12 (by decide) (by first | omega | exact bN_lt) (fun q12 => ?_) (fun q12 => ?_)
        · skip
          refine ex_iload_n dX12_bothOf_50 rfl ?_
          refine ex_zret rfl (by first | exact bN_z | rfl | decide | assumption) dX12_bothOf_51 ?_
          exact ⟨by rw [e1], by rw [← e2, ← e3]; exact hm, hs⟩
        · skip
          exact absurd rfl q12
    · rw [if_neg hg] at hv
      cases hv
set_option maxHeartbeats 400000 in
set_option maxRecDepth 100000 in
theorem ok_bothOf {b : Nat} {σ : am_S} {ge : Nat} {dC d : Nat} {P : Bool → Nat → Bool → EvB} (hge : σ.1 22 = nI ge) (hge2 : ge ≤ 2800) (hd : dC + 1 ≤ d) (hd2 : 2 ≤ d) (hP : OkB mX12_plainOf dC b σ P) : OkB mX12_bothOf d b σ (bov P σ.2.1 ge) := by
  intro live g br v g2 b2 h hv hm
  have hs : Same b h h := Same.rf
  unfold bov at hv
  cases hPv : P live g br with
  | none => rw [hPv] at hv; cases hv
  | some q =>
    obtain ⟨v0, g0, b0⟩ := q
    rw [hPv] at hv
    dsimp only at hv
    refine ex_aload_n dX12_bothOf_0 rfl rfl ?_
    refine ex_iload_n dX12_bothOf_1 rfl ?_
    refine ex_callV0 (dc := dC) (as := [.int _]) dX12_bothOf_2 MX12_plainOf kX12_298 iX12_plainOf sX12_plainOf rfl rfl hm.1 rfl rfl (Nat.le_of_ble_eq_true rfl) (Nat.le_of_ble_eq_true rfl) (by first | decide | omega) (hP _ _ _ _ _ _ _ hPv hm) (fun r h2 q => ?_)
    obtain ⟨rfl, hm, hs2⟩ := q
    have hs := hs.tr hs2
    show Ex _ 0 0 _ _ _ (Value.int _ :: _) _ _
    refine ex_istore_n dX12_bothOf_5 (by decide) ?_
    exact l_bothOf hge hge2 hd hd2 hP _ _ _ _ _ _ _ rfl hv hm hs
set_option maxHeartbeats 400000 in
set_option maxRecDepth 100000 in
theorem l_testOfC {b : Nat} {h0 h : am_H} {σ : am_S} {g g2 z : Nat} {live v w br b2 : Bool} {dC d : Nat} {P : Bool → Nat → Bool → EvB} {x3 : Value} (hd : dC + 1 ≤ d) {Q : Option Value → am_H → Prop} (hz : z = bN ((live && !v) = true)) (hP : OkB mX12_bothOf dC b σ P) (hPv : P (live && !v) g br = some (w, g2, b2)) (hm : Mo b h (evS σ g br)) (hs : Same b h0 h)
    (hk : ∀ (h2 : am_H) (y : Nat) (x : Int32), y = bN ((v || w) = true) → Mo b h2 (evS σ g2 b2) → Same b h0 h2 → Ex d 0 0 mX12_testOf 6 [.ref b, .int (nI (bN (live = true))), .int (nI y), .int x] [] h2 Q) : Ex d 0 0 mX12_testOf 28 [.ref b, .int (nI (bN (live = true))), .int (nI (bN (v = true))), x3] [.int (nI z), .ref b] h Q := by
  subst hz
  refine ex_callV0 (dc := dC) (as := [.int _]) dX12_testOf_28 MX12_bothOf kX12_295 iX12_bothOf sX12_bothOf rfl rfl hm.1 rfl rfl (Nat.le_of_ble_eq_true rfl) (Nat.le_of_ble_eq_true rfl) (by first | decide | omega) (hP _ _ _ _ _ _ _ hPv hm) (fun r h2 q => ?_)
  obtain ⟨rfl, hm, hs2⟩ := q
  have hs := hs.tr hs2
  show Ex _ 0 0 _ _ _ (Value.int _ :: _) _ _
  refine ex_istore_n dX12_testOf_31 (by decide) ?_
  refine ex_iload_n dX12_testOf_32 rfl ?_
  refine ex_if_neN 40 dX12_testOf_33 (by decide) (by first | omega | exact bN_lt) (fun q33 => ?_) (fun q33 => ?_)
  · skip
    refine ex_iconstN (nI 1) dX12_testOf_40 (by decide) ?_
    refine ex_goto 45 dX12_testOf_41 (by decide) ?_
    refine ex_istore_n dX12_testOf_45 (by decide) ?_
    refine ex_goto 6 dX12_testOf_46 (by decide) ?_
    exact hk _ 1 _ (by first | (rw [bn.mp q33, bn.mp q37]; rfl) | (rw [bn.mp q33]; rfl) | (rw [bn.mp q37]; cases v <;> rfl)) hm hs
  · skip
    refine ex_iload_n dX12_testOf_36 rfl ?_
    refine ex_if_eqN 44 dX12_testOf_37 (by decide) (by first | omega | exact bN_lt) (fun q37 => ?_) (fun q37 => ?_)
    · skip
      refine ex_iconstN (nI 0) dX12_testOf_44 (by decide) ?_
      refine ex_istore_n dX12_testOf_45 (by decide) ?_
      refine ex_goto 6 dX12_testOf_46 (by decide) ?_
      exact hk _ 0 _ (by first | (rw [bt.mp q33]; rfl) | (rw [bt.mp q37]; cases v <;> rfl) | (rw [bt.mp q33, bt.mp q37]; rfl)) hm hs
    · skip
      refine ex_iconstN (nI 1) dX12_testOf_40 (by decide) ?_
      refine ex_goto 45 dX12_testOf_41 (by decide) ?_
      refine ex_istore_n dX12_testOf_45 (by decide) ?_
      refine ex_goto 6 dX12_testOf_46 (by decide) ?_
      exact hk _ 1 _ (by first | (rw [bn.mp q33, bn.mp q37]; rfl) | (rw [bn.mp q33]; rfl) | (rw [bn.mp q37]; cases v <;> rfl)) hm hs
set_option maxHeartbeats 400000 in
set_option maxRecDepth 100000 in
theorem l_testOf {b : Nat} {h0 : am_H} {σ : am_S} {ge : Nat} {live : Bool} {dC d : Nat} {P : Bool → Nat → Bool → EvB} (hge : σ.1 22 = nI ge) (hge2 : ge ≤ 2800) (hd : dC + 1 ≤ d) (hd2 : 2 ≤ d) (hP : OkB mX12_bothOf dC b σ P) {vr : Bool} {gr : Nat} {br2 : Bool} : ∀ (f : Nat) (v : Bool) (g : Nat) (br : Bool) (h : am_H) (y : Nat) (x3 : Value), y = bN (v = true) → olp P σ.2.1 ge live f v g br = some (vr, gr, br2) → Mo b h (evS σ g br) → Same b h0 h → Ex d 0 0 mX12_testOf 6 [.ref b, .int (nI (bN (live = true))), .int (nI y), x3] [] h (fun r h2 => r = some (.int (nI (bN (vr = true)))) ∧ Mo b h2 (evS σ gr br2) ∧ Same b h0 h2) := by
  intro f
  induction f with
  | zero => intro v g br h y x3 hy hv; cases hv
  | succ f ih0 =>
    intro v g br h y x3 hy hv hm hs
    subst hy
    have ih : ∀ (v : Bool) (g : Nat) (br : Bool) (h : am_H) (y : Nat) (x3 : Value), y = bN (v = true) → olp P σ.2.1 ge live f v g br = some (vr, gr, br2) → Mo b h (evS σ g br) → Same b h0 h → Ex d 0 0 mX12_testOf 6 [.ref b, .int (nI (bN (live = true))), .int (nI y), x3] [] h (fun r h2 => r = some (.int (nI (bN (vr = true)))) ∧ Mo b h2 (evS σ gr br2) ∧ Same b h0 h2) := ih0
    simp only [olp] at hv
    by_cases hg : g < 2799
    · rw [if_pos hg] at hv
      by_cases hc : cdA σ.2.1 ge g = nI 5
      · rw [if_pos hc] at hv
        cases hPv : P (live && !v) (g + 1) br with
        | none => rw [hPv] at hv; cases hv
        | some q =>
          obtain ⟨w, g2, b2⟩ := q
          rw [hPv] at hv
          dsimp only at hv
          refine ex_aload_n dX12_testOf_6 rfl rfl ?_
          refine ex_iconstN (nI 5) dX12_testOf_7 (by decide) ?_
          refine ex_callV0 (dc := 1) (as := [.int _]) dX12_testOf_8 MX12_passes0 kX12_283 iX12_passes0 sX12_passes0 rfl rfl hm.1 rfl rfl (Nat.le_of_ble_eq_true rfl) (Nat.le_of_ble_eq_true rfl) (by first | decide | omega) (e_passes0 _ (by omega) hge hge2 hm) (fun r h2 q => ?_)
          obtain ⟨rfl, hm, hs2⟩ := q
          have hs := hs.tr hs2
          rw [if_pos hc] at hm
          rw [bN_t hc]
          show Ex _ 0 0 _ _ _ (Value.int _ :: _) _ _
          refine ex_if_eqN 49 dX12_testOf_11 (by decide) (by first | omega | exact bN_lt) (fun q11 => ?_) (fun q11 => ?_)
          · skip
            exact absurd q11 (by decide)
          · skip
            refine ex_aload_n dX12_testOf_14 rfl rfl ?_
            refine ex_iload_n dX12_testOf_15 rfl ?_
            refine ex_if_eqN 27 dX12_testOf_16 (by decide) (by first | omega | exact bN_lt) (fun q16 => ?_) (fun q16 => ?_)
            · skip
              refine ex_iconstN (nI 0) dX12_testOf_27 (by decide) ?_
              exact l_testOfC (z := 0) hd (by first | (rw [bt.mp q16]; rfl) | (rw [bt.mp q20]; cases live <;> rfl) | (rw [bn.mp q20]; cases live <;> rfl)) hP hPv hm hs (fun h2 y x hy hm hs => ih _ _ _ _ _ _ hy hv hm hs)
            · skip
              refine ex_iload_n dX12_testOf_19 rfl ?_
              refine ex_if_neN 27 dX12_testOf_20 (by decide) (by first | omega | exact bN_lt) (fun q20 => ?_) (fun q20 => ?_)
              · skip
                refine ex_iconstN (nI 0) dX12_testOf_27 (by decide) ?_
                exact l_testOfC (z := 0) hd (by first | (rw [bt.mp q16]; rfl) | (rw [bt.mp q20]; cases live <;> rfl) | (rw [bn.mp q20]; cases live <;> rfl)) hP hPv hm hs (fun h2 y x hy hm hs => ih _ _ _ _ _ _ hy hv hm hs)
              · skip
                refine ex_iconstN (nI 1) dX12_testOf_23 (by decide) ?_
                refine ex_goto 28 dX12_testOf_24 (by decide) ?_
                exact l_testOfC (z := 1) hd (by first | (rw [bn.mp q16, bn.mp q20]; rfl) | (rw [bn.mp q16, bt.mp q20]; rfl)) hP hPv hm hs (fun h2 y x hy hm hs => ih _ _ _ _ _ _ hy hv hm hs)
      · rw [if_neg hc] at hv
        simp only [Option.some.injEq, Prod.mk.injEq] at hv
        obtain ⟨e1, e2, e3⟩ := hv
        refine ex_aload_n dX12_testOf_6 rfl rfl ?_
        refine ex_iconstN (nI 5) dX12_testOf_7 (by decide) ?_
        refine ex_callV0 (dc := 1) (as := [.int _]) dX12_testOf_8 MX12_passes0 kX12_283 iX12_passes0 sX12_passes0 rfl rfl hm.1 rfl rfl (Nat.le_of_ble_eq_true rfl) (Nat.le_of_ble_eq_true rfl) (by first | decide | omega) (e_passes0 _ (by omega) hge hge2 hm) (fun r h2 q => ?_)
        obtain ⟨rfl, hm, hs2⟩ := q
        have hs := hs.tr hs2
        rw [if_neg hc] at hm
        rw [bN_f hc]
        show Ex _ 0 0 _ _ _ (Value.int _ :: _) _ _
        refine ex_if_eqN 49 dX12_testOf_11 (by decide) (by first | omega | exact bN_lt) (fun q11 => ?_) (fun q11 => ?_)
        · skip
          refine ex_iload_n dX12_testOf_49 rfl ?_
          refine ex_zret rfl (by first | exact bN_z | rfl | decide | assumption) dX12_testOf_50 ?_
          exact ⟨by rw [e1], by rw [← e2, ← e3]; exact hm, hs⟩
        · skip
          exact absurd rfl q11
    · rw [if_neg hg] at hv
      cases hv
set_option maxHeartbeats 400000 in
set_option maxRecDepth 100000 in
theorem ok_testOf {b : Nat} {σ : am_S} {ge : Nat} {dC d : Nat} {P : Bool → Nat → Bool → EvB} (hge : σ.1 22 = nI ge) (hge2 : ge ≤ 2800) (hd : dC + 1 ≤ d) (hd2 : 2 ≤ d) (hP : OkB mX12_bothOf dC b σ P) : OkB mX12_testOf d b σ (tev P σ.2.1 ge) := by
  intro live g br v g2 b2 h hv hm
  have hs : Same b h h := Same.rf
  unfold tev at hv
  cases hPv : P live g br with
  | none => rw [hPv] at hv; cases hv
  | some q =>
    obtain ⟨v0, g0, b0⟩ := q
    rw [hPv] at hv
    dsimp only at hv
    refine ex_aload_n dX12_testOf_0 rfl rfl ?_
    refine ex_iload_n dX12_testOf_1 rfl ?_
    refine ex_callV0 (dc := dC) (as := [.int _]) dX12_testOf_2 MX12_bothOf kX12_295 iX12_bothOf sX12_bothOf rfl rfl hm.1 rfl rfl (Nat.le_of_ble_eq_true rfl) (Nat.le_of_ble_eq_true rfl) (by first | decide | omega) (hP _ _ _ _ _ _ _ hPv hm) (fun r h2 q => ?_)
    obtain ⟨rfl, hm, hs2⟩ := q
    have hs := hs.tr hs2
    show Ex _ 0 0 _ _ _ (Value.int _ :: _) _ _
    refine ex_istore_n dX12_testOf_5 (by decide) ?_
    exact l_testOf hge hge2 hd hd2 hP _ _ _ _ _ _ _ rfl hv hm hs
