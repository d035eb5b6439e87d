/-! THE REFERENCE: a heap taken up; its steps kept; asked of -/
/-- heap j, of m cards, as what is kept tells it -/
def hpo (K : Nat → Int32) (j m : Nat) : Po := (fun i => K (16 * j + 3 + i), m, K (16 * j + 2), nI j)
def Bo (σ : am_S) : Prop := ∃ br : Bool, σ.1 23 = nI (bN (br = true))
abbrev FX : List Nat := [21, 22, 23, 24, 25, 26, 31, 32, 33, 35, 36, 41, 43, 44, 57]
abbrev RX : List Nat := [11, 13, 14, 15, 18, 19, 20]
theorem e_takes2 {b : Nat} {h : am_H} {σ : am_S} {j m : Nat} (hj : j < 6) (hmj : σ.2.1 1 (16 * j) = nI m) (h1 : 1 ≤ m) (h13 : m ≤ 13) (hb : Bo σ) (hm : Mo b h σ) : Ex 2 0 0 mX12_takes 0 (am_en [.ref b, .int (nI j)] 3) [] h (fun r h2 => r = none ∧ ∃ σ2, Mo b h2 σ2 ∧ Lk [31, 32, 33] [13] σ σ2 ∧ Ps σ2 m ∧ eqp (po σ2 m) (hpo (σ.2.1 1) j m) ∧ Same b h h2) := by
  refine (e_takes j hj hm).mono (fun r h2 q => ⟨q.1, _, q.2.1, ?_, ⟨hmj, h1, h13, hb⟩, ⟨fun i hi => ?_, rfl, h1, h13⟩, q.2.2⟩)
  · exact (Lk.up (F := [31, 32, 33]) (R := [13]) (σ := σ) (k := 31) (by decide)).tr ((Lk.up (F := [31, 32, 33]) (R := [13]) (k := 32) (by decide)).tr ((Lk.up (F := [31, 32, 33]) (R := [13]) (k := 33) (by decide)).tr (Lk.rw (F := [31, 32, 33]) (R := [13]) (k := 13) (by decide))))
  · show fill (σ.2.1 13) 0 13 (fun i => σ.2.1 1 (16 * j + 3 + i)) i = _
    rw [fill_in (by omega) (by omega)]
    rfl
theorem Lk.bu {F R : List Nat} {σ τ : am_S} (p : Lk F R σ τ) (k : Nat) (x : Int32) : Lk F R (upd σ.1 k x, σ.2) (upd τ.1 k x, τ.2) := ⟨fun j hj => by
  show upd τ.1 k x j = upd σ.1 k x j
  by_cases e : j = k
  · subst e; rw [pk_us, pk_us]
  · rw [pk_un e, pk_un e]; exact p.1 j hj, p.2⟩
theorem Lk.br {F R : List Nat} {σ τ : am_S} (p : Lk F R σ τ) (k : Nat) (f : Nat → Int32) : Lk F R (σ.1, rs σ.2.1 k f, σ.2.2) (τ.1, rs τ.2.1 k f, τ.2.2) := ⟨p.1, fun j hj => by
  show rs τ.2.1 k f j = rs σ.2.1 k f j
  by_cases e : j = k
  · subst e; rw [rs_at, rs_at]
  · rw [rs_ne e, rs_ne e]; exact p.2.1 j hj, p.2.2⟩
theorem Ps.bo {σ : am_S} {m : Nat} (h : Ps σ m) : Bo σ := h.2.2.2
theorem Lk.bo {F R : List Nat} {σ τ : am_S} (p : Lk F R σ τ) (h : 23 ∉ F) (hb : Bo σ) : Bo τ := by obtain ⟨br, e⟩ := hb; exact ⟨br, (p.1 23 h).trans e⟩
def clp (x : Int32) : Int32 := if nI 9999 < x + nI 1 then nI 9999 else x + nI 1
/-- what is kept behind a step of heap j -/
def stK (K : Nat → Int32) (j m : Nat) : Nat → Int32 := upd (upd (fill K (16 * j + 3) 13 (stp K (hpo K j m)).1) (16 * j + 2) (stp K (hpo K j m)).2.2.1) (16 * j + 1) (clp (K (16 * j + 1)))
theorem fill_q {f s s2 : Nat → Int32} {off k : Nat} (h : ∀ i, i < k → s i = s2 i) : fill f off k s = fill f off k s2 := by
  funext i
  unfold fill
  by_cases e : off ≤ i ∧ i < off + k
  · rw [if_pos e, if_pos e]; exact h _ (by omega)
  · rw [if_neg e, if_neg e]
set_option maxHeartbeats 400000 in
set_option maxRecDepth 100000 in
theorem e_stepsKept {b : Nat} {h : am_H} {σ : am_S} {n j m : Nat} (hn : σ.2.1 1 96 = nI n) (hn6 : n ≤ 6) (hj : j < n) (hmj : σ.2.1 1 (16 * j) = nI m) (hm1 : 1 ≤ m) (hm13 : m ≤ 13) (hw : WK (σ.2.1 1)) (hb : Bo σ) {u : Nat} (hu : u ≤ 16) (h39 : σ.1 39 = nI u) (hc : cstv (σ.2.1 1) (hpo (σ.2.1 1) j m) = true) (hm : Mo b h σ) : Ex 74 0 0 mX12_stepsKept 0 (am_en [.ref b, .int (nI j)] 3) [] h (fun r h2 => r = some (.int (clp (σ.2.1 1 (16 * j + 1)))) ∧ ∃ σ2, Mo b h2 σ2 ∧ Lk FX RX ((kps σ u (nI 0)).1, rs (kps σ u (nI 0)).2.1 1 (stK (σ.2.1 1) j m), σ.2.2) σ2 ∧ Bo σ2 ∧ Same b h h2) := by
  have hs : Same b h h := Same.rf
  have hcs : canv (trnv (σ.2.1 1) (hpo (σ.2.1 1) j m)) m = false ∧ canv (snkv (σ.2.1 1) (hpo (σ.2.1 1) j m)) m = false := by
    have hc2 := Bool.and_eq_true_iff.mp hc
    exact stk_no (p := (hpo (σ.2.1 1) j m)) (by simpa using hc2.1) (by simpa using hc2.2)
  refine ex_aload_n dX12_stepsKept_0 rfl rfl ?_
  refine ex_iload_n dX12_stepsKept_1 rfl ?_
  refine ex_callV0 (dc := 1) (as := [.int _]) dX12_stepsKept_2 MX12_isHeap kX12_122 iX12_isHeap sX12_isHeap rfl rfl hm.1 rfl rfl (Nat.le_of_ble_eq_true rfl) (Nat.le_of_ble_eq_true rfl) (by first | decide | omega) (e_isHeap _ hn hn6 hm) (fun r h2 q => ?_)
  obtain ⟨rfl, rfl⟩ := q
  show Ex _ 0 0 _ _ _ (Value.int _ :: _) _ _
  rw [bN_t ⟨by rw [nI_toInt (by omega)]; omega, by rw [nI_toInt (by omega)]; omega⟩]
  refine ex_if_neN 11 dX12_stepsKept_5 (by decide) (by first | omega | exact bN_lt) (fun q5 => ?_) (fun q5 => ?_)
  · skip
    refine ex_aload_n dX12_stepsKept_11 rfl rfl ?_
    refine ex_iload_n dX12_stepsKept_12 rfl ?_
    refine ex_callV0 (dc := 2) (as := [.int _]) dX12_stepsKept_13 MX12_takes kX12_126 iX12_takes sX12_takes rfl rfl hm.1 rfl rfl (Nat.le_of_ble_eq_true rfl) (Nat.le_of_ble_eq_true rfl) (by first | decide | omega) (e_takes2 (by omega) hmj hm1 hm13 hb hm) (fun r h2 q => ?_)
    obtain ⟨rfl, σ1, hm, hl1, hp, eq1, hs2⟩ := q
    have hs := hs.tr hs2
    have eK1 : σ1.2.1 1 = σ.2.1 1 := hl1.2.1 1 (by decide)
    show Ex _ 0 0 _ _ _ _ _ _
    refine ex_aload_n dX12_stepsKept_16 rfl rfl ?_
    refine ex_callV0 (dc := 73) (as := []) dX12_stepsKept_17 MX12_canStep kX12_350 iX12_canStep sX12_canStep rfl rfl hm.1 rfl rfl (Nat.le_of_ble_eq_true rfl) (Nat.le_of_ble_eq_true rfl) (by first | decide | omega) (e_canStep (by rw [eK1]; exact hw) hp hm) (fun r h2 q => ?_)
    obtain ⟨rfl, σ2, hm, hl2, hp, hs2⟩ := q
    have hs := hs.tr hs2
    rw [eK1, cstv_q eq1]
    have eK2 : σ2.2.1 1 = σ.2.1 1 := (kp_eq hl2).trans eK1
    have eq2 : eqp (po σ2 m) (hpo (σ.2.1 1) j m) := by rw [po_eq hl2]; exact eq1
    have hl : Lk FX RX σ σ2 := (hl1.mono (by decide) (by decide)).tr (hl2.mono (by decide) (by decide))
    show Ex _ 0 0 _ _ _ (Value.int _ :: _) _ _
    rw [hc]
    refine ex_if_neN 26 dX12_stepsKept_20 (by decide) (by first | omega | exact bN_lt) (fun q20 => ?_) (fun q20 => ?_)
    · skip
      refine ex_aload_n dX12_stepsKept_26 rfl rfl ?_
      refine ex_iconstN (nI 0) dX12_stepsKept_27 (by decide) ?_
      refine ex_callV0 (dc := 0) (as := [.int _]) dX12_stepsKept_28 MX12_keeps kX12_356 iX12_keeps sX12_keeps rfl rfl hm.1 rfl rfl (Nat.le_of_ble_eq_true rfl) (Nat.le_of_ble_eq_true rfl) (by first | decide | omega) (e_keeps2 _ hu (show σ2.1 39 = nI u from (hl.1 39 (by decide)).trans h39) hm) (fun r h2 q => ?_)
      obtain ⟨rfl, hm, hs2⟩ := q
      have hs := hs.tr hs2
      show Ex _ 0 0 _ _ _ _ _ _
      refine ex_aload_n dX12_stepsKept_31 rfl rfl ?_
      refine ex_callV0 (dc := 72) (as := []) dX12_stepsKept_32 MX12_steps kX12_343 iX12_steps sX12_steps rfl rfl hm.1 rfl rfl (Nat.le_of_ble_eq_true rfl) (Nat.le_of_ble_eq_true rfl) (by first | decide | omega) (e_steps (σ := kps σ2 u (nI 0)) (m := m) (by show WK (σ2.2.1 1); rw [eK2]; exact hw) ⟨hp.1, hp.2.1, hp.2.2.1, hp.2.2.2⟩ (by show canv (trnv (σ2.2.1 1) (po σ2 m)) m = false; rw [eK2, trnv_q eq2]; exact hcs.1) (by show canv (snkv (σ2.2.1 1) (po σ2 m)) m = false; rw [eK2, snkv_q eq2]; exact hcs.2) hm) (fun r h2 q => ?_)
      obtain ⟨rfl, σ3, hm, hl3, hp3, eP3, hs2⟩ := q
      have hs := hs.tr hs2
      have eP3 : po σ3 m = stp (σ2.2.1 1) (po σ2 m) := eP3
      have eq3 : eqp (po σ3 m) (stp (σ.2.1 1) (hpo (σ.2.1 1) j m)) := by rw [eP3, eK2]; exact stp_q eq2
      have eK3 : σ3.2.1 1 = σ.2.1 1 := (wk_eq hl3 (by decide)).trans eK2
      show Ex _ 0 0 _ _ _ _ _ _
      refine ex_aload_n dX12_stepsKept_35 rfl rfl ?_
      refine ex_iload_n dX12_stepsKept_36 rfl ?_
      refine ex_callV0 (dc := 1) (as := [.int _]) dX12_stepsKept_37 MX12_puts kX12_359 iX12_puts sX12_puts rfl rfl hm.1 rfl rfl (Nat.le_of_ble_eq_true rfl) (Nat.le_of_ble_eq_true rfl) (by first | decide | omega) (e_puts j (by omega) hm) (fun r h2 q => ?_)
      obtain ⟨rfl, hm, hs2⟩ := q
      have hs := hs.tr hs2
      have hm : Mo b h2 (σ3.1, rs σ3.2.1 1 (upd (fill (σ.2.1 1) (16 * j + 3) 13 (stp (σ.2.1 1) (hpo (σ.2.1 1) j m)).1) (16 * j + 2) (stp (σ.2.1 1) (hpo (σ.2.1 1) j m)).2.2.1), σ3.2.2) := by
        rw [eK3, show σ3.1 32 = (stp (σ.2.1 1) (hpo (σ.2.1 1) j m)).2.2.1 from congrArg (fun z => z.2.1) eq3.2.1, fill_q (s := σ3.2.1 13) (s2 := (stp (σ.2.1 1) (hpo (σ.2.1 1) j m)).1) eq3.1] at hm
        exact hm
      show Ex _ 0 0 _ _ _ _ _ _
      refine ex_iload_n dX12_stepsKept_40 rfl ?_
      refine ex_callS0 (dc := 0) (as := [.int _]) dX12_stepsKept_41 MX12_placeOf kX12_112 tX12_placeOf rfl rfl (Nat.le_of_ble_eq_true rfl) (Nat.le_of_ble_eq_true rfl) (by first | decide | omega) (e_placeOf _ _) (fun r h2 q => ?_)
      obtain ⟨rfl, rfl⟩ := q
      show Ex _ 0 0 _ _ _ (Value.int _ :: _) _ _
      rw [pl_nI]
      refine ex_iconstN (nI 1) dX12_stepsKept_44 (by decide) ?_
      refine ex_iaddN dX12_stepsKept_45 ?_
      refine ex_istore_n dX12_stepsKept_46 (by decide) ?_
      refine ex_aload_n dX12_stepsKept_47 rfl rfl ?_
      refine ex_getf fX12_24 dX12_stepsKept_48 hm.1 rfl ?_
      refine ex_iload_n dX12_stepsKept_51 rfl ?_
      refine ex_sipushN (nI 9999) dX12_stepsKept_52 (by decide) ?_
      refine ex_aload_n dX12_stepsKept_55 rfl rfl ?_
      refine ex_getf fX12_24 dX12_stepsKept_56 hm.1 rfl ?_
      refine ex_iload_n dX12_stepsKept_59 rfl ?_
      refine m_aldv hm dX12_stepsKept_60 (by decide) (by decide) rfl (by show _ < 5725; first | omega | exact bN_lt) ((show upd (fill (σ.2.1 1) (16 * j + 3) 13 (stp (σ.2.1 1) (hpo (σ.2.1 1) j m)).1) (16 * j + 2) (stp (σ.2.1 1) (hpo (σ.2.1 1) j m)).2.2.1 (16 * j + 1) = σ.2.1 1 (16 * j + 1) by rw [pk_un (by omega), fill_out (by omega)])) ?_
      refine ex_iconstN (nI 1) dX12_stepsKept_61 (by decide) ?_
      refine ex_iadd dX12_stepsKept_62 ?_
      refine ex_callS0 (dc := 0) (as := [.int _, .int _]) dX12_stepsKept_63 MX12_lesser kX12_362 tX12_lesser rfl rfl (Nat.le_of_ble_eq_true rfl) (Nat.le_of_ble_eq_true rfl) (by first | decide | omega) (e_lesser _ _ _) (fun r h2 q => ?_)
      obtain ⟨rfl, rfl⟩ := q
      show Ex _ 0 0 _ _ _ (Value.int _ :: _) _ _
      refine m_astR hm hs dX12_stepsKept_66 (by decide) (by decide) rfl (by show _ < 5725; first | omega | exact bN_lt) (fun h1 hm hs => ?_)
      refine ex_aload_n dX12_stepsKept_67 rfl rfl ?_
      refine ex_getf fX12_24 dX12_stepsKept_68 hm.1 rfl ?_
      refine ex_iload_n dX12_stepsKept_71 rfl ?_
      refine m_aldv hm dX12_stepsKept_72 (by decide) (by decide) rfl (by show _ < 5725; first | omega | exact bN_lt) (pk_us) ?_
      refine ex_iret rfl dX12_stepsKept_73 ?_
      refine ⟨rfl, _, hm, ?_, ⟨hp3.bo.choose, hp3.bo.choose_spec⟩, hs⟩
      have hx : Lk FX RX (kps σ u (nI 0)) σ3 := Lk.tr (σ1 := kps σ2 u (nI 0)) (by
        unfold kps
        rw [hl.2.1 16 (by decide), eK2]
        exact (hl.bu 39 _).br 16 _) (hl3.mono (by decide) (by decide))
      exact hx.br 1 _
    · skip
      exact absurd q20 (by decide)
  · skip
    exact absurd q5 (by decide)
set_option maxHeartbeats 400000 in
set_option maxRecDepth 100000 in
theorem e_stepsKept_no {b : Nat} {h : am_H} {σ : am_S} {n j m : Nat} (hn : σ.2.1 1 96 = nI n) (hn6 : n ≤ 6) (hj : j < n) (hmj : σ.2.1 1 (16 * j) = nI m) (hm1 : 1 ≤ m) (hm13 : m ≤ 13) (hw : WK (σ.2.1 1)) (hb : Bo σ) (hc : cstv (σ.2.1 1) (hpo (σ.2.1 1) j m) = false) (hm : Mo b h σ) : Ex 74 0 0 mX12_stepsKept 0 (am_en [.ref b, .int (nI j)] 3) [] h (fun r h2 => r = some (.int (-3)) ∧ ∃ σ2, Mo b h2 σ2 ∧ Lk FX RX σ σ2 ∧ Bo σ2 ∧ Same b h h2) := by
  have hs : Same b h h := Same.rf
  refine ex_aload_n dX12_stepsKept_0 rfl rfl ?_
  refine ex_iload_n dX12_stepsKept_1 rfl ?_
  refine ex_callV0 (dc := 1) (as := [.int _]) dX12_stepsKept_2 MX12_isHeap kX12_122 iX12_isHeap sX12_isHeap rfl rfl hm.1 rfl rfl (Nat.le_of_ble_eq_true rfl) (Nat.le_of_ble_eq_true rfl) (by first | decide | omega) (e_isHeap _ hn hn6 hm) (fun r h2 q => ?_)
  obtain ⟨rfl, rfl⟩ := q
  show Ex _ 0 0 _ _ _ (Value.int _ :: _) _ _
  rw [bN_t ⟨by rw [nI_toInt (by omega)]; omega, by rw [nI_toInt (by omega)]; omega⟩]
  refine ex_if_neN 11 dX12_stepsKept_5 (by decide) (by first | omega | exact bN_lt) (fun q5 => ?_) (fun q5 => ?_)
  · skip
    refine ex_aload_n dX12_stepsKept_11 rfl rfl ?_
    refine ex_iload_n dX12_stepsKept_12 rfl ?_
    refine ex_callV0 (dc := 2) (as := [.int _]) dX12_stepsKept_13 MX12_takes kX12_126 iX12_takes sX12_takes rfl rfl hm.1 rfl rfl (Nat.le_of_ble_eq_true rfl) (Nat.le_of_ble_eq_true rfl) (by first | decide | omega) (e_takes2 (by omega) hmj hm1 hm13 hb hm) (fun r h2 q => ?_)
    obtain ⟨rfl, σ1, hm, hl1, hp, eq1, hs2⟩ := q
    have hs := hs.tr hs2
    have eK1 : σ1.2.1 1 = σ.2.1 1 := hl1.2.1 1 (by decide)
    show Ex _ 0 0 _ _ _ _ _ _
    refine ex_aload_n dX12_stepsKept_16 rfl rfl ?_
    refine ex_callV0 (dc := 73) (as := []) dX12_stepsKept_17 MX12_canStep kX12_350 iX12_canStep sX12_canStep rfl rfl hm.1 rfl rfl (Nat.le_of_ble_eq_true rfl) (Nat.le_of_ble_eq_true rfl) (by first | decide | omega) (e_canStep (by rw [eK1]; exact hw) hp hm) (fun r h2 q => ?_)
    obtain ⟨rfl, σ2, hm, hl2, hp, hs2⟩ := q
    have hs := hs.tr hs2
    rw [eK1, cstv_q eq1]
    have eK2 : σ2.2.1 1 = σ.2.1 1 := (kp_eq hl2).trans eK1
    have eq2 : eqp (po σ2 m) (hpo (σ.2.1 1) j m) := by rw [po_eq hl2]; exact eq1
    have hl : Lk FX RX σ σ2 := (hl1.mono (by decide) (by decide)).tr (hl2.mono (by decide) (by decide))
    show Ex _ 0 0 _ _ _ (Value.int _ :: _) _ _
    rw [hc]
    refine ex_if_neN 26 dX12_stepsKept_20 (by decide) (by first | omega | exact bN_lt) (fun q20 => ?_) (fun q20 => ?_)
    · skip
      exact absurd rfl q20
    · skip
      refine ex_bipushN (-3) dX12_stepsKept_23 (by decide) ?_
      refine ex_iret rfl dX12_stepsKept_25 ?_
      exact ⟨rfl, _, hm, hl, hp.bo, hs⟩
  · skip
    exact absurd q5 (by decide)
set_option maxHeartbeats 400000 in
set_option maxRecDepth 100000 in
theorem e_stepsKept_noheap {b : Nat} {h : am_H} {σ : am_S} {n : Nat} {x : Int32} (hn : σ.2.1 1 96 = nI n) (hn6 : n ≤ 6) (hx : ¬ inN x n) (hm : Mo b h σ) : Ex 2 0 0 mX12_stepsKept 0 (am_en [.ref b, .int x] 3) [] h (fun r h2 => r = some (.int (-2)) ∧ h2 = h) := by
  have hs : Same b h h := Same.rf
  refine ex_aload_n dX12_stepsKept_0 rfl rfl ?_
  refine ex_iload_n dX12_stepsKept_1 rfl ?_
  refine ex_callV0 (dc := 1) (as := [.int _]) dX12_stepsKept_2 MX12_isHeap kX12_122 iX12_isHeap sX12_isHeap rfl rfl hm.1 rfl rfl (Nat.le_of_ble_eq_true rfl) (Nat.le_of_ble_eq_true rfl) (by first | decide | omega) (e_isHeap _ hn hn6 hm) (fun r h2 q => ?_)
  obtain ⟨rfl, rfl⟩ := q
  show Ex _ 0 0 _ _ _ (Value.int _ :: _) _ _
  rw [bN_f hx]
  refine ex_if_neN 11 dX12_stepsKept_5 (by decide) (by omega) (fun q5 => ?_) (fun q5 => ?_)
  · skip
    exact absurd rfl q5
  · skip
    refine ex_bipushN (-2) dX12_stepsKept_8 (by decide) ?_
    refine ex_iret rfl dX12_stepsKept_10 ?_
    exact ⟨rfl, rfl⟩
