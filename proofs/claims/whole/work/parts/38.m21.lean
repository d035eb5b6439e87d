/-! THE REFERENCE: one step, how long it goes on -/
abbrev FS : List Nat := [21, 22, 23, 24, 25, 26, 32]
theorem Lk.up {F R : List Nat} {σ : am_S} {k : Nat} {x : Int32} (hk : k ∈ F) : Lk F R σ (upd σ.1 k x, σ.2) := ⟨fun j hj => pk_un (fun z => hj (by rw [z]; exact hk)), fun _ _ => rfl, rfl⟩
theorem Lk.rw {F R : List Nat} {σ : am_S} {k : Nat} {f : Nat → Int32} (hk : k ∈ R) : Lk F R σ (σ.1, rs σ.2.1 k f, σ.2.2) := ⟨fun _ _ => rfl, fun j hj => rs_ne (fun z => hj (by rw [z]; exact hk)), rfl⟩
theorem fill_fill (f g s : Nat → Int32) (m : Nat) : fill f 0 m (fill g 0 m s) = fill f 0 m s := by
  funext i
  unfold fill
  by_cases h : 0 ≤ i ∧ i < 0 + m
  · rw [if_pos h, if_pos h, if_pos (by omega)]; rfl
  · rw [if_neg h, if_neg h]
def skc (c : Nat → Int32) (m d : Nat) : Nat → Int32 := fill c 0 m (fun i => c ((i + d) % m))
def stp (K : Nat → Int32) (p : Po) : Po := (skc (rv p.1 (min 13 (trnv K p).toInt.toNat)) p.2.1 (snkv K p).toInt.toNat, p.2.1, nI (trnv K p).toInt.toNat, p.2.2.2)
theorem tsm {t : Int64} {m : Nat} (h : canv t m = false) (hm : m ≤ 13) : t.toInt32 = nI t.toInt.toNat ∧ t.toInt.toNat ≤ m := by
  unfold canv at h
  rw [Bool.or_eq_false_iff, decide_eq_false_iff_not, decide_eq_false_iff_not, Int64.lt_iff_toInt_lt, Int64.lt_iff_toInt_lt, Int32.toInt_toInt64, nI_toInt (by omega)] at h
  obtain ⟨h1, h2⟩ := h
  have h0 : (0 : Int64).toInt = 0 := by decide
  rw [h0] at h1
  refine ⟨Int32.toInt_inj.mp ?_, by omega⟩
  rw [nI_toInt (by omega), Int64.toInt_toInt32, Int.bmod_def]
  omega
theorem stk_no {K : Nat → Int32} {p : Po} (h1 : endv K p = false) (h2 : stkv K p = false) : canv (trnv K p) p.2.1 = false ∧ canv (snkv K p) p.2.1 = false := by
  unfold stkv at h2
  rw [h1] at h2
  exact Bool.or_eq_false_iff.mp h2
set_option maxHeartbeats 400000 in
set_option maxRecDepth 100000 in
theorem e_steps {b : Nat} {h : am_H} {σ : am_S} {m : Nat} (hw : WK (σ.2.1 1)) (hp : Ps σ m) (ht : canv (trnv (σ.2.1 1) (po σ m)) m = false) (hd : canv (snkv (σ.2.1 1) (po σ m)) m = false) (hm : Mo b h σ) : Ex 72 0 0 mX12_steps 0 (am_en [.ref b] 3) [] h (fun r h2 => r = none ∧ ∃ σ2, Mo b h2 σ2 ∧ Lk FS [11, 13, 14] σ σ2 ∧ Ps σ2 m ∧ po σ2 m = stp (σ.2.1 1) (po σ m) ∧ Same b h h2) := by
  have hs : Same b h h := Same.rf
  have hl : Lk FT [11] σ σ := Lk.rf
  have hm13 := hp.2.2.1
  obtain ⟨et, ht2⟩ := tsm ht hm13
  obtain ⟨ed, hd2⟩ := tsm hd hm13
  generalize ht0 : (trnv (σ.2.1 1) (po σ m)).toInt.toNat = t at et ht2
  generalize hd0 : (snkv (σ.2.1 1) (po σ m)).toInt.toNat = d at ed hd2
  refine ex_aload_n dX12_steps_0 rfl rfl ?_
  refine ex_callV0 (dc := 71) (as := []) dX12_steps_1 MX12_turnsBy kX12_143 iX12_turnsBy sX12_turnsBy rfl rfl hm.1 rfl rfl (Nat.le_of_ble_eq_true rfl) (Nat.le_of_ble_eq_true rfl) (by first | decide | omega) (e_turnsBy (by rw [kp_eq hl]; exact hw) hp hm) (fun r h2 q => ?_)
  obtain ⟨rfl, σ1, hm, hk, hp, hs2⟩ := q
  have hs := hs.tr hs2
  rw [po_eq hl, kp_eq hl]
  have hl := hl.tr hk
  show Ex _ 0 0 _ _ _ (Value.long _ :: _) _ _
  refine ex_l2i dX12_steps_4 ?_
  rw [et]
  refine ex_istore_n dX12_steps_5 (by decide) ?_
  refine ex_aload_n dX12_steps_6 rfl rfl ?_
  refine ex_callV0 (dc := 71) (as := []) dX12_steps_7 MX12_sinksBy kX12_151 iX12_sinksBy sX12_sinksBy rfl rfl hm.1 rfl rfl (Nat.le_of_ble_eq_true rfl) (Nat.le_of_ble_eq_true rfl) (by first | decide | omega) (e_sinksBy (by rw [kp_eq hl]; exact hw) hp hm) (fun r h2 q => ?_)
  obtain ⟨rfl, σ2, hm, hk, hp, hs2⟩ := q
  have hs := hs.tr hs2
  rw [po_eq hl, kp_eq hl]
  have hl := hl.tr hk
  show Ex _ 0 0 _ _ _ (Value.long _ :: _) _ _
  refine ex_l2i dX12_steps_10 ?_
  rw [ed]
  refine ex_istore_n dX12_steps_11 (by decide) ?_
  refine ex_aload_n dX12_steps_12 rfl rfl ?_
  refine ex_iload_n dX12_steps_13 rfl ?_
  refine ex_callV0 (dc := 0) (as := [.int _]) dX12_steps_14 MX12_turns kX12_327 iX12_turns sX12_turns rfl rfl hm.1 rfl rfl (Nat.le_of_ble_eq_true rfl) (Nat.le_of_ble_eq_true rfl) (by first | decide | omega) (e_turns _ (by omega) hm) (fun r h2 q => ?_)
  obtain ⟨rfl, hm, hs2⟩ := q
  have hs := hs.tr hs2
  show Ex _ 0 0 _ _ _ _ _ _
  refine ex_aload_n dX12_steps_17 rfl rfl ?_
  refine ex_iload_n dX12_steps_18 rfl ?_
  refine ex_callV0 (dc := 0) (as := [.int _]) dX12_steps_19 MX12_sinks kX12_330 iX12_sinks sX12_sinks rfl rfl hm.1 rfl rfl (Nat.le_of_ble_eq_true rfl) (Nat.le_of_ble_eq_true rfl) (by first | decide | omega) (e_sinks _ _ (by exact hp.1) hm13 (by omega) hm) (fun r h2 q => ?_)
  obtain ⟨rfl, hm, hs2⟩ := q
  have hs := hs.tr hs2
  show Ex _ 0 0 _ _ _ _ _ _
  refine ex_aload_n dX12_steps_22 rfl rfl ?_
  refine ex_iload_n dX12_steps_23 rfl ?_
  refine m_put hm hs pX12_133 dX12_steps_24 (by decide) (ms32 _ _ _) (fun h1 hm hs => ?_)
  refine ex_vret rfl dX12_steps_27 ?_
  refine ⟨rfl, _, hm, ?_, ⟨hp.1, hp.2.1, hp.2.2.1, hp.2.2.2⟩, ?_, hs⟩
  · exact (hl.mono (by decide) (by decide)).tr ((Lk.rw (F := FS) (R := [11, 13, 14]) (σ := σ2) (k := 13) (by decide)).tr ((Lk.rw (F := FS) (R := [11, 13, 14]) (k := 14) (by decide)).tr ((Lk.rw (F := FS) (R := [11, 13, 14]) (k := 13) (by decide)).tr (Lk.up (F := FS) (R := [11, 13, 14]) (k := 32) (by decide)))))
  · show (fill (rv (σ2.2.1 13) t) 0 m (fill (σ2.2.1 14) 0 m (fun i => rv (σ2.2.1 13) t ((i + d) % m))), m, nI t, σ2.1 33) = stp (σ.2.1 1) (po σ m)
    rw [fill_fill, hl.2.1 13 (by decide), hl.1 33 (by decide)]
    unfold stp
    rw [ht0, hd0, show min 13 t = t by omega]
    rfl
def alq : Nat → (Nat → Bool) → Bool
  | 0, _ => true
  | k + 1, P => alq k P && P k
theorem alq_no {P : Nat → Bool} {k m : Nat} (h : alq k P = false) (hk : k ≤ m) : alq m P = false := by
  induction m with
  | zero => obtain rfl : k = 0 := by omega
            exact h
  | succ m ih =>
    by_cases e : k = m + 1
    · subst e; exact h
    · show (alq m P && P m) = false
      rw [ih (by omega)]; rfl
theorem alq_iff {P : Nat → Bool} {m : Nat} : alq m P = true ↔ ∀ k, k < m → P k = true := by
  induction m with
  | zero => exact ⟨fun _ k hk => absurd hk (by omega), fun _ => rfl⟩
  | succ m ih =>
    show (alq m P && P m) = true ↔ _
    rw [Bool.and_eq_true, ih]
    exact ⟨fun z k hk => by
      by_cases e : k = m
      · subst e; exact z.2
      · exact z.1 k (by omega), fun z => ⟨fun k hk => z k (by omega), z m (by omega)⟩⟩
def wsf (W : Nat → Int32) (n e k : Nat) : Bool := decide (W (14 * n + 13) = W (14 * e + 13)) && alq k (fun i => decide (W (14 * n + i) = W (14 * e + i)))
theorem wsf_no {W : Nat → Int32} {n e k m : Nat} (h : wsf W n e k = false) (hk : k ≤ m) : wsf W n e m = false := by
  unfold wsf at h ⊢
  rcases Bool.and_eq_false_iff.mp h with z | z
  · rw [z]; rfl
  · rw [alq_no z hk]; exact Bool.and_false _
theorem wsf_s {W : Nat → Int32} {n e k : Nat} (h : wsf W n e k = true) : wsf W n e (k + 1) = decide (W (14 * n + k) = W (14 * e + k)) := by
  unfold wsf at h ⊢
  have := Bool.and_eq_true_iff.mp h
  rw [this.1]
  show (true && (alq k _ && _)) = _
  rw [this.2]
  rfl
set_option maxHeartbeats 400000 in
set_option maxRecDepth 100000 in
theorem l_wasSo {b : Nat} {h : am_H} {σ : am_S} {n e m : Nat} (h31 : σ.1 31 = nI m) (hm13 : m ≤ 13) (hn : n ≤ 300) (he : e ≤ 300) {Q : Option Value → am_H → Prop} (hm : Mo b h σ) (hQ : Q (some (.int (nI (bN (wsf (σ.2.1 15) n e m = true))))) h) : ∀ nn k : Nat, k + nn = m → Ex 0 0 0 mX12_wasSo 36 [.ref b, .int (nI n), .int (nI e), .int (nI (bN (wsf (σ.2.1 15) n e k = true))), .int (nI k)] [] h Q := by
  intro nn
  induction nn with
  | zero =>
    intro k hk
    refine ex_iload dX12_wasSo_36 rfl ?_
    refine ex_aload_n dX12_wasSo_38 rfl rfl ?_
    refine ex_getf fX12_130 dX12_wasSo_39 hm.1 (congrArg (fun z => some (Value.int z)) h31) ?_
    refine ex_icmp_geN 88 dX12_wasSo_42 (by decide) (by first | omega | exact bN_lt) (by first | omega | exact bN_lt) (fun q42 => ?_) (fun q42 => ?_)
    · skip
      obtain rfl : k = m := by omega
      refine ex_iload_n dX12_wasSo_88 rfl ?_
      refine ex_zret rfl (by first | exact bN_z | rfl | decide | assumption) dX12_wasSo_89 ?_
      exact hQ
    · skip
      exact absurd q42 (by omega)
  | succ nn ih =>
    intro k hk
    refine ex_iload dX12_wasSo_36 rfl ?_
    refine ex_aload_n dX12_wasSo_38 rfl rfl ?_
    refine ex_getf fX12_130 dX12_wasSo_39 hm.1 (congrArg (fun z => some (Value.int z)) h31) ?_
    refine ex_icmp_geN 88 dX12_wasSo_42 (by decide) (by first | omega | exact bN_lt) (by first | omega | exact bN_lt) (fun q42 => ?_) (fun q42 => ?_)
    · skip
      obtain rfl : k = m := by omega
      refine ex_iload_n dX12_wasSo_88 rfl ?_
      refine ex_zret rfl (by first | exact bN_z | rfl | decide | assumption) dX12_wasSo_89 ?_
      exact hQ
    · skip
      refine ex_iload_n dX12_wasSo_45 rfl ?_
      refine ex_if_eqN 88 dX12_wasSo_46 (by decide) (by first | omega | exact bN_lt) (fun q46 => ?_) (fun q46 => ?_)
      · skip
        refine ex_iload_n dX12_wasSo_88 rfl ?_
        refine ex_zret rfl (by first | exact bN_z | rfl | decide | assumption) dX12_wasSo_89 ?_
        rw [bt.mp q46]; rw [wsf_no (bt.mp q46) (show k ≤ m by omega)] at hQ; exact hQ
      · skip
        refine ex_aload_n dX12_wasSo_49 rfl rfl ?_
        refine ex_getf fX12_71 dX12_wasSo_50 hm.1 rfl ?_
        refine ex_bipushN (nI 14) dX12_wasSo_53 (by decide) ?_
        refine ex_iload_n dX12_wasSo_55 rfl ?_
        refine ex_imulN dX12_wasSo_56 ?_
        refine ex_iload dX12_wasSo_57 rfl ?_
        refine ex_iaddN dX12_wasSo_59 ?_
        refine m_ald hm dX12_wasSo_60 (by decide) (by decide) rfl (by show _ < 4214; first | omega | exact bN_lt) ?_
        refine ex_aload_n dX12_wasSo_61 rfl rfl ?_
        refine ex_getf fX12_71 dX12_wasSo_62 hm.1 rfl ?_
        refine ex_bipushN (nI 14) dX12_wasSo_65 (by decide) ?_
        refine ex_iload_n dX12_wasSo_67 rfl ?_
        refine ex_imulN dX12_wasSo_68 ?_
        refine ex_iload dX12_wasSo_69 rfl ?_
        refine ex_iaddN dX12_wasSo_71 ?_
        refine m_ald hm dX12_wasSo_72 (by decide) (by decide) rfl (by show _ < 4214; first | omega | exact bN_lt) ?_
        refine ex_icmp_ne 80 dX12_wasSo_73 (by decide) (fun q73 => ?_) (fun q73 => ?_)
        · skip
          refine ex_iconstN (nI 0) dX12_wasSo_80 (by decide) ?_
          refine ex_istore_n dX12_wasSo_81 (by decide) ?_
          refine ex_iincN 1 dX12_wasSo_82 (by decide) rfl (by decide) ?_
          refine ex_goto 36 dX12_wasSo_85 (by decide) ?_
          rw [show nI 0 = nI (bN (wsf (σ.2.1 15) n e (k + 1) = true)) by rw [(wsf_s (bn.mp q46)).trans (decide_eq_false q73)]; rfl]
          exact ih (k + 1) (by omega)
        · skip
          refine ex_iconstN (nI 1) dX12_wasSo_76 (by decide) ?_
          refine ex_goto 81 dX12_wasSo_77 (by decide) ?_
          refine ex_istore_n dX12_wasSo_81 (by decide) ?_
          refine ex_iincN 1 dX12_wasSo_82 (by decide) rfl (by decide) ?_
          refine ex_goto 36 dX12_wasSo_85 (by decide) ?_
          rw [show nI 1 = nI (bN (wsf (σ.2.1 15) n e (k + 1) = true)) by rw [(wsf_s (bn.mp q46)).trans (decide_eq_true q73)]; rfl]
          exact ih (k + 1) (by omega)
set_option maxHeartbeats 400000 in
set_option maxRecDepth 100000 in
theorem e_wasSo {b : Nat} {h : am_H} {σ : am_S} {n e m : Nat} (h31 : σ.1 31 = nI m) (hm13 : m ≤ 13) (hn : n ≤ 300) (he : e ≤ 300) (hm : Mo b h σ) : Ex 0 0 0 mX12_wasSo 0 (am_en [.ref b, .int (nI n), .int (nI e)] 5) [] h (fun r h2 => r = some (.int (nI (bN (wsf (σ.2.1 15) n e m = true)))) ∧ h2 = h) := by
  have hs : Same b h h := Same.rf
  refine ex_aload_n dX12_wasSo_0 rfl rfl ?_
  refine ex_getf fX12_71 dX12_wasSo_1 hm.1 rfl ?_
  refine ex_bipushN (nI 14) dX12_wasSo_4 (by decide) ?_
  refine ex_iload_n dX12_wasSo_6 rfl ?_
  refine ex_imulN dX12_wasSo_7 ?_
  refine ex_bipushN (nI 13) dX12_wasSo_8 (by decide) ?_
  refine ex_iaddN dX12_wasSo_10 ?_
  refine m_ald hm dX12_wasSo_11 (by decide) (by decide) rfl (by show _ < 4214; first | omega | exact bN_lt) ?_
  refine ex_aload_n dX12_wasSo_12 rfl rfl ?_
  refine ex_getf fX12_71 dX12_wasSo_13 hm.1 rfl ?_
  refine ex_bipushN (nI 14) dX12_wasSo_16 (by decide) ?_
  refine ex_iload_n dX12_wasSo_18 rfl ?_
  refine ex_imulN dX12_wasSo_19 ?_
  refine ex_bipushN (nI 13) dX12_wasSo_20 (by decide) ?_
  refine ex_iaddN dX12_wasSo_22 ?_
  refine m_ald hm dX12_wasSo_23 (by decide) (by decide) rfl (by show _ < 4214; first | omega | exact bN_lt) ?_
  refine ex_icmp_ne 31 dX12_wasSo_24 (by decide) (fun q24 => ?_) (fun q24 => ?_)
  · skip
    refine ex_iconstN (nI 0) dX12_wasSo_31 (by decide) ?_
    refine ex_istore_n dX12_wasSo_32 (by decide) ?_
    refine ex_iconstN (nI 0) dX12_wasSo_33 (by decide) ?_
    refine ex_istore dX12_wasSo_34 (by decide) ?_
    have hh := l_wasSo (Q := fun r h2 => r = some (.int (nI (bN (wsf (σ.2.1 15) n e m = true)))) ∧ h2 = h) h31 hm13 hn he hm ⟨rfl, rfl⟩ m 0 (by omega)
    rw [show wsf (σ.2.1 15) n e 0 = false by unfold wsf; rw [decide_eq_false q24]; rfl] at hh
    exact hh
  · skip
    refine ex_iconstN (nI 1) dX12_wasSo_27 (by decide) ?_
    refine ex_goto 32 dX12_wasSo_28 (by decide) ?_
    refine ex_istore_n dX12_wasSo_32 (by decide) ?_
    refine ex_iconstN (nI 0) dX12_wasSo_33 (by decide) ?_
    refine ex_istore dX12_wasSo_34 (by decide) ?_
    have hh := l_wasSo (Q := fun r h2 => r = some (.int (nI (bN (wsf (σ.2.1 15) n e m = true)))) ∧ h2 = h) h31 hm13 hn he hm ⟨rfl, rfl⟩ m 0 (by omega)
    rw [show wsf (σ.2.1 15) n e 0 = true by unfold wsf; rw [decide_eq_true q24]; rfl] at hh
    exact hh
def oN : Option Nat → Int32
  | some n => nI n
  | none => -1
def ebv (K : Nat → Int32) : Nat → Nat → Po → Option Nat × Po
  | 0, n, p => (if endv K p = true then some n else none, p)
  | f + 1, n, p => if endv K p = true then (some n, p) else if stkv K p = true then (none, p) else ebv K f (n + 1) (stp K p)
theorem wk_eq {σ σ2 : am_S} {R : List Nat} {F : List Nat} (hl : Lk F R σ σ2) (h1 : 1 ∉ R) : σ2.2.1 1 = σ.2.1 1 := hl.2.1 1 h1
set_option maxHeartbeats 800000 in
set_option maxRecDepth 100000 in
theorem l_endsBehind {b : Nat} {h0 : am_H} {σ : am_S} {K : Nat → Int32} {m L : Nat} (hw : WK K) (hL : K 114 = nI L) (hL3 : L ≤ 300) : ∀ (nn n : Nat) (p : Po) (h : am_H) (σ1 : am_S), n + nn = L → Mo b h σ1 → Lk FS [11, 13, 14] σ σ1 → Ps σ1 m → σ1.2.1 1 = K → po σ1 m = p → p.2.1 = m → Same b h0 h → Ex 73 0 0 mX12_endsBehind 2 [.ref b, .int (nI n)] [] h (fun r h2 => r = some (.int (oN (ebv K nn n p).1)) ∧ ∃ σ2, Mo b h2 σ2 ∧ Lk FS [11, 13, 14] σ σ2 ∧ Ps σ2 m ∧ po σ2 m = (ebv K nn n p).2 ∧ Same b h0 h2) := by
  intro nn
  induction nn with
  | zero =>
    intro n p h σ1 hk hm hl hp eK eP eM hs
    refine ex_iload_n dX12_endsBehind_2 rfl ?_
    refine ex_aload_n dX12_endsBehind_3 rfl rfl ?_
    refine ex_getf fX12_24 dX12_endsBehind_4 hm.1 rfl ?_
    refine ex_bipushN (nI 114) dX12_endsBehind_7 (by decide) ?_
    refine m_aldv hm dX12_endsBehind_9 (by decide) (by decide) rfl (by show _ < 5725; first | omega | exact bN_lt) ((congrFun eK 114).trans hL) ?_
    refine ex_icmp_gtN 52 dX12_endsBehind_10 (by decide) (by first | omega | exact bN_lt) (by first | omega | exact bN_lt) (fun q10 => ?_) (fun q10 => ?_)
    · skip
      exact absurd q10 (by omega)
    · skip
      refine ex_aload_n dX12_endsBehind_13 rfl rfl ?_
      refine ex_callV0 (dc := 71) (as := []) dX12_endsBehind_14 MX12_hasEnded kX12_136 iX12_hasEnded sX12_hasEnded rfl rfl hm.1 rfl rfl (Nat.le_of_ble_eq_true rfl) (Nat.le_of_ble_eq_true rfl) (by first | decide | omega) (e_hasEnded (by rw [eK]; exact hw) hp hm) (fun r h2 q => ?_)
      obtain ⟨rfl, σ2, hm, hk2, hp, hs2⟩ := q
      have hs := hs.tr hs2
      rw [eP, eK]
      have eP := (po_eq hk2).trans eP
      have eK := (kp_eq hk2).trans eK
      have hl := hl.tr (hk2.mono (F2 := FS) (R2 := [11, 13, 14]) (by decide) (by decide))
      show Ex _ 0 0 _ _ _ (Value.int _ :: _) _ _
      refine ex_if_eqN 22 dX12_endsBehind_17 (by decide) (by first | omega | exact bN_lt) (fun q17 => ?_) (fun q17 => ?_)
      · skip
        refine ex_aload_n dX12_endsBehind_22 rfl rfl ?_
        refine ex_callV0 (dc := 72) (as := []) dX12_endsBehind_23 MX12_isStuck kX12_140 iX12_isStuck sX12_isStuck rfl rfl hm.1 rfl rfl (Nat.le_of_ble_eq_true rfl) (Nat.le_of_ble_eq_true rfl) (by first | decide | omega) (e_isStuck (by rw [eK]; exact hw) hp hm) (fun r h2 q => ?_)
        obtain ⟨rfl, σ3, hm, hk3, hp, hs2⟩ := q
        have hs := hs.tr hs2
        rw [eP, eK]
        have eP := (po_eq hk3).trans eP
        have eK := (kp_eq hk3).trans eK
        have hl := hl.tr (hk3.mono (F2 := FS) (R2 := [11, 13, 14]) (by decide) (by decide))
        show Ex _ 0 0 _ _ _ (Value.int _ :: _) _ _
        refine ex_if_neN 40 dX12_endsBehind_26 (by decide) (by first | omega | exact bN_lt) (fun q26 => ?_) (fun q26 => ?_)
        · skip
          refine ex_iconstN (-1) dX12_endsBehind_40 (by decide) ?_
          refine ex_iret rfl dX12_endsBehind_41 ?_
          exact ⟨by rw [show ebv K 0 n p = (none, p) from congrArg (fun z => (z, p)) (if_neg (fun z => Bool.false_ne_true ((bt.mp q17).symm.trans z)))]; rfl, _, hm, hl, hp, by rw [show ebv K 0 n p = (none, p) from congrArg (fun z => (z, p)) (if_neg (fun z => Bool.false_ne_true ((bt.mp q17).symm.trans z)))]; exact eP, hs⟩
        · skip
          refine ex_iload_n dX12_endsBehind_29 rfl ?_
          refine ex_aload_n dX12_endsBehind_30 rfl rfl ?_
          refine ex_getf fX12_24 dX12_endsBehind_31 hm.1 rfl ?_
          refine ex_bipushN (nI 114) dX12_endsBehind_34 (by decide) ?_
          refine m_aldv hm dX12_endsBehind_36 (by decide) (by decide) rfl (by show _ < 5725; first | omega | exact bN_lt) ((congrFun eK 114).trans hL) ?_
          refine ex_icmp_neN 42 dX12_endsBehind_37 (by decide) (by first | omega | exact bN_lt) (by first | omega | exact bN_lt) (fun q37 => ?_) (fun q37 => ?_)
          · skip
            exact absurd (show n = L by omega) q37
          · skip
            refine ex_iconstN (-1) dX12_endsBehind_40 (by decide) ?_
            refine ex_iret rfl dX12_endsBehind_41 ?_
            exact ⟨by rw [show ebv K 0 n p = (none, p) from congrArg (fun z => (z, p)) (if_neg (fun z => Bool.false_ne_true ((bt.mp q17).symm.trans z)))]; rfl, _, hm, hl, hp, by rw [show ebv K 0 n p = (none, p) from congrArg (fun z => (z, p)) (if_neg (fun z => Bool.false_ne_true ((bt.mp q17).symm.trans z)))]; exact eP, hs⟩
      · skip
        refine ex_iload_n dX12_endsBehind_20 rfl ?_
        refine ex_iret rfl dX12_endsBehind_21 ?_
        exact ⟨by rw [show ebv K 0 n p = (some n, p) from congrArg (fun z => (z, p)) (if_pos (bn.mp q17))]; rfl, _, hm, hl, hp, by rw [show ebv K 0 n p = (some n, p) from congrArg (fun z => (z, p)) (if_pos (bn.mp q17))]; exact eP, hs⟩
  | succ nn ih =>
    intro n p h σ1 hk hm hl hp eK eP eM hs
    refine ex_iload_n dX12_endsBehind_2 rfl ?_
    refine ex_aload_n dX12_endsBehind_3 rfl rfl ?_
    refine ex_getf fX12_24 dX12_endsBehind_4 hm.1 rfl ?_
    refine ex_bipushN (nI 114) dX12_endsBehind_7 (by decide) ?_
    refine m_aldv hm dX12_endsBehind_9 (by decide) (by decide) rfl (by show _ < 5725; first | omega | exact bN_lt) ((congrFun eK 114).trans hL) ?_
    refine ex_icmp_gtN 52 dX12_endsBehind_10 (by decide) (by first | omega | exact bN_lt) (by first | omega | exact bN_lt) (fun q10 => ?_) (fun q10 => ?_)
    · skip
      exact absurd q10 (by omega)
    · skip
      refine ex_aload_n dX12_endsBehind_13 rfl rfl ?_
      refine ex_callV0 (dc := 71) (as := []) dX12_endsBehind_14 MX12_hasEnded kX12_136 iX12_hasEnded sX12_hasEnded rfl rfl hm.1 rfl rfl (Nat.le_of_ble_eq_true rfl) (Nat.le_of_ble_eq_true rfl) (by first | decide | omega) (e_hasEnded (by rw [eK]; exact hw) hp hm) (fun r h2 q => ?_)
      obtain ⟨rfl, σ2, hm, hk2, hp, hs2⟩ := q
      have hs := hs.tr hs2
      rw [eP, eK]
      have eP := (po_eq hk2).trans eP
      have eK := (kp_eq hk2).trans eK
      have hl := hl.tr (hk2.mono (F2 := FS) (R2 := [11, 13, 14]) (by decide) (by decide))
      show Ex _ 0 0 _ _ _ (Value.int _ :: _) _ _
      refine ex_if_eqN 22 dX12_endsBehind_17 (by decide) (by first | omega | exact bN_lt) (fun q17 => ?_) (fun q17 => ?_)
      · skip
        refine ex_aload_n dX12_endsBehind_22 rfl rfl ?_
        refine ex_callV0 (dc := 72) (as := []) dX12_endsBehind_23 MX12_isStuck kX12_140 iX12_isStuck sX12_isStuck rfl rfl hm.1 rfl rfl (Nat.le_of_ble_eq_true rfl) (Nat.le_of_ble_eq_true rfl) (by first | decide | omega) (e_isStuck (by rw [eK]; exact hw) hp hm) (fun r h2 q => ?_)
        obtain ⟨rfl, σ3, hm, hk3, hp, hs2⟩ := q
        have hs := hs.tr hs2
        rw [eP, eK]
        have eP := (po_eq hk3).trans eP
        have eK := (kp_eq hk3).trans eK
        have hl := hl.tr (hk3.mono (F2 := FS) (R2 := [11, 13, 14]) (by decide) (by decide))
        show Ex _ 0 0 _ _ _ (Value.int _ :: _) _ _
        refine ex_if_neN 40 dX12_endsBehind_26 (by decide) (by first | omega | exact bN_lt) (fun q26 => ?_) (fun q26 => ?_)
        · skip
          refine ex_iconstN (-1) dX12_endsBehind_40 (by decide) ?_
          refine ex_iret rfl dX12_endsBehind_41 ?_
          exact ⟨by rw [show ebv K (nn + 1) n p = (none, p) from (if_neg (fun z => Bool.false_ne_true ((bt.mp q17).symm.trans z))).trans (if_pos (bn.mp q26))]; rfl, _, hm, hl, hp, by rw [show ebv K (nn + 1) n p = (none, p) from (if_neg (fun z => Bool.false_ne_true ((bt.mp q17).symm.trans z))).trans (if_pos (bn.mp q26))]; exact eP, hs⟩
        · skip
          refine ex_iload_n dX12_endsBehind_29 rfl ?_
          refine ex_aload_n dX12_endsBehind_30 rfl rfl ?_
          refine ex_getf fX12_24 dX12_endsBehind_31 hm.1 rfl ?_
          refine ex_bipushN (nI 114) dX12_endsBehind_34 (by decide) ?_
          refine m_aldv hm dX12_endsBehind_36 (by decide) (by decide) rfl (by show _ < 5725; first | omega | exact bN_lt) ((congrFun eK 114).trans hL) ?_
          refine ex_icmp_neN 42 dX12_endsBehind_37 (by decide) (by first | omega | exact bN_lt) (by first | omega | exact bN_lt) (fun q37 => ?_) (fun q37 => ?_)
          · skip
            refine ex_aload_n dX12_endsBehind_42 rfl rfl ?_
            refine ex_callV0 (dc := 72) (as := []) dX12_endsBehind_43 MX12_steps kX12_343 iX12_steps sX12_steps rfl rfl hm.1 rfl rfl (Nat.le_of_ble_eq_true rfl) (Nat.le_of_ble_eq_true rfl) (by first | decide | omega) (e_steps (by rw [eK]; exact hw) hp (by rw [eP, eK, ← eM]; exact (stk_no (bt.mp q17) (bt.mp q26)).1) (by rw [eP, eK, ← eM]; exact (stk_no (bt.mp q17) (bt.mp q26)).2) hm) (fun r h2 q => ?_)
            obtain ⟨rfl, σ4, hm, hk4, hp, eP4, hs2⟩ := q
            have hs := hs.tr hs2
            rw [eP, eK] at eP4
            have eK4 := (wk_eq hk4 (by decide)).trans eK
            have hl := hl.tr hk4
            show Ex _ 0 0 _ _ _ _ _ _
            refine ex_iincN 1 dX12_endsBehind_46 (by decide) rfl (by decide) ?_
            refine ex_goto 2 dX12_endsBehind_49 (by decide) ?_
            rw [show ebv K (nn + 1) n p = ebv K nn (n + 1) (stp K p) from (if_neg (fun z => Bool.false_ne_true ((bt.mp q17).symm.trans z))).trans (if_neg (fun z => Bool.false_ne_true ((bt.mp q26).symm.trans z)))]
            exact ih (n + 1) _ _ _ (by omega) hm hl hp eK4 eP4 eM hs
          · skip
            exact absurd q37 (by omega)
      · skip
        refine ex_iload_n dX12_endsBehind_20 rfl ?_
        refine ex_iret rfl dX12_endsBehind_21 ?_
        exact ⟨by rw [show ebv K (nn + 1) n p = (some n, p) from if_pos (bn.mp q17)]; rfl, _, hm, hl, hp, by rw [show ebv K (nn + 1) n p = (some n, p) from if_pos (bn.mp q17)]; exact eP, hs⟩
set_option maxHeartbeats 400000 in
set_option maxRecDepth 100000 in
theorem e_endsBehind {b : Nat} {h : am_H} {σ : am_S} {m L : Nat} (hw : WK (σ.2.1 1)) (hL : σ.2.1 1 114 = nI L) (hL3 : L ≤ 300) (hp : Ps σ m) (hm : Mo b h σ) : Ex 73 0 0 mX12_endsBehind 0 (am_en [.ref b] 2) [] h (fun r h2 => r = some (.int (oN (ebv (σ.2.1 1) L 0 (po σ m)).1)) ∧ ∃ σ2, Mo b h2 σ2 ∧ Lk FS [11, 13, 14] σ σ2 ∧ Ps σ2 m ∧ po σ2 m = (ebv (σ.2.1 1) L 0 (po σ m)).2 ∧ Same b h h2) := by
  have hs : Same b h h := Same.rf
  refine ex_iconstN (nI 0) dX12_endsBehind_0 (by decide) ?_
  refine ex_istore_n dX12_endsBehind_1 (by decide) ?_
  exact l_endsBehind hw hL hL3 L 0 _ _ _ (by omega) hm Lk.rf hp rfl rfl rfl hs
