/-! THE REFERENCE: how it goes on -/
abbrev FG : List Nat := [21, 22, 23, 24, 25, 26, 32, 35, 36]
abbrev RG : List Nat := [11, 13, 14, 15]
def pn (K : Nat → Int32) (p : Po) : Nat → Po
  | 0 => p
  | n + 1 => stp K (pn K p n)
theorem pn_m {K : Nat → Int32} {p : Po} (n : Nat) : (pn K p n).2.1 = p.2.1 := by
  induction n with
  | zero => rfl
  | succ n ih => exact ih
def fsc (P : Nat → Bool) : Nat → Nat → Option Nat
  | 0, _ => none
  | f + 1, e => if P e = true then some e else fsc P f (e + 1)
theorem fsc_c {P P2 : Nat → Bool} : ∀ (f e : Nat), (∀ i, e ≤ i → i < e + f → P i = P2 i) → fsc P f e = fsc P2 f e
  | 0, _, _ => rfl
  | f + 1, e, h => by
    show (if P e = true then some e else fsc P f (e + 1)) = (if P2 e = true then some e else fsc P2 f (e + 1))
    rw [h e (by omega) (by omega), fsc_c f (e + 1) (fun i h1 h2 => h i (by omega) (by omega))]
def sam (m : Nat) (p q : Po) : Bool := decide (p.2.2.1 = q.2.2.1) && alq m (fun i => decide (p.1 i = q.1 i))
def gon (K : Nat → Int32) (p : Po) (L : Nat) : Nat → Nat × Nat × Option Nat
  | 0 => (3, 0, none)
  | f + 1 => if endv K (pn K p (L - f)) = true then (0, L - f, none) else if stkv K (pn K p (L - f)) = true then (1, L - f, none) else
      (match fsc (fun e => sam p.2.1 (pn K p (L - f)) (pn K p e)) (L - f) 0 with
      | some e => (2, L - f, some e)
      | none => if f = 0 then (3, L - f, none) else gon K p L f)
/-- the first n places are written down -/
def WI (m : Nat) (W : Nat → Int32) (n : Nat) (P : Nat → Po) : Prop := ∀ j, j < n → (∀ k, k < m → W (14 * j + k) = (P j).1 k) ∧ W (14 * j + 13) = (P j).2.2.1
theorem WI.s {m n : Nat} {W : Nat → Int32} {P : Nat → Po} (hm : m ≤ 13) (h : WI m W n P) : WI m (upd (fill W (14 * n) m (P n).1) (14 * n + 13) (P n).2.2.1) (n + 1) P := by
  intro j hj
  by_cases e : j = n
  · subst e
    exact ⟨fun k hk => by rw [pk_un (by omega), fill_in (by omega) (by omega), show 14 * j + k - 14 * j = k by omega], pk_us⟩
  · exact ⟨fun k hk => by rw [pk_un (by omega), fill_out (by omega)]; exact (h j (by omega)).1 k hk, by rw [pk_un (by omega), fill_out (by omega)]; exact (h j (by omega)).2⟩
theorem WI.ws {m n : Nat} {W : Nat → Int32} {P : Nat → Po} (h : WI m W (n + 1) P) {e : Nat} (he : e < n) : wsf W n e m = sam m (P n) (P e) := by
  unfold wsf sam
  rw [(h n (by omega)).2, (h e (by omega)).2]
  congr 1
  rw [Bool.eq_iff_iff, alq_iff, alq_iff]
  constructor
  · intro z k hk
    have := z k hk
    rw [(h n (by omega)).1 k hk, (h e (by omega)).1 k hk] at this
    exact this
  · intro z k hk
    show decide (W (14 * n + k) = W (14 * e + k)) = true
    rw [(h n (by omega)).1 k hk, (h e (by omega)).1 k hk]
    exact z k hk
set_option maxHeartbeats 400000 in
set_option maxRecDepth 100000 in
theorem l_go32 {b : Nat} {h0 : am_H} {σ : am_S} {n m : Nat} (h31 : σ.1 31 = nI m) (hm13 : m ≤ 13) (hn : n ≤ 300) {Q : Option Value → am_H → Prop} (hQ : ∀ h2, Mo b h2 (σ.1, rs σ.2.1 15 (fill (σ.2.1 15) (14 * n) m (σ.2.1 13)), σ.2.2) → Same b h0 h2 → Ex 74 0 0 mX12_goesOn 63 [.ref b, .int (nI n), .int (nI m)] [] h2 Q) : ∀ (nn k : Nat) (h : am_H), k + nn = m → Mo b h (σ.1, rs σ.2.1 15 (fill (σ.2.1 15) (14 * n) k (σ.2.1 13)), σ.2.2) → Same b h0 h → Ex 74 0 0 mX12_goesOn 32 [.ref b, .int (nI n), .int (nI k)] [] h Q := by
  intro nn
  induction nn with
  | zero =>
    intro k h hk hm hs
    refine ex_iload_n dX12_goesOn_32 rfl ?_
    refine ex_aload_n dX12_goesOn_33 rfl rfl ?_
    refine ex_getf fX12_130 dX12_goesOn_34 hm.1 (congrArg (fun z => some (Value.int z)) h31) ?_
    refine ex_icmp_geN 63 dX12_goesOn_37 (by decide) (by omega) (by omega) (fun q37 => ?_) (fun q37 => ?_)
    · skip
      obtain rfl : k = m := by omega
      exact hQ _ hm hs
    · skip
      exact absurd q37 (by omega)
  | succ nn ih =>
    intro k h hk hm hs
    refine ex_iload_n dX12_goesOn_32 rfl ?_
    refine ex_aload_n dX12_goesOn_33 rfl rfl ?_
    refine ex_getf fX12_130 dX12_goesOn_34 hm.1 (congrArg (fun z => some (Value.int z)) h31) ?_
    refine ex_icmp_geN 63 dX12_goesOn_37 (by decide) (by omega) (by omega) (fun q37 => ?_) (fun q37 => ?_)
    · skip
      obtain rfl : k = m := by omega
      exact hQ _ hm hs
    · skip
      refine ex_aload_n dX12_goesOn_40 rfl rfl ?_
      refine ex_getf fX12_71 dX12_goesOn_41 hm.1 rfl ?_
      refine ex_bipushN (nI 14) dX12_goesOn_44 (by decide) ?_
      refine ex_iload_n dX12_goesOn_46 rfl ?_
      refine ex_imulN dX12_goesOn_47 ?_
      refine ex_iload_n dX12_goesOn_48 rfl ?_
      refine ex_iaddN dX12_goesOn_49 ?_
      refine ex_aload_n dX12_goesOn_50 rfl rfl ?_
      refine ex_getf fX12_65 dX12_goesOn_51 hm.1 rfl ?_
      refine ex_iload_n dX12_goesOn_54 rfl ?_
      refine m_ald hm dX12_goesOn_55 (by decide) (by decide) rfl (by show _ < 13; omega) ?_
      refine m_ast hm hs dX12_goesOn_56 (by decide) (by decide) rfl (by show _ < 4214; omega) (fun h1 hm hs => ?_)
      refine ex_iincN 1 dX12_goesOn_57 (by decide) rfl (by decide) ?_
      refine ex_goto 32 dX12_goesOn_60 (by decide) ?_
      exact ih (k + 1) _ (by omega) (by rw [← fill_s, ← u2_rs]; exact hm) hs
set_option maxHeartbeats 800000 in
set_option maxRecDepth 100000 in
theorem l_go81 {b : Nat} {h0 h : am_H} {σ : am_S} {n m : Nat} {Q : Option Value → am_H → Prop} (h31 : σ.1 31 = nI m) (hm13 : m ≤ 13) (hn : n ≤ 300) (hm : Mo b h σ) (hs : Same b h0 h) : ∀ (nn e : Nat), e + nn = n → (∀ (e2 : Nat) (h2 : am_H), fsc (fun i => wsf (σ.2.1 15) n i m) nn e = some e2 → Mo b h2 (upd σ.1 36 (nI e2), σ.2) → Same b h0 h2 → Q (some (.int (nI 2))) h2) → (fsc (fun i => wsf (σ.2.1 15) n i m) nn e = none → Ex 74 0 0 mX12_goesOn 111 [.ref b, .int (nI n), .int (nI n)] [] h Q) → Ex 74 0 0 mX12_goesOn 81 [.ref b, .int (nI n), .int (nI e)] [] h Q := by
  intro nn
  induction nn with
  | zero =>
    intro e hk hS hN
    refine ex_iload_n dX12_goesOn_81 rfl ?_
    refine ex_iload_n dX12_goesOn_82 rfl ?_
    refine ex_icmp_geN 111 dX12_goesOn_83 (by decide) (by first | omega | exact bN_lt) (by first | omega | exact bN_lt) (fun q83 => ?_) (fun q83 => ?_)
    · skip
      obtain rfl : e = n := by omega
      exact hN rfl
    · skip
      exact absurd q83 (by omega)
  | succ nn ih =>
    intro e hk hS hN
    refine ex_iload_n dX12_goesOn_81 rfl ?_
    refine ex_iload_n dX12_goesOn_82 rfl ?_
    refine ex_icmp_geN 111 dX12_goesOn_83 (by decide) (by first | omega | exact bN_lt) (by first | omega | exact bN_lt) (fun q83 => ?_) (fun q83 => ?_)
    · skip
      exact absurd q83 (by omega)
    · skip
      refine ex_aload_n dX12_goesOn_86 rfl rfl ?_
      refine ex_iload_n dX12_goesOn_87 rfl ?_
      refine ex_iload_n dX12_goesOn_88 rfl ?_
      refine ex_callV0 (dc := 0) (as := [.int _, .int _]) dX12_goesOn_89 MX12_wasSo kX12_339 iX12_wasSo sX12_wasSo rfl rfl hm.1 rfl rfl (Nat.le_of_ble_eq_true rfl) (Nat.le_of_ble_eq_true rfl) (by first | decide | omega) (e_wasSo h31 hm13 (by omega) (by omega) hm) (fun r h2 q => ?_)
      obtain ⟨rfl, rfl⟩ := q
      show Ex _ 0 0 _ _ _ (Value.int _ :: _) _ _
      refine ex_if_neN 98 dX12_goesOn_92 (by decide) (by first | omega | exact bN_lt) (fun q92 => ?_) (fun q92 => ?_)
      · skip
        refine ex_aload_n dX12_goesOn_98 rfl rfl ?_
        refine ex_iload_n dX12_goesOn_99 rfl ?_
        refine m_put hm hs pX12_333 dX12_goesOn_100 (by decide) (ms36 _ _ _) (fun h1 hm hs => ?_)
        refine ex_iconstN (nI 2) dX12_goesOn_103 (by decide) ?_
        refine ex_iret rfl dX12_goesOn_104 ?_
        exact hS e _ (if_pos (bn.mp q92)) hm hs
      · skip
        refine ex_goto 105 dX12_goesOn_95 (by decide) ?_
        refine ex_iincN 1 dX12_goesOn_105 (by decide) rfl (by decide) ?_
        refine ex_goto 81 dX12_goesOn_108 (by decide) ?_
        refine ih (e + 1) (by omega) (fun e2 h2 he hm hs => hS e2 h2 ?_ hm hs) (fun he => hN ?_)
        · rw [← he]; exact if_neg (fun y => Bool.false_ne_true ((bt.mp q92).symm.trans y))
        · rw [← he]; exact if_neg (fun y => Bool.false_ne_true ((bt.mp q92).symm.trans y))
set_option maxHeartbeats 2000000 in
set_option maxRecDepth 100000 in
theorem l_goesOn {b : Nat} {h0 : am_H} {σ : am_S} {K : Nat → Int32} {p : Po} {m L : Nat} (hw : WK K) (hL : K 114 = nI L) (hL3 : L ≤ 300) : ∀ (nn n : Nat) (h : am_H) (σ1 : am_S) (x2 : Value), n + nn = L → Mo b h σ1 → Lk FG RG σ σ1 → Ps σ1 m → σ1.2.1 1 = K → po σ1 m = pn K p n → σ1.1 36 = -1 → WI m (σ1.2.1 15) n (pn K p) → p.2.1 = m → Same b h0 h → Ex 74 0 0 mX12_goesOn 7 [.ref b, .int (nI n), x2] [] h (fun r h2 => r = some (.int (nI (gon K p L (nn + 1)).1)) ∧ ∃ σ2, Mo b h2 σ2 ∧ Lk FG RG σ σ2 ∧ Ps σ2 m ∧ po σ2 m = pn K p (gon K p L (nn + 1)).2.1 ∧ σ2.1 35 = nI (gon K p L (nn + 1)).2.1 ∧ σ2.1 36 = oN (gon K p L (nn + 1)).2.2 ∧ Same b h0 h2) := by
  intro nn
  induction nn with
  | zero =>
    intro n h σ1 x2 hk hm hl hp eK eP h36 hW eM hs
    refine ex_aload_n dX12_goesOn_7 rfl rfl ?_
    refine ex_iload_n dX12_goesOn_8 rfl ?_
    refine m_put hm hs pX12_336 dX12_goesOn_9 (by decide) (ms35 _ _ _) (fun h1 hm hs => ?_)
    have hn0 : n = L - 0 := by omega
    have eK0 := eK
    have h35 : (upd σ1.1 35 (nI n), σ1.2).1 35 = nI n := rfl
    have hp : Ps (upd σ1.1 35 (nI n), σ1.2) m := ⟨hp.1, hp.2.1, hp.2.2.1, hp.2.2.2⟩
    have hl : Lk FG RG σ (upd σ1.1 35 (nI n), σ1.2) := hl.tr (Lk.up (F := FG) (R := RG) (by decide))
    have eP : po (upd σ1.1 35 (nI n), σ1.2) m = pn K p n := eP
    have eK : (upd σ1.1 35 (nI n), σ1.2).2.1 1 = K := eK
    have h36 : (upd σ1.1 35 (nI n), σ1.2).1 36 = -1 := h36
    have hW : WI m ((upd σ1.1 35 (nI n), σ1.2).2.1 15) n (pn K p) := hW
    refine ex_aload_n dX12_goesOn_12 rfl rfl ?_
    refine ex_callV0 (dc := 71) (as := []) dX12_goesOn_13 MX12_hasEnded kX12_136 iX12_hasEnded sX12_hasEnded rfl rfl hm.1 rfl rfl (Nat.le_of_ble_eq_true rfl) (Nat.le_of_ble_eq_true rfl) (by first | decide | omega) (e_hasEnded (by rw [eK]; exact hw) hp hm) (fun r h2 q => ?_)
    obtain ⟨rfl, σ2, hm, hk2, hp, hs2⟩ := q
    have hs := hs.tr hs2
    rw [eP, eK]
    have eP := (po_eq hk2).trans eP
    have eK := (kp_eq hk2).trans eK
    have h35 := (hk2.1 35 (by decide)).trans h35
    have h36 := (hk2.1 36 (by decide)).trans h36
    have hW := (hk2.2.1 15 (by decide)).symm ▸ hW
    have hl := hl.tr (hk2.mono (F2 := FG) (R2 := RG) (by decide) (by decide))
    show Ex _ 0 0 _ _ _ (Value.int _ :: _) _ _
    refine ex_if_eqN 21 dX12_goesOn_16 (by decide) (by first | omega | exact bN_lt) (fun q16 => ?_) (fun q16 => ?_)
    · skip
      refine ex_aload_n dX12_goesOn_21 rfl rfl ?_
      refine ex_callV0 (dc := 72) (as := []) dX12_goesOn_22 MX12_isStuck kX12_140 iX12_isStuck sX12_isStuck rfl rfl hm.1 rfl rfl (Nat.le_of_ble_eq_true rfl) (Nat.le_of_ble_eq_true rfl) (by first | decide | omega) (e_isStuck (by rw [eK]; exact hw) hp hm) (fun r h2 q => ?_)
      obtain ⟨rfl, σ3, hm, hk3, hp, hs2⟩ := q
      have hs := hs.tr hs2
      rw [eP, eK]
      have eP := (po_eq hk3).trans eP
      have eK := (kp_eq hk3).trans eK
      have h35 := (hk3.1 35 (by decide)).trans h35
      have h36 := (hk3.1 36 (by decide)).trans h36
      have hW := (hk3.2.1 15 (by decide)).symm ▸ hW
      have hl := hl.tr (hk3.mono (F2 := FG) (R2 := RG) (by decide) (by decide))
      show Ex _ 0 0 _ _ _ (Value.int _ :: _) _ _
      refine ex_if_eqN 30 dX12_goesOn_25 (by decide) (by first | omega | exact bN_lt) (fun q25 => ?_) (fun q25 => ?_)
      · skip
        refine ex_iconstN (nI 0) dX12_goesOn_30 (by decide) ?_
        refine ex_istore_n dX12_goesOn_31 (by decide) ?_
        refine l_go32 (σ := σ3) hp.1 hp.2.2.1 (by omega) (fun h2 hm hs => ?_) m 0 _ (by omega) (by rw [fill_0, rs_self]; exact hm) hs
        rw [show σ3.2.1 13 = (pn K p n).1 from congrArg (fun z => z.1) eP] at hm
        refine ex_aload_n dX12_goesOn_63 rfl rfl ?_
        refine ex_getf fX12_71 dX12_goesOn_64 hm.1 rfl ?_
        refine ex_bipushN (nI 14) dX12_goesOn_67 (by decide) ?_
        refine ex_iload_n dX12_goesOn_69 rfl ?_
        refine ex_imulN dX12_goesOn_70 ?_
        refine ex_bipushN (nI 13) dX12_goesOn_71 (by decide) ?_
        refine ex_iaddN dX12_goesOn_73 ?_
        refine ex_aload_n dX12_goesOn_74 rfl rfl ?_
        refine ex_getf fX12_133 dX12_goesOn_75 hm.1 (congrArg (fun z => some (Value.int z)) (show _ = (pn K p n).2.2.1 from congrArg (fun z => z.2.2.1) eP)) ?_
        refine m_astR hm hs dX12_goesOn_78 (by decide) (by decide) rfl (by show _ < 4214; first | omega | exact bN_lt) (fun h1 hm hs => ?_)
        refine ex_iconstN (nI 0) dX12_goesOn_79 (by decide) ?_
        refine ex_istore_n dX12_goesOn_80 (by decide) ?_
        obtain ⟨σ5, e5⟩ : ∃ σ5 : am_S, σ5 = (σ3.1, (rs σ3.2.1 15 (upd (fill (σ3.2.1 15) (14 * n) m (pn K p n).1) (14 * n + 13) (pn K p n).2.2.1)), σ3.2.2) := ⟨_, rfl⟩
        have hW5 : WI m (σ5.2.1 15) (n + 1) (pn K p) := by rw [e5]; exact WI.s hp.2.2.1 hW
        have fe : fsc (fun i => wsf (σ5.2.1 15) n i m) n 0 = fsc (fun e => sam p.2.1 (pn K p n) (pn K p e)) n 0 := fsc_c n 0 (fun i _ hi => by rw [eM]; exact hW5.ws (by omega))
        have hl5 : Lk FG RG σ σ5 := by rw [e5]; exact hl.tr (Lk.rw (F := FG) (R := RG) (σ := σ3) (k := 15) (by decide))
        have eP5 : po σ5 m = pn K p n := by rw [e5]; exact eP
        have hL5 : σ5.2.1 1 114 = nI L := by rw [e5]; exact (congrFun eK 114).trans hL
        have eK : σ5.2.1 1 = K := by rw [e5]; exact eK
        have h35 : σ5.1 35 = nI n := by rw [e5]; exact h35
        have h36 : σ5.1 36 = -1 := by rw [e5]; exact h36
        have hp : Ps σ5 m := by rw [e5]; exact hp
        rw [← e5] at hm
        refine l_go81 (σ := σ5) hp.1 hp.2.2.1 (by omega) hm hs n 0 (by omega) (fun e2 h2 hf2 hm hs => ?_) (fun hfs => ?_)
        · exact ⟨by rw [show gon K p L 1 = (2, n, some e2) by show (if endv K (pn K p (L - 0)) = true then _ else _) = _; rw [← hn0]; exact (if_neg (fun z => Bool.false_ne_true ((bt.mp q16).symm.trans z))).trans ((if_neg (fun z => Bool.false_ne_true ((bt.mp q25).symm.trans z))).trans (by rw [← fe, hf2]))], _, hm, by exact hl5.tr (Lk.up (F := FG) (R := RG) (by decide)), ⟨hp.1, hp.2.1, hp.2.2.1, hp.2.2.2⟩, by rw [show gon K p L 1 = (2, n, some e2) by show (if endv K (pn K p (L - 0)) = true then _ else _) = _; rw [← hn0]; exact (if_neg (fun z => Bool.false_ne_true ((bt.mp q16).symm.trans z))).trans ((if_neg (fun z => Bool.false_ne_true ((bt.mp q25).symm.trans z))).trans (by rw [← fe, hf2]))]; exact eP5, by rw [show gon K p L 1 = (2, n, some e2) by show (if endv K (pn K p (L - 0)) = true then _ else _) = _; rw [← hn0]; exact (if_neg (fun z => Bool.false_ne_true ((bt.mp q16).symm.trans z))).trans ((if_neg (fun z => Bool.false_ne_true ((bt.mp q25).symm.trans z))).trans (by rw [← fe, hf2]))]; exact h35, by rw [show gon K p L 1 = (2, n, some e2) by show (if endv K (pn K p (L - 0)) = true then _ else _) = _; rw [← hn0]; exact (if_neg (fun z => Bool.false_ne_true ((bt.mp q16).symm.trans z))).trans ((if_neg (fun z => Bool.false_ne_true ((bt.mp q25).symm.trans z))).trans (by rw [← fe, hf2]))]; rfl, hs⟩
        · rw [fe] at hfs
          refine ex_iload_n dX12_goesOn_111 rfl ?_
          refine ex_aload_n dX12_goesOn_112 rfl rfl ?_
          refine ex_getf fX12_24 dX12_goesOn_113 hm.1 rfl ?_
          refine ex_bipushN (nI 114) dX12_goesOn_116 (by decide) ?_
          refine m_aldv hm dX12_goesOn_118 (by decide) (by decide) rfl (by show _ < 5725; first | omega | exact bN_lt) ((show σ5.2.1 1 114 = nI L from hL5)) ?_
          refine ex_icmp_neN 124 dX12_goesOn_119 (by decide) (by first | omega | exact bN_lt) (by first | omega | exact bN_lt) (fun q119 => ?_) (fun q119 => ?_)
          · skip
            exact absurd (show n = L by omega) q119
          · skip
            refine ex_iconstN (nI 3) dX12_goesOn_122 (by decide) ?_
            refine ex_iret rfl dX12_goesOn_123 ?_
            exact ⟨by rw [show gon K p L 1 = (3, n, none) by show (if endv K (pn K p (L - 0)) = true then _ else _) = _; rw [← hn0]; exact (if_neg (fun z => Bool.false_ne_true ((bt.mp q16).symm.trans z))).trans ((if_neg (fun z => Bool.false_ne_true ((bt.mp q25).symm.trans z))).trans (by rw [hfs]; rfl))], _, hm, hl5, hp, by rw [show gon K p L 1 = (3, n, none) by show (if endv K (pn K p (L - 0)) = true then _ else _) = _; rw [← hn0]; exact (if_neg (fun z => Bool.false_ne_true ((bt.mp q16).symm.trans z))).trans ((if_neg (fun z => Bool.false_ne_true ((bt.mp q25).symm.trans z))).trans (by rw [hfs]; rfl))]; exact eP5, by rw [show gon K p L 1 = (3, n, none) by show (if endv K (pn K p (L - 0)) = true then _ else _) = _; rw [← hn0]; exact (if_neg (fun z => Bool.false_ne_true ((bt.mp q16).symm.trans z))).trans ((if_neg (fun z => Bool.false_ne_true ((bt.mp q25).symm.trans z))).trans (by rw [hfs]; rfl))]; exact h35, by rw [show gon K p L 1 = (3, n, none) by show (if endv K (pn K p (L - 0)) = true then _ else _) = _; rw [← hn0]; exact (if_neg (fun z => Bool.false_ne_true ((bt.mp q16).symm.trans z))).trans ((if_neg (fun z => Bool.false_ne_true ((bt.mp q25).symm.trans z))).trans (by rw [hfs]; rfl))]; exact h36, hs⟩
      · skip
        refine ex_iconstN (nI 1) dX12_goesOn_28 (by decide) ?_
        refine ex_iret rfl dX12_goesOn_29 ?_
        exact ⟨by rw [show gon K p L 1 = (1, n, none) by show (if endv K (pn K p (L - 0)) = true then _ else _) = _; rw [← hn0]; exact (if_neg (fun z => Bool.false_ne_true ((bt.mp q16).symm.trans z))).trans (if_pos (bn.mp q25))], _, hm, hl, hp, by rw [show gon K p L 1 = (1, n, none) by show (if endv K (pn K p (L - 0)) = true then _ else _) = _; rw [← hn0]; exact (if_neg (fun z => Bool.false_ne_true ((bt.mp q16).symm.trans z))).trans (if_pos (bn.mp q25))]; exact eP, by rw [show gon K p L 1 = (1, n, none) by show (if endv K (pn K p (L - 0)) = true then _ else _) = _; rw [← hn0]; exact (if_neg (fun z => Bool.false_ne_true ((bt.mp q16).symm.trans z))).trans (if_pos (bn.mp q25))]; exact h35, by rw [show gon K p L 1 = (1, n, none) by show (if endv K (pn K p (L - 0)) = true then _ else _) = _; rw [← hn0]; exact (if_neg (fun z => Bool.false_ne_true ((bt.mp q16).symm.trans z))).trans (if_pos (bn.mp q25))]; exact h36, hs⟩
    · skip
      refine ex_iconstN (nI 0) dX12_goesOn_19 (by decide) ?_
      refine ex_iret rfl dX12_goesOn_20 ?_
      exact ⟨by rw [show gon K p L 1 = (0, n, none) by show (if endv K (pn K p (L - 0)) = true then _ else _) = _; rw [← hn0]; exact if_pos (bn.mp q16)], _, hm, hl, hp, by rw [show gon K p L 1 = (0, n, none) by show (if endv K (pn K p (L - 0)) = true then _ else _) = _; rw [← hn0]; exact if_pos (bn.mp q16)]; exact eP, by rw [show gon K p L 1 = (0, n, none) by show (if endv K (pn K p (L - 0)) = true then _ else _) = _; rw [← hn0]; exact if_pos (bn.mp q16)]; exact h35, by rw [show gon K p L 1 = (0, n, none) by show (if endv K (pn K p (L - 0)) = true then _ else _) = _; rw [← hn0]; exact if_pos (bn.mp q16)]; exact h36, hs⟩
  | succ nn ih =>
    intro n h σ1 x2 hk hm hl hp eK eP h36 hW eM hs
    refine ex_aload_n dX12_goesOn_7 rfl rfl ?_
    refine ex_iload_n dX12_goesOn_8 rfl ?_
    refine m_put hm hs pX12_336 dX12_goesOn_9 (by decide) (ms35 _ _ _) (fun h1 hm hs => ?_)
    have hn0 : n = L - (nn + 1) := by omega
    have eK0 := eK
    have h35 : (upd σ1.1 35 (nI n), σ1.2).1 35 = nI n := rfl
    have hp : Ps (upd σ1.1 35 (nI n), σ1.2) m := ⟨hp.1, hp.2.1, hp.2.2.1, hp.2.2.2⟩
    have hl : Lk FG RG σ (upd σ1.1 35 (nI n), σ1.2) := hl.tr (Lk.up (F := FG) (R := RG) (by decide))
    have eP : po (upd σ1.1 35 (nI n), σ1.2) m = pn K p n := eP
    have eK : (upd σ1.1 35 (nI n), σ1.2).2.1 1 = K := eK
    have h36 : (upd σ1.1 35 (nI n), σ1.2).1 36 = -1 := h36
    have hW : WI m ((upd σ1.1 35 (nI n), σ1.2).2.1 15) n (pn K p) := hW
    refine ex_aload_n dX12_goesOn_12 rfl rfl ?_
    refine ex_callV0 (dc := 71) (as := []) dX12_goesOn_13 MX12_hasEnded kX12_136 iX12_hasEnded sX12_hasEnded rfl rfl hm.1 rfl rfl (Nat.le_of_ble_eq_true rfl) (Nat.le_of_ble_eq_true rfl) (by first | decide | omega) (e_hasEnded (by rw [eK]; exact hw) hp hm) (fun r h2 q => ?_)
    obtain ⟨rfl, σ2, hm, hk2, hp, hs2⟩ := q
    have hs := hs.tr hs2
    rw [eP, eK]
    have eP := (po_eq hk2).trans eP
    have eK := (kp_eq hk2).trans eK
    have h35 := (hk2.1 35 (by decide)).trans h35
    have h36 := (hk2.1 36 (by decide)).trans h36
    have hW := (hk2.2.1 15 (by decide)).symm ▸ hW
    have hl := hl.tr (hk2.mono (F2 := FG) (R2 := RG) (by decide) (by decide))
    show Ex _ 0 0 _ _ _ (Value.int _ :: _) _ _
    refine ex_if_eqN 21 dX12_goesOn_16 (by decide) (by first | omega | exact bN_lt) (fun q16 => ?_) (fun q16 => ?_)
    · skip
      refine ex_aload_n dX12_goesOn_21 rfl rfl ?_
      refine ex_callV0 (dc := 72) (as := []) dX12_goesOn_22 MX12_isStuck kX12_140 iX12_isStuck sX12_isStuck rfl rfl hm.1 rfl rfl (Nat.le_of_ble_eq_true rfl) (Nat.le_of_ble_eq_true rfl) (by first | decide | omega) (e_isStuck (by rw [eK]; exact hw) hp hm) (fun r h2 q => ?_)
      obtain ⟨rfl, σ3, hm, hk3, hp, hs2⟩ := q
      have hs := hs.tr hs2
      rw [eP, eK]
      have eP := (po_eq hk3).trans eP
      have eK := (kp_eq hk3).trans eK
      have h35 := (hk3.1 35 (by decide)).trans h35
      have h36 := (hk3.1 36 (by decide)).trans h36
      have hW := (hk3.2.1 15 (by decide)).symm ▸ hW
      have hl := hl.tr (hk3.mono (F2 := FG) (R2 := RG) (by decide) (by decide))
      show Ex _ 0 0 _ _ _ (Value.int _ :: _) _ _
      refine ex_if_eqN 30 dX12_goesOn_25 (by decide) (by first | omega | exact bN_lt) (fun q25 => ?_) (fun q25 => ?_)
      · skip
        refine ex_iconstN (nI 0) dX12_goesOn_30 (by decide) ?_
        refine ex_istore_n dX12_goesOn_31 (by decide) ?_
        refine l_go32 (σ := σ3) hp.1 hp.2.2.1 (by omega) (fun h2 hm hs => ?_) m 0 _ (by omega) (by rw [fill_0, rs_self]; exact hm) hs
        rw [show σ3.2.1 13 = (pn K p n).1 from congrArg (fun z => z.1) eP] at hm
        refine ex_aload_n dX12_goesOn_63 rfl rfl ?_
        refine ex_getf fX12_71 dX12_goesOn_64 hm.1 rfl ?_
        refine ex_bipushN (nI 14) dX12_goesOn_67 (by decide) ?_
        refine ex_iload_n dX12_goesOn_69 rfl ?_
        refine ex_imulN dX12_goesOn_70 ?_
        refine ex_bipushN (nI 13) dX12_goesOn_71 (by decide) ?_
        refine ex_iaddN dX12_goesOn_73 ?_
        refine ex_aload_n dX12_goesOn_74 rfl rfl ?_
        refine ex_getf fX12_133 dX12_goesOn_75 hm.1 (congrArg (fun z => some (Value.int z)) (show _ = (pn K p n).2.2.1 from congrArg (fun z => z.2.2.1) eP)) ?_
        refine m_astR hm hs dX12_goesOn_78 (by decide) (by decide) rfl (by show _ < 4214; first | omega | exact bN_lt) (fun h1 hm hs => ?_)
        refine ex_iconstN (nI 0) dX12_goesOn_79 (by decide) ?_
        refine ex_istore_n dX12_goesOn_80 (by decide) ?_
        obtain ⟨σ5, e5⟩ : ∃ σ5 : am_S, σ5 = (σ3.1, (rs σ3.2.1 15 (upd (fill (σ3.2.1 15) (14 * n) m (pn K p n).1) (14 * n + 13) (pn K p n).2.2.1)), σ3.2.2) := ⟨_, rfl⟩
        have hW5 : WI m (σ5.2.1 15) (n + 1) (pn K p) := by rw [e5]; exact WI.s hp.2.2.1 hW
        have fe : fsc (fun i => wsf (σ5.2.1 15) n i m) n 0 = fsc (fun e => sam p.2.1 (pn K p n) (pn K p e)) n 0 := fsc_c n 0 (fun i _ hi => by rw [eM]; exact hW5.ws (by omega))
        have hl5 : Lk FG RG σ σ5 := by rw [e5]; exact hl.tr (Lk.rw (F := FG) (R := RG) (σ := σ3) (k := 15) (by decide))
        have eP5 : po σ5 m = pn K p n := by rw [e5]; exact eP
        have hL5 : σ5.2.1 1 114 = nI L := by rw [e5]; exact (congrFun eK 114).trans hL
        have eK : σ5.2.1 1 = K := by rw [e5]; exact eK
        have h35 : σ5.1 35 = nI n := by rw [e5]; exact h35
        have h36 : σ5.1 36 = -1 := by rw [e5]; exact h36
        have hp : Ps σ5 m := by rw [e5]; exact hp
        rw [← e5] at hm
        refine l_go81 (σ := σ5) hp.1 hp.2.2.1 (by omega) hm hs n 0 (by omega) (fun e2 h2 hf2 hm hs => ?_) (fun hfs => ?_)
        · exact ⟨by rw [show gon K p L (nn + 1 + 1) = (2, n, some e2) by show (if endv K (pn K p (L - (nn + 1))) = true then _ else _) = _; rw [← hn0]; exact (if_neg (fun z => Bool.false_ne_true ((bt.mp q16).symm.trans z))).trans ((if_neg (fun z => Bool.false_ne_true ((bt.mp q25).symm.trans z))).trans (by rw [← fe, hf2]))], _, hm, by exact hl5.tr (Lk.up (F := FG) (R := RG) (by decide)), ⟨hp.1, hp.2.1, hp.2.2.1, hp.2.2.2⟩, by rw [show gon K p L (nn + 1 + 1) = (2, n, some e2) by show (if endv K (pn K p (L - (nn + 1))) = true then _ else _) = _; rw [← hn0]; exact (if_neg (fun z => Bool.false_ne_true ((bt.mp q16).symm.trans z))).trans ((if_neg (fun z => Bool.false_ne_true ((bt.mp q25).symm.trans z))).trans (by rw [← fe, hf2]))]; exact eP5, by rw [show gon K p L (nn + 1 + 1) = (2, n, some e2) by show (if endv K (pn K p (L - (nn + 1))) = true then _ else _) = _; rw [← hn0]; exact (if_neg (fun z => Bool.false_ne_true ((bt.mp q16).symm.trans z))).trans ((if_neg (fun z => Bool.false_ne_true ((bt.mp q25).symm.trans z))).trans (by rw [← fe, hf2]))]; exact h35, by rw [show gon K p L (nn + 1 + 1) = (2, n, some e2) by show (if endv K (pn K p (L - (nn + 1))) = true then _ else _) = _; rw [← hn0]; exact (if_neg (fun z => Bool.false_ne_true ((bt.mp q16).symm.trans z))).trans ((if_neg (fun z => Bool.false_ne_true ((bt.mp q25).symm.trans z))).trans (by rw [← fe, hf2]))]; rfl, hs⟩
        · rw [fe] at hfs
          refine ex_iload_n dX12_goesOn_111 rfl ?_
          refine ex_aload_n dX12_goesOn_112 rfl rfl ?_
          refine ex_getf fX12_24 dX12_goesOn_113 hm.1 rfl ?_
          refine ex_bipushN (nI 114) dX12_goesOn_116 (by decide) ?_
          refine m_aldv hm dX12_goesOn_118 (by decide) (by decide) rfl (by show _ < 5725; first | omega | exact bN_lt) ((show σ5.2.1 1 114 = nI L from hL5)) ?_
          refine ex_icmp_neN 124 dX12_goesOn_119 (by decide) (by first | omega | exact bN_lt) (by first | omega | exact bN_lt) (fun q119 => ?_) (fun q119 => ?_)
          · skip
            refine ex_aload_n dX12_goesOn_124 rfl rfl ?_
            refine ex_callV0 (dc := 72) (as := []) dX12_goesOn_125 MX12_steps kX12_343 iX12_steps sX12_steps rfl rfl hm.1 rfl rfl (Nat.le_of_ble_eq_true rfl) (Nat.le_of_ble_eq_true rfl) (by first | decide | omega) (e_steps (σ := σ5) (by rw [show σ5.2.1 1 = K from eK]; exact hw) ⟨hp.1, hp.2.1, hp.2.2.1, hp.2.2.2⟩ (by rw [eP5, show σ5.2.1 1 = K from eK, ← eM, ← pn_m (K := K) n]; exact (stk_no (bt.mp q16) (bt.mp q25)).1) (by rw [eP5, show σ5.2.1 1 = K from eK, ← eM, ← pn_m (K := K) n]; exact (stk_no (bt.mp q16) (bt.mp q25)).2) hm) (fun r h2 q => ?_)
            obtain ⟨rfl, σ6, hm, hk6, hp, eP6, hs2⟩ := q
            have hs := hs.tr hs2
            rw [eP5, show σ5.2.1 1 = K from eK] at eP6
            have eK6 := (wk_eq hk6 (by decide)).trans (show σ5.2.1 1 = K from eK)
            have hW6 := (hk6.2.1 15 (by decide)).symm ▸ hW5
            have h36 := (hk6.1 36 (by decide)).trans (show σ5.1 36 = -1 from h36)
            have hl := hl5.tr (hk6.mono (F2 := FG) (R2 := RG) (by decide) (by decide))
            show Ex _ 0 0 _ _ _ _ _ _
            refine ex_iincN 1 dX12_goesOn_128 (by decide) rfl (by decide) ?_
            refine ex_goto 7 dX12_goesOn_131 (by decide) ?_
            rw [show gon K p L (nn + 1 + 1) = gon K p L (nn + 1) by show (if endv K (pn K p (L - (nn + 1))) = true then _ else _) = _; rw [← hn0]; exact (if_neg (fun z => Bool.false_ne_true ((bt.mp q16).symm.trans z))).trans ((if_neg (fun z => Bool.false_ne_true ((bt.mp q25).symm.trans z))).trans (by rw [hfs]; exact if_neg (by omega)))]
            exact ih (n + 1) _ _ _ (by omega) hm hl hp eK6 eP6 h36 hW6 eM hs
          · skip
            exact absurd q119 (by omega)
      · skip
        refine ex_iconstN (nI 1) dX12_goesOn_28 (by decide) ?_
        refine ex_iret rfl dX12_goesOn_29 ?_
        exact ⟨by rw [show gon K p L (nn + 1 + 1) = (1, n, none) by show (if endv K (pn K p (L - (nn + 1))) = true then _ else _) = _; rw [← hn0]; exact (if_neg (fun z => Bool.false_ne_true ((bt.mp q16).symm.trans z))).trans (if_pos (bn.mp q25))], _, hm, hl, hp, by rw [show gon K p L (nn + 1 + 1) = (1, n, none) by show (if endv K (pn K p (L - (nn + 1))) = true then _ else _) = _; rw [← hn0]; exact (if_neg (fun z => Bool.false_ne_true ((bt.mp q16).symm.trans z))).trans (if_pos (bn.mp q25))]; exact eP, by rw [show gon K p L (nn + 1 + 1) = (1, n, none) by show (if endv K (pn K p (L - (nn + 1))) = true then _ else _) = _; rw [← hn0]; exact (if_neg (fun z => Bool.false_ne_true ((bt.mp q16).symm.trans z))).trans (if_pos (bn.mp q25))]; exact h35, by rw [show gon K p L (nn + 1 + 1) = (1, n, none) by show (if endv K (pn K p (L - (nn + 1))) = true then _ else _) = _; rw [← hn0]; exact (if_neg (fun z => Bool.false_ne_true ((bt.mp q16).symm.trans z))).trans (if_pos (bn.mp q25))]; exact h36, hs⟩
    · skip
      refine ex_iconstN (nI 0) dX12_goesOn_19 (by decide) ?_
      refine ex_iret rfl dX12_goesOn_20 ?_
      exact ⟨by rw [show gon K p L (nn + 1 + 1) = (0, n, none) by show (if endv K (pn K p (L - (nn + 1))) = true then _ else _) = _; rw [← hn0]; exact if_pos (bn.mp q16)], _, hm, hl, hp, by rw [show gon K p L (nn + 1 + 1) = (0, n, none) by show (if endv K (pn K p (L - (nn + 1))) = true then _ else _) = _; rw [← hn0]; exact if_pos (bn.mp q16)]; exact eP, by rw [show gon K p L (nn + 1 + 1) = (0, n, none) by show (if endv K (pn K p (L - (nn + 1))) = true then _ else _) = _; rw [← hn0]; exact if_pos (bn.mp q16)]; exact h35, by rw [show gon K p L (nn + 1 + 1) = (0, n, none) by show (if endv K (pn K p (L - (nn + 1))) = true then _ else _) = _; rw [← hn0]; exact if_pos (bn.mp q16)]; exact h36, hs⟩
set_option maxHeartbeats 400000 in
set_option maxRecDepth 100000 in
theorem e_goesOn {b : Nat} {h : am_H} {σ : am_S} {m L : Nat} (hw : WK (σ.2.1 1)) (hL : σ.2.1 1 114 = nI L) (hL3 : L ≤ 300) (hp : Ps σ m) (hm : Mo b h σ) : Ex 74 0 0 mX12_goesOn 0 (am_en [.ref b] 3) [] h (fun r h2 => r = some (.int (nI (gon (σ.2.1 1) (po σ m) L (L + 1)).1)) ∧ ∃ σ2, Mo b h2 σ2 ∧ Lk FG RG σ σ2 ∧ Ps σ2 m ∧ po σ2 m = pn (σ.2.1 1) (po σ m) (gon (σ.2.1 1) (po σ m) L (L + 1)).2.1 ∧ σ2.1 35 = nI (gon (σ.2.1 1) (po σ m) L (L + 1)).2.1 ∧ σ2.1 36 = oN (gon (σ.2.1 1) (po σ m) L (L + 1)).2.2 ∧ Same b h h2) := by
  have hs : Same b h h := Same.rf
  refine ex_aload_n dX12_goesOn_0 rfl rfl ?_
  refine ex_iconstN (-1) dX12_goesOn_1 (by decide) ?_
  refine m_put hm hs pX12_333 dX12_goesOn_2 (by decide) (ms36 _ _ _) (fun h1 hm hs => ?_)
  refine ex_iconstN (nI 0) dX12_goesOn_5 (by decide) ?_
  refine ex_istore_n dX12_goesOn_6 (by decide) ?_
  exact l_goesOn (σ := σ) hw hL hL3 L 0 _ _ _ (by omega) hm (Lk.up (F := FG) (R := RG) (by decide)) ⟨hp.1, hp.2.1, hp.2.2.1, hp.2.2.2⟩ rfl rfl rfl (fun j hj => absurd hj (by omega)) rfl hs
