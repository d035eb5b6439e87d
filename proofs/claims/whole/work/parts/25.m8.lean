/-! THE REFERENCE: a heap made; rows: the next one, the first one -/
theorem ex_iincP {dp nc ns : Nat} {M : am_M} {pc : Nat} {L st : List Value} {h : am_H} {Q : Option Value → am_H → Prop} {i : Nat} {a : Nat} (d : decode M.2.1 pc = .ok (.iinc i (-1), 3)) (hv : L[i]? = some (.int (nI a))) (hn : i < M.2.2.1) (ha : 1 ≤ a) (k : Ex dp nc ns M (pc + 3) (am_st1 L i (.int (nI (a - 1)))) st h Q) : Ex dp nc ns M pc L st h Q := by
  obtain ⟨c, rfl⟩ : ∃ c, a = c + 1 := ⟨a - 1, by omega⟩
  exact ex_iincD d hv hn k
theorem fill_out {f : Nat → Int32} {off k i : Nat} {s : Nat → Int32} (h : i < off ∨ off + k ≤ i) : fill f off k s i = f i := if_neg (by omega)
theorem fill_in {f : Nat → Int32} {off k i : Nat} {s : Nat → Int32} (h : off ≤ i) (h2 : i < off + k) : fill f off k s i = s (i - off) := if_pos ⟨h, h2⟩
def cdk (f : Nat → Int32) : Nat → Bool
  | 0 => true
  | k + 1 => cdk f k && decide (nI 0 ≤ f k ∧ f k ≤ nI 13)
theorem cdk_s {f : Nat → Int32} {k : Nat} : cdk f (k + 1) = true ↔ cdk f k = true ∧ (nI 0 ≤ f k ∧ f k ≤ nI 13) := by simp [cdk]
theorem cdk_mono {f : Nat → Int32} {k t : Nat} (h : k ≤ t) (ht : cdk f t = true) : cdk f k = true := by
  induction t with
  | zero => obtain rfl : k = 0 := by omega
            exact ht
  | succ t ih =>
    by_cases e : k = t + 1
    · subst e; exact ht
    · exact ih (by omega) (cdk_s.mp ht).1
set_option maxHeartbeats 400000 in
set_option maxRecDepth 100000 in
theorem l_heap1 {b : Nat} {h0 : am_H} {σ : am_S} {t n : Nat} {x5 : Value} (ht : t ≤ 400) {Q : Option Value → am_H → Prop} (hQ : ∀ (h2 : am_H) (z k : Nat), Mo b h2 σ → Same b h0 h2 → z = bN (cdk (σ.2.1 6) t = true) → Ex 2 0 0 mX12_heap 72 [.ref b, .int (nI t), .int (nI n), .int (nI z), .int (nI k), x5] [] h2 Q) : ∀ (nn k : Nat) (h : am_H), k + nn = t → ∀ z, z = bN (cdk (σ.2.1 6) k = true) → Mo b h σ → Same b h0 h → Ex 2 0 0 mX12_heap 42 [.ref b, .int (nI t), .int (nI n), .int (nI z), .int (nI k), x5] [] h Q := by
  intro nn
  induction nn with
  | zero =>
    intro k h hk z hz hm hs
    refine ex_iload dX12_heap_42 rfl ?_
    refine ex_iload_n dX12_heap_44 rfl ?_
    refine ex_icmp_geN 72 dX12_heap_45 (by decide) (by first | omega | (subst hz; exact bN_lt) | exact bN_lt) (by first | omega | (subst hz; exact bN_lt) | exact bN_lt) (fun q45 => ?_) (fun q45 => ?_)
    · skip
      obtain rfl : k = t := by omega
      exact hQ _ z k hm hs hz
    · skip
      exact absurd q45 (by omega)
  | succ nn ih =>
    intro k h hk z hz hm hs
    refine ex_iload dX12_heap_42 rfl ?_
    refine ex_iload_n dX12_heap_44 rfl ?_
    refine ex_icmp_geN 72 dX12_heap_45 (by decide) (by first | omega | (subst hz; exact bN_lt) | exact bN_lt) (by first | omega | (subst hz; exact bN_lt) | exact bN_lt) (fun q45 => ?_) (fun q45 => ?_)
    · skip
      obtain rfl : k = t := by omega
      exact hQ _ z k hm hs hz
    · skip
      refine ex_iload_n dX12_heap_48 rfl ?_
      refine ex_if_eqN 72 dX12_heap_49 (by decide) (by first | omega | (subst hz; exact bN_lt) | exact bN_lt) (fun q49 => ?_) (fun q49 => ?_)
      · skip
        exact hQ _ z k hm hs (by rw [q49, bN_f (fun y => bN_0.mp (hz.symm.trans q49) (cdk_mono (by omega) y))])
      · skip
        refine ex_aload_n dX12_heap_52 rfl rfl ?_
        refine ex_getf fX12_41 dX12_heap_53 hm.1 rfl ?_
        refine ex_iload dX12_heap_56 rfl ?_
        refine m_bld hm dX12_heap_58 (by decide) (by decide) rfl (by show _ < 400; first | omega | (subst hz; exact bN_lt) | exact bN_lt) ?_
        refine ex_iconstN (nI 0) dX12_heap_59 (by decide) ?_
        refine ex_bipushN (nI 13) dX12_heap_60 (by decide) ?_
        refine ex_callS0 (dc := 0) (as := [.int _, .int _, .int _]) dX12_heap_62 MX12_lies kX12_102 tX12_lies rfl rfl (Nat.le_of_ble_eq_true rfl) (Nat.le_of_ble_eq_true rfl) (by decide) (e_lies _ _ _ _) (fun r h2 q => ?_)
        obtain ⟨rfl, rfl⟩ := q
        show Ex _ 0 0 _ _ _ (Value.int _ :: _) _ _
        refine ex_istore_n dX12_heap_65 (by decide) ?_
        refine ex_iincN 1 dX12_heap_66 (by decide) rfl (by decide) ?_
        refine ex_goto 42 dX12_heap_69 (by decide) ?_
        exact ih (k + 1) _ (by omega) _ (bN_c ⟨fun y => cdk_s.mpr ⟨bN_n.mp (by rw [← hz]; exact q49), y⟩, fun y => (cdk_s.mp y).2⟩) hm hs
set_option maxHeartbeats 400000 in
set_option maxRecDepth 100000 in
theorem l_heap2 {b : Nat} {h0 : am_H} {σ : am_S} {t n z : Nat} (ht : t ≤ 13) (hn : σ.2.1 1 96 = nI n) (hn6 : n < 6) {Q : Option Value → am_H → Prop} (hQ : ∀ h2, Mo b h2 (upd (upd σ.1 39 (nI 0)) 0 (nI 0), rs σ.2.1 1 (upd (fill (upd (upd (upd (σ.2.1 1) (16 * n + 0) (nI t)) (16 * n + 1) (nI 0)) (16 * n + 2) (nI 0)) (16 * n + 3) 13 (fun i => if i < t then σ.2.1 6 i else nI 0)) 96 (nI (n + 1))), σ.2.2) → Same b h0 h2 → Q (some (.int (nI n))) h2) : ∀ (nn k : Nat) (h : am_H), k + nn = 13 → Mo b h (σ.1, rs σ.2.1 1 (fill (upd (upd (upd (σ.2.1 1) (16 * n + 0) (nI t)) (16 * n + 1) (nI 0)) (16 * n + 2) (nI 0)) (16 * n + 3) k (fun i => if i < t then σ.2.1 6 i else nI 0)), σ.2.2) → Same b h0 h → Ex 2 0 0 mX12_heap 122 [.ref b, .int (nI t), .int (nI n), .int (nI z), .int (nI (16 * n)), .int (nI k)] [] h Q := by
  intro nn
  induction nn with
  | zero =>
    intro k h hk hm hs
    refine ex_iload dX12_heap_122 rfl ?_
    refine ex_bipushN (nI 13) dX12_heap_124 (by decide) ?_
    refine ex_icmp_geN 164 dX12_heap_126 (by decide) (by omega) (by omega) (fun q126 => ?_) (fun q126 => ?_)
    · skip
      obtain rfl : k = 13 := by omega
      refine ex_aload_n dX12_heap_164 rfl rfl ?_
      refine ex_getf fX12_24 dX12_heap_165 hm.1 rfl ?_
      refine ex_bipushN (nI 96) dX12_heap_168 (by decide) ?_
      refine ex_dup2 dX12_heap_170 rfl rfl ?_
      refine m_aldv hm dX12_heap_171 (by decide) (by decide) rfl (by show _ < 5725; omega) (show fill (upd (upd (upd (σ.2.1 1) (16 * n + 0) (nI t)) (16 * n + 1) (nI 0)) (16 * n + 2) (nI 0)) (16 * n + 3) 13 (fun i => if i < t then σ.2.1 6 i else nI 0) 96 = nI n by rw [fill_out (by omega), pk_un (by omega), pk_un (by omega), pk_un (by omega)]; exact hn) ?_
      refine ex_iconstN (nI 1) dX12_heap_172 (by decide) ?_
      refine ex_iaddN dX12_heap_173 ?_
      refine m_ast hm hs dX12_heap_174 (by decide) (by decide) rfl (by show _ < 5725; omega) (fun h1 hm hs => ?_)
      refine ex_aload_n dX12_heap_175 rfl rfl ?_
      refine ex_iload_n dX12_heap_176 rfl ?_
      refine ex_callV0 (dc := 1) (as := [.int _]) dX12_heap_177 MX12_settled kX12_109 iX12_settled sX12_settled rfl rfl hm.1 rfl rfl (Nat.le_of_ble_eq_true rfl) (Nat.le_of_ble_eq_true rfl) (by decide) (e_settled _ hm) (fun r h2 q => ?_)
      obtain ⟨rfl, hm, hs2⟩ := q
      have hs := hs.tr hs2
      show Ex _ 0 0 _ _ _ (Value.int _ :: _) _ _
      refine ex_iret rfl dX12_heap_180 ?_
      exact hQ _ (by rw [← u2_rs]; exact hm) hs
    · skip
      exact absurd q126 (by omega)
  | succ nn ih =>
    intro k h hk hm hs
    refine ex_iload dX12_heap_122 rfl ?_
    refine ex_bipushN (nI 13) dX12_heap_124 (by decide) ?_
    refine ex_icmp_geN 164 dX12_heap_126 (by decide) (by omega) (by omega) (fun q126 => ?_) (fun q126 => ?_)
    · skip
      obtain rfl : k = 13 := by omega
      refine ex_aload_n dX12_heap_164 rfl rfl ?_
      refine ex_getf fX12_24 dX12_heap_165 hm.1 rfl ?_
      refine ex_bipushN (nI 96) dX12_heap_168 (by decide) ?_
      refine ex_dup2 dX12_heap_170 rfl rfl ?_
      refine m_aldv hm dX12_heap_171 (by decide) (by decide) rfl (by show _ < 5725; omega) (show fill (upd (upd (upd (σ.2.1 1) (16 * n + 0) (nI t)) (16 * n + 1) (nI 0)) (16 * n + 2) (nI 0)) (16 * n + 3) 13 (fun i => if i < t then σ.2.1 6 i else nI 0) 96 = nI n by rw [fill_out (by omega), pk_un (by omega), pk_un (by omega), pk_un (by omega)]; exact hn) ?_
      refine ex_iconstN (nI 1) dX12_heap_172 (by decide) ?_
      refine ex_iaddN dX12_heap_173 ?_
      refine m_ast hm hs dX12_heap_174 (by decide) (by decide) rfl (by show _ < 5725; omega) (fun h1 hm hs => ?_)
      refine ex_aload_n dX12_heap_175 rfl rfl ?_
      refine ex_iload_n dX12_heap_176 rfl ?_
      refine ex_callV0 (dc := 1) (as := [.int _]) dX12_heap_177 MX12_settled kX12_109 iX12_settled sX12_settled rfl rfl hm.1 rfl rfl (Nat.le_of_ble_eq_true rfl) (Nat.le_of_ble_eq_true rfl) (by decide) (e_settled _ hm) (fun r h2 q => ?_)
      obtain ⟨rfl, hm, hs2⟩ := q
      have hs := hs.tr hs2
      show Ex _ 0 0 _ _ _ (Value.int _ :: _) _ _
      refine ex_iret rfl dX12_heap_180 ?_
      exact hQ _ (by rw [← u2_rs]; exact hm) hs
    · skip
      refine ex_aload_n dX12_heap_129 rfl rfl ?_
      refine ex_getf fX12_24 dX12_heap_130 hm.1 rfl ?_
      refine ex_iload dX12_heap_133 rfl ?_
      refine ex_iconstN (nI 3) dX12_heap_135 (by decide) ?_
      refine ex_iaddN dX12_heap_136 ?_
      refine ex_iload dX12_heap_137 rfl ?_
      refine ex_iaddN dX12_heap_139 ?_
      refine ex_iload dX12_heap_140 rfl ?_
      refine ex_iload_n dX12_heap_142 rfl ?_
      refine ex_icmp_geN 156 dX12_heap_143 (by decide) (by omega) (by omega) (fun q143 => ?_) (fun q143 => ?_)
      · skip
        refine ex_iconstN (nI 0) dX12_heap_156 (by decide) ?_
        refine m_ast hm hs dX12_heap_157 (by decide) (by decide) rfl (by show _ < 5725; omega) (fun h1 hm hs => ?_)
        refine ex_iincN 1 dX12_heap_158 (by decide) rfl (by decide) ?_
        refine ex_goto 122 dX12_heap_161 (by decide) ?_
        exact ih (k + 1) _ (by omega) (by rw [← fill_s, ← u2_rs]; first | (simp only [if_pos (show k < t by omega)]; exact hm) | (simp only [if_neg (show ¬ k < t by omega)]; exact hm)) hs
      · skip
        refine ex_aload_n dX12_heap_146 rfl rfl ?_
        refine ex_getf fX12_41 dX12_heap_147 hm.1 rfl ?_
        refine ex_iload dX12_heap_150 rfl ?_
        refine m_bld hm dX12_heap_152 (by decide) (by decide) rfl (by show _ < 400; omega) ?_
        refine ex_goto 157 dX12_heap_153 (by decide) ?_
        refine m_ast hm hs dX12_heap_157 (by decide) (by decide) rfl (by show _ < 5725; omega) (fun h1 hm hs => ?_)
        refine ex_iincN 1 dX12_heap_158 (by decide) rfl (by decide) ?_
        refine ex_goto 122 dX12_heap_161 (by decide) ?_
        exact ih (k + 1) _ (by omega) (by rw [← fill_s, ← u2_rs]; first | (simp only [if_pos (show k < t by omega)]; exact hm) | (simp only [if_neg (show ¬ k < t by omega)]; exact hm)) hs
set_option maxHeartbeats 400000 in
set_option maxRecDepth 100000 in
theorem e_heap {b : Nat} {h : am_H} {σ : am_S} {t n : Nat} (h12 : σ.1 12 = nI t) (ht : t ≤ 400) (hn : σ.2.1 1 96 = nI n) (hn6 : n < 6) (ht1 : 1 ≤ t) (ht13 : t ≤ 13) (hc : cdk (σ.2.1 6) t = true) (hm : Mo b h σ) : Ex 2 0 0 mX12_heap 0 (am_en [.ref b] 6) [] h (fun r h2 => r = some (.int (nI n)) ∧ Mo b h2 (upd (upd (upd σ.1 12 (nI 0)) 39 (nI 0)) 0 (nI 0), rs σ.2.1 1 (upd (fill (upd (upd (upd (σ.2.1 1) (16 * n + 0) (nI t)) (16 * n + 1) (nI 0)) (16 * n + 2) (nI 0)) (16 * n + 3) 13 (fun i => if i < t then σ.2.1 6 i else nI 0)) 96 (nI (n + 1))), σ.2.2) ∧ Same b h h2) := by
  have hs : Same b h h := Same.rf
  refine ex_aload_n dX12_heap_0 rfl rfl ?_
  refine ex_getf fX12_115 dX12_heap_1 hm.1 (congrArg (fun z => some (Value.int z)) h12) ?_
  refine ex_istore_n dX12_heap_4 (by decide) ?_
  refine ex_aload_n dX12_heap_5 rfl rfl ?_
  refine ex_iconstN (nI 0) dX12_heap_6 (by decide) ?_
  refine m_put hm hs pX12_115 dX12_heap_7 (by decide) (ms12 _ _ _) (fun h1 hm hs => ?_)
  refine ex_aload_n dX12_heap_10 rfl rfl ?_
  refine ex_getf fX12_24 dX12_heap_11 hm.1 rfl ?_
  refine ex_bipushN (nI 96) dX12_heap_14 (by decide) ?_
  refine m_aldv hm dX12_heap_16 (by decide) (by decide) rfl (by show _ < 5725; omega) (hn) ?_
  refine ex_istore_n dX12_heap_17 (by decide) ?_
  refine ex_iload_n dX12_heap_18 rfl ?_
  refine ex_bipushN (nI 6) dX12_heap_19 (by decide) ?_
  refine ex_icmp_neN 31 dX12_heap_21 (by decide) (by omega) (by omega) (fun q21 => ?_) (fun q21 => ?_)
  · skip
    refine ex_iload_n dX12_heap_31 rfl ?_
    refine ex_iconstN (nI 1) dX12_heap_32 (by decide) ?_
    refine ex_bipushN (nI 13) dX12_heap_33 (by decide) ?_
    refine ex_callS0 (dc := 0) (as := [.int _, .int _, .int _]) dX12_heap_35 MX12_lies kX12_102 tX12_lies rfl rfl (Nat.le_of_ble_eq_true rfl) (Nat.le_of_ble_eq_true rfl) (by decide) (e_lies _ _ _ _) (fun r h2 q => ?_)
    obtain ⟨rfl, rfl⟩ := q
    show Ex _ 0 0 _ _ _ (Value.int _ :: _) _ _
    rw [bN_t (lies_t (by omega) (by omega) (by omega))]
    refine ex_istore_n dX12_heap_38 (by decide) ?_
    refine ex_iconstN (nI 0) dX12_heap_39 (by decide) ?_
    refine ex_istore dX12_heap_40 (by decide) ?_
    refine l_heap1 (σ := (upd σ.1 12 (nI 0), σ.2)) ht (fun h2 z k hm hs hz => ?_) t 0 _ (by omega) _ (bN_t (show cdk _ 0 = true from rfl)).symm hm hs
    rw [bN_t hc] at hz
    subst hz
    refine ex_iload_n dX12_heap_72 rfl ?_
    refine ex_if_neN 83 dX12_heap_73 (by decide) (by omega) (fun q73 => ?_) (fun q73 => ?_)
    · skip
      refine ex_iload_n dX12_heap_83 rfl ?_
      refine ex_callS0 (dc := 0) (as := [.int _]) dX12_heap_84 MX12_placeOf kX12_112 tX12_placeOf rfl rfl (Nat.le_of_ble_eq_true rfl) (Nat.le_of_ble_eq_true rfl) (by decide) (e_placeOf _ _) (fun r h2 q => ?_)
      obtain ⟨rfl, rfl⟩ := q
      show Ex _ 0 0 _ _ _ (Value.int _ :: _) _ _
      rw [pl_nI]
      refine ex_istore dX12_heap_87 (by decide) ?_
      refine ex_aload_n dX12_heap_89 rfl rfl ?_
      refine ex_getf fX12_24 dX12_heap_90 hm.1 rfl ?_
      refine ex_iload dX12_heap_93 rfl ?_
      refine ex_iconstN (nI 0) dX12_heap_95 (by decide) ?_
      refine ex_iaddN dX12_heap_96 ?_
      refine ex_iload_n dX12_heap_97 rfl ?_
      refine m_ast hm hs dX12_heap_98 (by decide) (by decide) rfl (by show _ < 5725; omega) (fun h1 hm hs => ?_)
      refine ex_aload_n dX12_heap_99 rfl rfl ?_
      refine ex_getf fX12_24 dX12_heap_100 hm.1 rfl ?_
      refine ex_iload dX12_heap_103 rfl ?_
      refine ex_iconstN (nI 1) dX12_heap_105 (by decide) ?_
      refine ex_iaddN dX12_heap_106 ?_
      refine ex_iconstN (nI 0) dX12_heap_107 (by decide) ?_
      refine m_ast hm hs dX12_heap_108 (by decide) (by decide) rfl (by show _ < 5725; omega) (fun h1 hm hs => ?_)
      refine ex_aload_n dX12_heap_109 rfl rfl ?_
      refine ex_getf fX12_24 dX12_heap_110 hm.1 rfl ?_
      refine ex_iload dX12_heap_113 rfl ?_
      refine ex_iconstN (nI 2) dX12_heap_115 (by decide) ?_
      refine ex_iaddN dX12_heap_116 ?_
      refine ex_iconstN (nI 0) dX12_heap_117 (by decide) ?_
      refine m_ast hm hs dX12_heap_118 (by decide) (by decide) rfl (by show _ < 5725; omega) (fun h1 hm hs => ?_)
      refine ex_iconstN (nI 0) dX12_heap_119 (by decide) ?_
      refine ex_istore dX12_heap_120 (by decide) ?_
      exact l_heap2 (σ := (upd σ.1 12 (nI 0), σ.2)) ht13 hn hn6 (fun h2 hm hs => ⟨rfl, hm, hs⟩) 13 0 _ (by omega) (by rw [fill_0, ← u2_rs, ← u2_rs, ← u2_eq]; exact hm) hs
    · skip
      exact absurd q73 (by decide)
  · skip
    exact absurd q21 (by omega)
set_option maxHeartbeats 400000 in
set_option maxRecDepth 100000 in
theorem e_heap_bad {b : Nat} {h : am_H} {σ : am_S} {t n : Nat} (h12 : σ.1 12 = nI t) (ht : t ≤ 400) (hn : σ.2.1 1 96 = nI n) (hn6 : n < 6) (ht1 : 1 ≤ t) (ht13 : t ≤ 13) (hc : ¬ cdk (σ.2.1 6) t = true) (hm : Mo b h σ) : Ex 2 0 0 mX12_heap 0 (am_en [.ref b] 6) [] h (fun r h2 => r = some (.int (-6)) ∧ Mo b h2 (rfz (upd σ.1 12 (nI 0), σ.2) (-6) 6) ∧ Same b h h2) := by
  have hs : Same b h h := Same.rf
  refine ex_aload_n dX12_heap_0 rfl rfl ?_
  refine ex_getf fX12_115 dX12_heap_1 hm.1 (congrArg (fun z => some (Value.int z)) h12) ?_
  refine ex_istore_n dX12_heap_4 (by decide) ?_
  refine ex_aload_n dX12_heap_5 rfl rfl ?_
  refine ex_iconstN (nI 0) dX12_heap_6 (by decide) ?_
  refine m_put hm hs pX12_115 dX12_heap_7 (by decide) (ms12 _ _ _) (fun h1 hm hs => ?_)
  refine ex_aload_n dX12_heap_10 rfl rfl ?_
  refine ex_getf fX12_24 dX12_heap_11 hm.1 rfl ?_
  refine ex_bipushN (nI 96) dX12_heap_14 (by decide) ?_
  refine m_aldv hm dX12_heap_16 (by decide) (by decide) rfl (by show _ < 5725; omega) (hn) ?_
  refine ex_istore_n dX12_heap_17 (by decide) ?_
  refine ex_iload_n dX12_heap_18 rfl ?_
  refine ex_bipushN (nI 6) dX12_heap_19 (by decide) ?_
  refine ex_icmp_neN 31 dX12_heap_21 (by decide) (by omega) (by omega) (fun q21 => ?_) (fun q21 => ?_)
  · skip
    refine ex_iload_n dX12_heap_31 rfl ?_
    refine ex_iconstN (nI 1) dX12_heap_32 (by decide) ?_
    refine ex_bipushN (nI 13) dX12_heap_33 (by decide) ?_
    refine ex_callS0 (dc := 0) (as := [.int _, .int _, .int _]) dX12_heap_35 MX12_lies kX12_102 tX12_lies rfl rfl (Nat.le_of_ble_eq_true rfl) (Nat.le_of_ble_eq_true rfl) (by decide) (e_lies _ _ _ _) (fun r h2 q => ?_)
    obtain ⟨rfl, rfl⟩ := q
    show Ex _ 0 0 _ _ _ (Value.int _ :: _) _ _
    rw [bN_t (lies_t (by omega) (by omega) (by omega))]
    refine ex_istore_n dX12_heap_38 (by decide) ?_
    refine ex_iconstN (nI 0) dX12_heap_39 (by decide) ?_
    refine ex_istore dX12_heap_40 (by decide) ?_
    refine l_heap1 (σ := (upd σ.1 12 (nI 0), σ.2)) ht (fun h2 z k hm hs hz => ?_) t 0 _ (by omega) _ (bN_t (show cdk _ 0 = true from rfl)).symm hm hs
    rw [bN_f hc] at hz
    subst hz
    refine ex_iload_n dX12_heap_72 rfl ?_
    refine ex_if_neN 83 dX12_heap_73 (by decide) (by omega) (fun q73 => ?_) (fun q73 => ?_)
    · skip
      exact absurd rfl q73
    · skip
      refine ex_aload_n dX12_heap_76 rfl rfl ?_
      refine ex_bipushN (-6) dX12_heap_77 (by decide) ?_
      refine ex_callV0 (dc := 0) (as := [.int _]) dX12_heap_79 MX12_refuses kX12_106 iX12_refuses sX12_refuses rfl rfl hm.1 rfl rfl (Nat.le_of_ble_eq_true rfl) (Nat.le_of_ble_eq_true rfl) (by decide) (e_refuses (c := 6) (by decide) (by decide) hm) (fun r h2 q => ?_)
      obtain ⟨rfl, hm, hs2⟩ := q
      have hs := hs.tr hs2
      show Ex _ 0 0 _ _ _ (Value.int _ :: _) _ _
      refine ex_iret rfl dX12_heap_82 ?_
      exact ⟨rfl, hm, hs⟩
  · skip
    exact absurd q21 (by omega)
set_option maxHeartbeats 400000 in
set_option maxRecDepth 100000 in
theorem e_heap_size {b : Nat} {h : am_H} {σ : am_S} {t n : Nat} (h12 : σ.1 12 = nI t) (ht : t ≤ 400) (hn : σ.2.1 1 96 = nI n) (hn6 : n < 6) (ht1 : ¬ (1 ≤ t ∧ t ≤ 13)) (hm : Mo b h σ) : Ex 2 0 0 mX12_heap 0 (am_en [.ref b] 6) [] h (fun r h2 => r = some (.int (-6)) ∧ Mo b h2 (rfz (upd σ.1 12 (nI 0), σ.2) (-6) 6) ∧ Same b h h2) := by
  have hs : Same b h h := Same.rf
  refine ex_aload_n dX12_heap_0 rfl rfl ?_
  refine ex_getf fX12_115 dX12_heap_1 hm.1 (congrArg (fun z => some (Value.int z)) h12) ?_
  refine ex_istore_n dX12_heap_4 (by decide) ?_
  refine ex_aload_n dX12_heap_5 rfl rfl ?_
  refine ex_iconstN (nI 0) dX12_heap_6 (by decide) ?_
  refine m_put hm hs pX12_115 dX12_heap_7 (by decide) (ms12 _ _ _) (fun h1 hm hs => ?_)
  refine ex_aload_n dX12_heap_10 rfl rfl ?_
  refine ex_getf fX12_24 dX12_heap_11 hm.1 rfl ?_
  refine ex_bipushN (nI 96) dX12_heap_14 (by decide) ?_
  refine m_aldv hm dX12_heap_16 (by decide) (by decide) rfl (by show _ < 5725; omega) (hn) ?_
  refine ex_istore_n dX12_heap_17 (by decide) ?_
  refine ex_iload_n dX12_heap_18 rfl ?_
  refine ex_bipushN (nI 6) dX12_heap_19 (by decide) ?_
  refine ex_icmp_neN 31 dX12_heap_21 (by decide) (by omega) (by omega) (fun q21 => ?_) (fun q21 => ?_)
  · skip
    refine ex_iload_n dX12_heap_31 rfl ?_
    refine ex_iconstN (nI 1) dX12_heap_32 (by decide) ?_
    refine ex_bipushN (nI 13) dX12_heap_33 (by decide) ?_
    refine ex_callS0 (dc := 0) (as := [.int _, .int _, .int _]) dX12_heap_35 MX12_lies kX12_102 tX12_lies rfl rfl (Nat.le_of_ble_eq_true rfl) (Nat.le_of_ble_eq_true rfl) (by decide) (e_lies _ _ _ _) (fun r h2 q => ?_)
    obtain ⟨rfl, rfl⟩ := q
    show Ex _ 0 0 _ _ _ (Value.int _ :: _) _ _
    rw [bN_f (fun z => ht1 (by obtain ⟨j, h1, h2, e⟩ := lies_of z (by omega) (by omega); have e := (nI_eq (by omega) (by omega)).mp e; omega))]
    refine ex_istore_n dX12_heap_38 (by decide) ?_
    refine ex_iconstN (nI 0) dX12_heap_39 (by decide) ?_
    refine ex_istore dX12_heap_40 (by decide) ?_
    refine ex_iload dX12_heap_42 rfl ?_
    refine ex_iload_n dX12_heap_44 rfl ?_
    refine ex_icmp_geN 72 dX12_heap_45 (by decide) (by omega) (by omega) (fun q45 => ?_) (fun q45 => ?_)
    · skip
      skip
      refine ex_iload_n dX12_heap_72 rfl ?_
      refine ex_if_neN 83 dX12_heap_73 (by decide) (by omega) (fun q73 => ?_) (fun q73 => ?_)
      · skip
        exact absurd rfl q73
      · skip
        refine ex_aload_n dX12_heap_76 rfl rfl ?_
        refine ex_bipushN (-6) dX12_heap_77 (by decide) ?_
        refine ex_callV0 (dc := 0) (as := [.int _]) dX12_heap_79 MX12_refuses kX12_106 iX12_refuses sX12_refuses rfl rfl hm.1 rfl rfl (Nat.le_of_ble_eq_true rfl) (Nat.le_of_ble_eq_true rfl) (by decide) (e_refuses (c := 6) (by decide) (by decide) hm) (fun r h2 q => ?_)
        obtain ⟨rfl, hm, hs2⟩ := q
        have hs := hs.tr hs2
        show Ex _ 0 0 _ _ _ (Value.int _ :: _) _ _
        refine ex_iret rfl dX12_heap_82 ?_
        exact ⟨rfl, hm, hs⟩
    · skip
      refine ex_iload_n dX12_heap_48 rfl ?_
      refine ex_if_eqN 72 dX12_heap_49 (by decide) (by omega) (fun q49 => ?_) (fun q49 => ?_)
      · skip
        refine ex_iload_n dX12_heap_72 rfl ?_
        refine ex_if_neN 83 dX12_heap_73 (by decide) (by omega) (fun q73 => ?_) (fun q73 => ?_)
        · skip
          exact absurd rfl q73
        · skip
          refine ex_aload_n dX12_heap_76 rfl rfl ?_
          refine ex_bipushN (-6) dX12_heap_77 (by decide) ?_
          refine ex_callV0 (dc := 0) (as := [.int _]) dX12_heap_79 MX12_refuses kX12_106 iX12_refuses sX12_refuses rfl rfl hm.1 rfl rfl (Nat.le_of_ble_eq_true rfl) (Nat.le_of_ble_eq_true rfl) (by decide) (e_refuses (c := 6) (by decide) (by decide) hm) (fun r h2 q => ?_)
          obtain ⟨rfl, hm, hs2⟩ := q
          have hs := hs.tr hs2
          show Ex _ 0 0 _ _ _ (Value.int _ :: _) _ _
          refine ex_iret rfl dX12_heap_82 ?_
          exact ⟨rfl, hm, hs⟩
      · skip
        exact absurd rfl q49
  · skip
    exact absurd q21 (by omega)
set_option maxHeartbeats 400000 in
set_option maxRecDepth 100000 in
theorem e_heap_full {b : Nat} {h : am_H} {σ : am_S} {t : Nat} (h12 : σ.1 12 = nI t) (ht : t ≤ 400) (hn : σ.2.1 1 96 = nI 6) (hm : Mo b h σ) : Ex 1 0 0 mX12_heap 0 (am_en [.ref b] 6) [] h (fun r h2 => r = some (.int (-5)) ∧ Mo b h2 (rfz (upd σ.1 12 (nI 0), σ.2) (-5) 5) ∧ Same b h h2) := by
  have hs : Same b h h := Same.rf
  refine ex_aload_n dX12_heap_0 rfl rfl ?_
  refine ex_getf fX12_115 dX12_heap_1 hm.1 (congrArg (fun z => some (Value.int z)) h12) ?_
  refine ex_istore_n dX12_heap_4 (by decide) ?_
  refine ex_aload_n dX12_heap_5 rfl rfl ?_
  refine ex_iconstN (nI 0) dX12_heap_6 (by decide) ?_
  refine m_put hm hs pX12_115 dX12_heap_7 (by decide) (ms12 _ _ _) (fun h1 hm hs => ?_)
  refine ex_aload_n dX12_heap_10 rfl rfl ?_
  refine ex_getf fX12_24 dX12_heap_11 hm.1 rfl ?_
  refine ex_bipushN (nI 96) dX12_heap_14 (by decide) ?_
  refine m_aldv hm dX12_heap_16 (by decide) (by decide) rfl (by show _ < 5725; omega) (hn) ?_
  refine ex_istore_n dX12_heap_17 (by decide) ?_
  refine ex_iload_n dX12_heap_18 rfl ?_
  refine ex_bipushN (nI 6) dX12_heap_19 (by decide) ?_
  refine ex_icmp_neN 31 dX12_heap_21 (by decide) (by omega) (by omega) (fun q21 => ?_) (fun q21 => ?_)
  · skip
    exact absurd rfl q21
  · skip
    refine ex_aload_n dX12_heap_24 rfl rfl ?_
    refine ex_bipushN (-5) dX12_heap_25 (by decide) ?_
    refine ex_callV0 (dc := 0) (as := [.int _]) dX12_heap_27 MX12_refuses kX12_106 iX12_refuses sX12_refuses rfl rfl hm.1 rfl rfl (Nat.le_of_ble_eq_true rfl) (Nat.le_of_ble_eq_true rfl) (by decide) (e_refuses (c := 5) (by decide) (by decide) hm) (fun r h2 q => ?_)
    obtain ⟨rfl, hm, hs2⟩ := q
    have hs := hs.tr hs2
    show Ex _ 0 0 _ _ _ (Value.int _ :: _) _ _
    refine ex_iret rfl dX12_heap_30 ?_
    exact ⟨rfl, hm, hs⟩
def sw2 (c : Nat → Int32) (i j : Nat) : Nat → Int32 := upd (upd c i (c j)) j (c i)
def shf : Nat → (Nat → Int32) → Nat → (Nat → Int32) × Nat
  | 0, c, s => (c, s)
  | a + 1, c, s => shf a (sw2 c (a + 1) (dr s % (a + 2))) (dr s)
theorem upd_self (f : Nat → Int32) (k : Nat) : upd f k (f k) = f := by
  funext i
  by_cases h : i = k
  · subst h; exact pk_us
  · exact pk_un h
set_option maxHeartbeats 400000 in
set_option maxRecDepth 100000 in
theorem l_shuffles {b : Nat} {h0 : am_H} {Q : Option Value → am_H → Prop} : ∀ (a : Nat) (h : am_H) (σ : am_S) (s : Nat) (x2 x3 : Value), a ≤ 12 → σ.1 57 = nI s → s ≤ 1000003 → Mo b h σ → Same b h0 h → (∀ h2, Mo b h2 (upd σ.1 57 (nI (shf a (σ.2.1 13) s).2), rs σ.2.1 13 (shf a (σ.2.1 13) s).1, σ.2.2) → Same b h0 h2 → Q none h2) → Ex 1 0 0 mX12_shuffles 7 [.ref b, .int (nI a), x2, x3] [] h Q := by
  intro a
  induction a with
  | zero =>
    intro h σ s x2 x3 ha h57 hsm hm hs hQ
    refine ex_iload_n dX12_shuffles_7 rfl ?_
    refine ex_if_leN 51 dX12_shuffles_8 (by decide) (by omega) (fun q8 => ?_) (fun q8 => ?_)
    · skip
      refine ex_vret rfl dX12_shuffles_51 ?_
      exact hQ _ (by rw [show (shf 0 (σ.2.1 13) s).1 = σ.2.1 13 from rfl, rs_self, show (shf 0 (σ.2.1 13) s).2 = s from rfl, ← h57, upd_self]; exact hm) hs
    · skip
      exact absurd q8 (by omega)
  | succ a ih =>
    intro h σ s x2 x3 ha h57 hsm hm hs hQ
    have hw := Nat.mod_lt (dr s) (show 0 < a + 1 + 1 by omega)
    have hdl := dr_lt s
    refine ex_iload_n dX12_shuffles_7 rfl ?_
    refine ex_if_leN 51 dX12_shuffles_8 (by decide) (by omega) (fun q8 => ?_) (fun q8 => ?_)
    · skip
      exact absurd q8 (by omega)
    · skip
      refine ex_aload_n dX12_shuffles_11 rfl rfl ?_
      refine ex_iload_n dX12_shuffles_12 rfl ?_
      refine ex_iconstN (nI 1) dX12_shuffles_13 (by decide) ?_
      refine ex_iaddN dX12_shuffles_14 ?_
      refine ex_callV0 (dc := 0) (as := [.int _]) dX12_shuffles_15 MX12_draws kX12_470 iX12_draws sX12_draws rfl rfl hm.1 rfl rfl (Nat.le_of_ble_eq_true rfl) (Nat.le_of_ble_eq_true rfl) (by decide) (e_draws h57 hsm (by omega) (by omega) hm) (fun r h2 q => ?_)
      obtain ⟨rfl, hm, hs2⟩ := q
      have hs := hs.tr hs2
      show Ex _ 0 0 _ _ _ (Value.int _ :: _) _ _
      refine ex_istore_n dX12_shuffles_18 (by decide) ?_
      refine ex_aload_n dX12_shuffles_19 rfl rfl ?_
      refine ex_getf fX12_65 dX12_shuffles_20 hm.1 rfl ?_
      refine ex_iload_n dX12_shuffles_23 rfl ?_
      refine m_ald hm dX12_shuffles_24 (by decide) (by decide) rfl (by show _ < 13; omega) ?_
      refine ex_istore_n dX12_shuffles_25 (by decide) ?_
      refine ex_aload_n dX12_shuffles_26 rfl rfl ?_
      refine ex_getf fX12_65 dX12_shuffles_27 hm.1 rfl ?_
      refine ex_iload_n dX12_shuffles_30 rfl ?_
      refine ex_aload_n dX12_shuffles_31 rfl rfl ?_
      refine ex_getf fX12_65 dX12_shuffles_32 hm.1 rfl ?_
      refine ex_iload_n dX12_shuffles_35 rfl ?_
      refine m_ald hm dX12_shuffles_36 (by decide) (by decide) rfl (by show _ < 13; omega) ?_
      refine m_ast hm hs dX12_shuffles_37 (by decide) (by decide) rfl (by show _ < 13; omega) (fun h1 hm hs => ?_)
      refine ex_aload_n dX12_shuffles_38 rfl rfl ?_
      refine ex_getf fX12_65 dX12_shuffles_39 hm.1 rfl ?_
      refine ex_iload_n dX12_shuffles_42 rfl ?_
      refine ex_iload_n dX12_shuffles_43 rfl ?_
      refine m_ast hm hs dX12_shuffles_44 (by decide) (by decide) rfl (by show _ < 13; omega) (fun h1 hm hs => ?_)
      refine ex_iincP dX12_shuffles_45 rfl (by decide) (by omega) ?_
      refine ex_goto 7 dX12_shuffles_48 (by decide) ?_
      refine ih _ (upd σ.1 57 (nI (dr s)), u2 (u2 σ.2.1 13 (a + 1) (σ.2.1 13 (dr s % (a + 2)))) 13 (dr s % (a + 2)) (σ.2.1 13 (a + 1)), σ.2.2) (dr s) _ _ (by omega) rfl (by omega) hm hs (fun h2 hm hs => hQ h2 ?_ hs)
      have e : u2 (u2 σ.2.1 13 (a + 1) (σ.2.1 13 (dr s % (a + 2)))) 13 (dr s % (a + 2)) (σ.2.1 13 (a + 1)) = rs σ.2.1 13 (sw2 (σ.2.1 13) (a + 1) (dr s % (a + 2))) := by rw [u2_eq σ.2.1, u2_rs]; rfl
      rw [e] at hm
      dsimp only at hm
      rw [rs_at, rs_rs, upd_upd] at hm
      exact hm
set_option maxHeartbeats 400000 in
set_option maxRecDepth 100000 in
theorem e_shuffles {b : Nat} {h : am_H} {σ : am_S} {m s : Nat} (h31 : σ.1 31 = nI m) (hm1 : 1 ≤ m) (hm13 : m ≤ 13) (h57 : σ.1 57 = nI s) (hsm : s ≤ 1000003) (hm : Mo b h σ) : Ex 1 0 0 mX12_shuffles 0 (am_en [.ref b] 4) [] h (fun r h2 => r = none ∧ Mo b h2 (upd σ.1 57 (nI (shf (m - 1) (σ.2.1 13) s).2), rs σ.2.1 13 (shf (m - 1) (σ.2.1 13) s).1, σ.2.2) ∧ Same b h h2) := by
  have hs : Same b h h := Same.rf
  refine ex_aload_n dX12_shuffles_0 rfl rfl ?_
  refine ex_getf fX12_130 dX12_shuffles_1 hm.1 (congrArg (fun z => some (Value.int z)) h31) ?_
  refine ex_iconstN (nI 1) dX12_shuffles_4 (by decide) ?_
  refine ex_isubN dX12_shuffles_5 (by omega) ?_
  refine ex_istore_n dX12_shuffles_6 (by decide) ?_
  exact l_shuffles (m - 1) _ σ s _ _ (by omega) h57 hsm hm hs (fun h2 hm hs => ⟨rfl, hm, hs⟩)
