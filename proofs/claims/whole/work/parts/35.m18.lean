/-! THE REFERENCE: tells, from its entry -/
def askr (A : Nat → Nat → Int32) (m : Nat) (la nu : Int32) : Nat → Int32 := upd (upd (upd (upd (upd (upd (upd (upd (A 11) 0 (if m ≤ 1 then -1 else A 13 1)) 1 (if m ≤ 2 then -1 else A 13 2)) 2 (A 13 (m - 1))) 3 la) 4 nu) 5 (A 1 113)) 6 (A 13 0)) 7 (nI m)
abbrev tsumv (A : Nat → Nat → Int32) (ge n : Nat) : Bool → Nat → Bool → EvR := fun live => sumv A ge n false live
/-- what the law from place g0 to ge tells of a head -/
def tellv (A : Nat → Nat → Int32) (ge n : Nat) (hd0 : Int32) (w : Int64) (g0 : Nat) (br : Bool) : Option (Int64 × Bool × Bool × Nat × Bool) := tlv (tsumv A ge n true) (tsv (tsumv A ge n) A ge 9 true) A ge hd0 402 w false false g0 br
theorem te_in {S : Nat → Int32} {A : Nat → Nat → Int32} {B : Nat → Int64} {g ge : Nat} {br0 : Bool} (h23 : S 23 = nI (bN (br0 = true))) : upd (upd (upd (upd (upd S 25 (nI 0)) 26 (nI 0)) 24 (nI 0)) 21 (nI g)) 22 (nI ge) = (evS (tS (upd (upd S 24 (nI 0)) 22 (nI ge), A, B) false false) g br0).1 := by
  unfold evS tS
  refine funext fun k => ?_
  by_cases h1 : k = 25
  · subst h1; rfl
  · by_cases h2 : k = 26
    · subst h2; rfl
    · by_cases h3 : k = 21
      · subst h3; rfl
      · by_cases h4 : k = 23
        · subst h4; exact h23
        · by_cases h5 : k = 22
          · subst h5; rfl
          · by_cases h6 : k = 24
            · subst h6; rfl
            · simp [upd, h1, h2, h3, h4, h5, h6]
section TupleRules
variable {dp nc ns : Nat} {M : am_M} {pc : Nat} {L st : List Value} {h h0 : am_H} {Q : Option Value → am_H → Prop} {b : Nat} {S : Nat → Int32} {A : Nat → Nat → Int32} {B : Nat → Int64} {R : (Nat → Nat → Int32) × (Nat → Int64)}
theorem m_putP {idx k : Nat} {x : Int32} (hm : Mo b h (S, R)) (hs : Same b h0 h) (hf : am_Fw M.1.cls idx 12 k false .int) (d : decode M.2.1 pc = .ok (.putfield idx, 3)) (hk : k < 58) (hset : (mo b S).set k (.int x) = mo b (upd S k x)) (kk : ∀ h1, Mo b h1 (upd S k x, R) → Same b h0 h1 → Ex dp nc ns M (pc + 3) L st h1 Q) : Ex dp nc ns M pc L (.int x :: .ref b :: st) h Q := m_put hm hs hf d hk hset kk
theorem m_putzP {idx k : Nat} {x : Int32} (hm : Mo b h (S, R)) (hs : Same b h0 h) (hf : am_Fw M.1.cls idx 12 k false .boolean) (d : decode M.2.1 pc = .ok (.putfield idx, 3)) (hk : k < 58) (hx : x = 0 ∨ x = 1) (hset : (mo b S).set k (.int x) = mo b (upd S k x)) (kk : ∀ h1, Mo b h1 (upd S k x, R) → Same b h0 h1 → Ex dp nc ns M (pc + 3) L st h1 Q) : Ex dp nc ns M pc L (.int x :: .ref b :: st) h Q := m_putz hm hs hf d hk hx hset kk
theorem m_astR {k i : Nat} {x : Int32} {f : Nat → Int32} (hm : Mo b h (S, rs A k f, B)) (hs : Same b h0 h) (d : decode M.2.1 pc = .ok (.iastore, 1)) (hk : k < 23) (hk2 : k ≠ 21) (hty : mty k = 0) (hi : i < mlen k) (kk : ∀ h1, Mo b h1 (S, rs A k (upd f i x), B) → Same b h0 h1 → Ex dp nc ns M (pc + 1) L st h1 Q) : Ex dp nc ns M pc L (.int x :: .int (nI i) :: .ref (b + 1 + k) :: st) h Q := m_ast hm hs d hk hk2 hty hi (fun h1 hm1 hs1 => kk h1 (by rw [← u2_rs]; exact hm1) hs1)
end TupleRules
set_option maxHeartbeats 400000 in
set_option maxRecDepth 100000 in
theorem e_tells_none {b : Nat} {h : am_H} {σ : am_S} (hd0 : Int32) (w : Int64) (hf : σ.2.1 1 117 = -1) (hm : Mo b h σ) : Ex 0 0 0 mX12_tells 0 (am_en [.ref b, .int hd0, .long w] 11) [] h (fun r h2 => r = some (.long w) ∧ Mo b h2 (upd (upd σ.1 25 (nI 0)) 26 (nI 0), σ.2) ∧ Same b h h2) := by
  have hs : Same b h h := Same.rf
  refine ex_aload_n dX12_tells_0 rfl rfl ?_
  refine ex_iconstN (nI 0) dX12_tells_1 (by decide) ?_
  refine m_putz hm hs pX12_307 dX12_tells_2 (by decide) (by first | exact Or.inl rfl | exact Or.inr rfl | assumption) (ms25 _ _ _) (fun h1 hm hs => ?_)
  refine ex_aload_n dX12_tells_5 rfl rfl ?_
  refine ex_iconstN (nI 0) dX12_tells_6 (by decide) ?_
  refine m_putz hm hs pX12_310 dX12_tells_7 (by decide) (by first | exact Or.inl rfl | exact Or.inr rfl | assumption) (ms26 _ _ _) (fun h1 hm hs => ?_)
  refine ex_aload_n dX12_tells_10 rfl rfl ?_
  refine ex_getf fX12_24 dX12_tells_11 hm.1 rfl ?_
  refine ex_bipushN (nI 117) dX12_tells_14 (by decide) ?_
  refine m_ald hm dX12_tells_16 (by decide) (by decide) rfl (by show _ < 5725; omega) ?_
  refine ex_iconstN (-1) dX12_tells_17 (by decide) ?_
  refine ex_icmp_ne 23 dX12_tells_18 (by decide) (fun q18 => ?_) (fun q18 => ?_)
  · skip
    exact absurd hf q18
  · skip
    refine ex_lload_n dX12_tells_21 rfl ?_
    refine ex_lret rfl dX12_tells_22 ?_
    exact ⟨rfl, hm, hs⟩
set_option maxHeartbeats 1000000 in
set_option maxRecDepth 100000 in
theorem l_te192 {b : Nat} {h0 h : am_H} {σ : am_S} {ge n g0 : Nat} {br0 : Bool} (h22 : σ.1 22 = nI ge) (hge2 : ge ≤ 2800) (h24 : σ.1 24 = nI (bN (false = true))) (hn : σ.2.1 1 96 = nI n) (hn6 : n ≤ 6) {vr : Int64} {hr ir br2 : Bool} {gr : Nat} {hd0 : Int32} {w0 : Int64} {x6 x7 x8 x9 x10 : Value} (htv : tellv σ.2.1 ge n hd0 w0 g0 br0 = some (vr, hr, ir, gr, br2)) (hm : Mo b h (evS (tS σ false false) g0 br0)) (hs : Same b h0 h) : Ex 70 0 0 mX12_tells 192 [.ref b, .int hd0, .long w0, .retAddr 0, .long w0, .retAddr 0, x6, x7, x8, x9, x10] [] h (fun r h2 => r = some (.long vr) ∧ Mo b h2 (evS (tS σ hr ir) gr br2) ∧ Same b h0 h2) := by
  have hS : ∀ hh it, OkP mX12_sumOf 29 b (tS σ hh it) true (tsumv σ.2.1 ge n true) := fun hh it => ok_sumv (σ := tS σ hh it) h22 hge2 h24 hn hn6
  have hT : ∀ hh it, OkB mX12_testOf 69 b (tS σ hh it) (tsv (tsumv σ.2.1 ge n) σ.2.1 ge 9) := fun hh it => ok_test (σ := tS σ hh it) (dS := 29) (S := tsumv σ.2.1 ge n) h22 hge2 (fun live => ok_sumv (σ := tS σ hh it) h22 hge2 h24 hn hn6) 9
  exact l_tells h22 hge2 (by omega) (by omega) (by omega) hS hT 402 w0 false false g0 br0 h x6 x7 x8 x9 x10 htv hm hs
theorem te_mo {b : Nat} {h : am_H} {S : Nat → Int32} {A : Nat → Nat → Int32} {B : Nat → Int64} {g ge : Nat} {br0 : Bool} (h23 : S 23 = nI (bN (br0 = true))) (hm : Mo b h (upd (upd (upd (upd (upd S 25 (nI 0)) 26 (nI 0)) 24 (nI 0)) 21 (nI g)) 22 (nI ge), A, B)) : Mo b h (evS (tS (upd (upd S 24 (nI 0)) 22 (nI ge), A, B) false false) g br0) := by
  rw [te_in (A := A) (B := B) h23] at hm
  exact hm
set_option maxHeartbeats 1000000 in
set_option maxRecDepth 100000 in
theorem l_te71 {b : Nat} {h0 h : am_H} {σ : am_S} {l sz m n : Nat} {br0 : Bool} (hf : σ.2.1 1 117 = nI l) (hl : l < 6) (hsz : σ.2.1 1 (118 + l) = nI sz) (hsz2 : sz ≤ 400) (h31 : σ.1 31 = nI m) (hm1 : 1 ≤ m) (hm13 : m ≤ 13) (h23 : σ.1 23 = nI (bN (br0 = true))) (hn : σ.2.1 1 96 = nI n) (hn6 : n ≤ 6) {vr : Int64} {hr ir br2 : Bool} {gr : Nat} {hd0 : Int32} {w0 : Int64} (htv : tellv (rs σ.2.1 11 (askr σ.2.1 m (σ.1 32) (σ.1 33))) (400 * l + sz) n hd0 w0 (400 * l) br0 = some (vr, hr, ir, gr, br2)) (hm : Mo b h ((upd (upd σ.1 25 (nI 0)) 26 (nI 0)), rs σ.2.1 11 (upd (upd (σ.2.1 11) 0 (if m ≤ 1 then -1 else σ.2.1 13 1)) 1 (if m ≤ 2 then -1 else σ.2.1 13 2)), σ.2.2)) (hs : Same b h0 h) : Ex 70 0 0 mX12_tells 71 [.ref b, .int hd0, .long w0, .retAddr 0, .retAddr 0, .retAddr 0, .retAddr 0, .retAddr 0, .retAddr 0, .retAddr 0, .retAddr 0] [] h (fun r h2 => r = some (.long vr) ∧ Mo b h2 (evS (tS (upd (upd σ.1 24 (nI 0)) 22 (nI (400 * l + sz)), (rs σ.2.1 11 (askr σ.2.1 m (σ.1 32) (σ.1 33))), σ.2.2) hr ir) gr br2) ∧ Same b h0 h2) := by
  refine ex_aload_n dX12_tells_71 rfl rfl ?_
  refine ex_getf fX12_59 dX12_tells_72 hm.1 rfl ?_
  refine ex_iconstN (nI 2) dX12_tells_75 (by decide) ?_
  refine ex_aload_n dX12_tells_76 rfl rfl ?_
  refine ex_getf fX12_65 dX12_tells_77 hm.1 rfl ?_
  refine ex_aload_n dX12_tells_80 rfl rfl ?_
  refine ex_getf fX12_130 dX12_tells_81 hm.1 (congrArg (fun z => some (Value.int z)) h31) ?_
  refine ex_iconstN (nI 1) dX12_tells_84 (by decide) ?_
  refine ex_isubN dX12_tells_85 (by first | omega | exact bN_lt) ?_
  refine m_aldv hm dX12_tells_86 (by decide) (by decide) rfl (by show _ < 13; first | omega | exact bN_lt) ((show _ = σ.2.1 13 (m - 1) from rfl)) ?_
  refine m_astR hm hs dX12_tells_87 (by decide) (by decide) rfl (by show _ < 8; first | omega | exact bN_lt) (fun h1 hm hs => ?_)
  refine ex_aload_n dX12_tells_88 rfl rfl ?_
  refine ex_getf fX12_59 dX12_tells_89 hm.1 rfl ?_
  refine ex_iconstN (nI 3) dX12_tells_92 (by decide) ?_
  refine ex_aload_n dX12_tells_93 rfl rfl ?_
  refine ex_getf fX12_133 dX12_tells_94 hm.1 (congrArg (fun z => some (Value.int z)) (show _ = σ.1 32 from rfl)) ?_
  refine m_astR hm hs dX12_tells_97 (by decide) (by decide) rfl (by show _ < 8; first | omega | exact bN_lt) (fun h1 hm hs => ?_)
  refine ex_aload_n dX12_tells_98 rfl rfl ?_
  refine ex_getf fX12_59 dX12_tells_99 hm.1 rfl ?_
  refine ex_iconstN (nI 4) dX12_tells_102 (by decide) ?_
  refine ex_aload_n dX12_tells_103 rfl rfl ?_
  refine ex_getf fX12_313 dX12_tells_104 hm.1 (congrArg (fun z => some (Value.int z)) (show _ = σ.1 33 from rfl)) ?_
  refine m_astR hm hs dX12_tells_107 (by decide) (by decide) rfl (by show _ < 8; first | omega | exact bN_lt) (fun h1 hm hs => ?_)
  refine ex_aload_n dX12_tells_108 rfl rfl ?_
  refine ex_getf fX12_59 dX12_tells_109 hm.1 rfl ?_
  refine ex_iconstN (nI 5) dX12_tells_112 (by decide) ?_
  refine ex_aload_n dX12_tells_113 rfl rfl ?_
  refine ex_getf fX12_24 dX12_tells_114 hm.1 rfl ?_
  refine ex_bipushN (nI 113) dX12_tells_117 (by decide) ?_
  refine m_aldv hm dX12_tells_119 (by decide) (by decide) rfl (by show _ < 5725; first | omega | exact bN_lt) ((show _ = σ.2.1 1 113 from rfl)) ?_
  refine m_astR hm hs dX12_tells_120 (by decide) (by decide) rfl (by show _ < 8; first | omega | exact bN_lt) (fun h1 hm hs => ?_)
  refine ex_aload_n dX12_tells_121 rfl rfl ?_
  refine ex_getf fX12_59 dX12_tells_122 hm.1 rfl ?_
  refine ex_bipushN (nI 6) dX12_tells_125 (by decide) ?_
  refine ex_aload_n dX12_tells_127 rfl rfl ?_
  refine ex_getf fX12_65 dX12_tells_128 hm.1 rfl ?_
  refine ex_iconstN (nI 0) dX12_tells_131 (by decide) ?_
  refine m_aldv hm dX12_tells_132 (by decide) (by decide) rfl (by show _ < 13; first | omega | exact bN_lt) ((show _ = σ.2.1 13 0 from rfl)) ?_
  refine m_astR hm hs dX12_tells_133 (by decide) (by decide) rfl (by show _ < 8; first | omega | exact bN_lt) (fun h1 hm hs => ?_)
  refine ex_aload_n dX12_tells_134 rfl rfl ?_
  refine ex_getf fX12_59 dX12_tells_135 hm.1 rfl ?_
  refine ex_bipushN (nI 7) dX12_tells_138 (by decide) ?_
  refine ex_aload_n dX12_tells_140 rfl rfl ?_
  refine ex_getf fX12_130 dX12_tells_141 hm.1 (congrArg (fun z => some (Value.int z)) h31) ?_
  refine m_astR hm hs dX12_tells_144 (by decide) (by decide) rfl (by show _ < 8; first | omega | exact bN_lt) (fun h1 hm hs => ?_)
  refine ex_aload_n dX12_tells_145 rfl rfl ?_
  refine ex_iconstN (nI 0) dX12_tells_146 (by decide) ?_
  refine m_putzP hm hs pX12_289 dX12_tells_147 (by decide) (by first | exact Or.inl rfl | exact Or.inr rfl | assumption) (ms24 _ _ _) (fun h1 hm hs => ?_)
  refine ex_lload_n dX12_tells_150 rfl ?_
  refine ex_lstore dX12_tells_151 (by decide) ?_
  refine ex_aload_n dX12_tells_153 rfl rfl ?_
  refine ex_sipushN (nI 400) dX12_tells_154 (by decide) ?_
  refine ex_aload_n dX12_tells_157 rfl rfl ?_
  refine ex_getf fX12_24 dX12_tells_158 hm.1 rfl ?_
  refine ex_bipushN (nI 117) dX12_tells_161 (by decide) ?_
  refine m_aldv hm dX12_tells_163 (by decide) (by decide) rfl (by show _ < 5725; first | omega | exact bN_lt) (hf) ?_
  refine ex_imulN dX12_tells_164 ?_
  refine m_putP hm hs pX12_256 dX12_tells_165 (by decide) (ms21 _ _ _) (fun h1 hm hs => ?_)
  refine ex_aload_n dX12_tells_168 rfl rfl ?_
  refine ex_aload_n dX12_tells_169 rfl rfl ?_
  refine ex_getf fX12_256 dX12_tells_170 hm.1 (congrArg (fun z => some (Value.int z)) (show _ = nI (400 * l) from rfl)) ?_
  refine ex_aload_n dX12_tells_173 rfl rfl ?_
  refine ex_getf fX12_24 dX12_tells_174 hm.1 rfl ?_
  refine ex_bipushN (nI 118) dX12_tells_177 (by decide) ?_
  refine ex_aload_n dX12_tells_179 rfl rfl ?_
  refine ex_getf fX12_24 dX12_tells_180 hm.1 rfl ?_
  refine ex_bipushN (nI 117) dX12_tells_183 (by decide) ?_
  refine m_aldv hm dX12_tells_185 (by decide) (by decide) rfl (by show _ < 5725; first | omega | exact bN_lt) (hf) ?_
  refine ex_iaddN dX12_tells_186 ?_
  refine m_aldv hm dX12_tells_187 (by decide) (by decide) rfl (by show _ < 5725; first | omega | exact bN_lt) (hsz) ?_
  refine ex_iaddN dX12_tells_188 ?_
  refine m_putP hm hs pX12_253 dX12_tells_189 (by decide) (ms22 _ _ _) (fun h1 hm hs => ?_)
  exact l_te192 (σ := (upd (upd σ.1 24 (nI 0)) 22 (nI (400 * l + sz)), (rs σ.2.1 11 (askr σ.2.1 m (σ.1 32) (σ.1 33))), σ.2.2)) (g0 := 400 * l) (br0 := br0) rfl (by omega) rfl hn hn6 htv (te_mo h23 hm) hs
set_option maxHeartbeats 1000000 in
set_option maxRecDepth 100000 in
theorem e_tells {b : Nat} {h : am_H} {σ : am_S} {l sz m n : Nat} {br0 : Bool} (hf : σ.2.1 1 117 = nI l) (hl : l < 6) (hsz : σ.2.1 1 (118 + l) = nI sz) (hsz2 : sz ≤ 400) (h31 : σ.1 31 = nI m) (hm1 : 1 ≤ m) (hm13 : m ≤ 13) (h23 : σ.1 23 = nI (bN (br0 = true))) (hn : σ.2.1 1 96 = nI n) (hn6 : n ≤ 6) {vr : Int64} {hr ir br2 : Bool} {gr : Nat} {hd0 : Int32} {w0 : Int64} (htv : tellv (rs σ.2.1 11 (askr σ.2.1 m (σ.1 32) (σ.1 33))) (400 * l + sz) n hd0 w0 (400 * l) br0 = some (vr, hr, ir, gr, br2)) (hm : Mo b h σ) : Ex 70 0 0 mX12_tells 0 (am_en [.ref b, .int hd0, .long w0] 11) [] h (fun r h2 => r = some (.long vr) ∧ Mo b h2 (evS (tS (upd (upd σ.1 24 (nI 0)) 22 (nI (400 * l + sz)), (rs σ.2.1 11 (askr σ.2.1 m (σ.1 32) (σ.1 33))), σ.2.2) hr ir) gr br2) ∧ Same b h h2) := by
  have hs : Same b h h := Same.rf
  refine ex_aload_n dX12_tells_0 rfl rfl ?_
  refine ex_iconstN (nI 0) dX12_tells_1 (by decide) ?_
  refine m_putz hm hs pX12_307 dX12_tells_2 (by decide) (by first | exact Or.inl rfl | exact Or.inr rfl | assumption) (ms25 _ _ _) (fun h1 hm hs => ?_)
  refine ex_aload_n dX12_tells_5 rfl rfl ?_
  refine ex_iconstN (nI 0) dX12_tells_6 (by decide) ?_
  refine m_putz hm hs pX12_310 dX12_tells_7 (by decide) (by first | exact Or.inl rfl | exact Or.inr rfl | assumption) (ms26 _ _ _) (fun h1 hm hs => ?_)
  refine ex_aload_n dX12_tells_10 rfl rfl ?_
  refine ex_getf fX12_24 dX12_tells_11 hm.1 rfl ?_
  refine ex_bipushN (nI 117) dX12_tells_14 (by decide) ?_
  refine m_aldv hm dX12_tells_16 (by decide) (by decide) rfl (by show _ < 5725; first | omega | exact bN_lt) (hf) ?_
  refine ex_iconstN (-1) dX12_tells_17 (by decide) ?_
  refine ex_icmp_ne 23 dX12_tells_18 (by decide) (fun q18 => ?_) (fun q18 => ?_)
  · skip
    refine ex_aload_n dX12_tells_23 rfl rfl ?_
    refine ex_getf fX12_59 dX12_tells_24 hm.1 rfl ?_
    refine ex_iconstN (nI 0) dX12_tells_27 (by decide) ?_
    refine ex_aload_n dX12_tells_28 rfl rfl ?_
    refine ex_getf fX12_130 dX12_tells_29 hm.1 (congrArg (fun z => some (Value.int z)) h31) ?_
    refine ex_iconstN (nI 1) dX12_tells_32 (by decide) ?_
    refine ex_icmp_leN 45 dX12_tells_33 (by decide) (by first | omega | exact bN_lt) (by first | omega | exact bN_lt) (fun q33 => ?_) (fun q33 => ?_)
    · skip
      refine ex_iconstN (-1) dX12_tells_45 (by decide) ?_
      refine m_ast hm hs dX12_tells_46 (by decide) (by decide) rfl (by show _ < 8; first | omega | exact bN_lt) (fun h1 hm hs => ?_)
      refine ex_aload_n dX12_tells_47 rfl rfl ?_
      refine ex_getf fX12_59 dX12_tells_48 hm.1 rfl ?_
      refine ex_iconstN (nI 1) dX12_tells_51 (by decide) ?_
      refine ex_aload_n dX12_tells_52 rfl rfl ?_
      refine ex_getf fX12_130 dX12_tells_53 hm.1 (congrArg (fun z => some (Value.int z)) h31) ?_
      refine ex_iconstN (nI 2) dX12_tells_56 (by decide) ?_
      refine ex_icmp_leN 69 dX12_tells_57 (by decide) (by first | omega | exact bN_lt) (by first | omega | exact bN_lt) (fun q57 => ?_) (fun q57 => ?_)
      · skip
        refine ex_iconstN (-1) dX12_tells_69 (by decide) ?_
        refine m_ast hm hs dX12_tells_70 (by decide) (by decide) rfl (by show _ < 8; first | omega | exact bN_lt) (fun h1 hm hs => ?_)
        refine l_te71 hf hl hsz hsz2 h31 hm1 hm13 h23 hn hn6 htv ?_ hs
        rw [if_pos q33, if_pos q57, ← u2_rs, ← u2_eq]
        exact hm
      · skip
        refine ex_aload_n dX12_tells_60 rfl rfl ?_
        refine ex_getf fX12_65 dX12_tells_61 hm.1 rfl ?_
        refine ex_iconstN (nI 2) dX12_tells_64 (by decide) ?_
        refine m_ald hm dX12_tells_65 (by decide) (by decide) rfl (by show _ < 13; first | omega | exact bN_lt) ?_
        refine ex_goto 70 dX12_tells_66 (by decide) ?_
        refine m_ast hm hs dX12_tells_70 (by decide) (by decide) rfl (by show _ < 8; first | omega | exact bN_lt) (fun h1 hm hs => ?_)
        refine l_te71 hf hl hsz hsz2 h31 hm1 hm13 h23 hn hn6 htv ?_ hs
        rw [if_pos q33, if_neg (by omega), ← u2_rs, ← u2_eq]
        exact hm
    · skip
      refine ex_aload_n dX12_tells_36 rfl rfl ?_
      refine ex_getf fX12_65 dX12_tells_37 hm.1 rfl ?_
      refine ex_iconstN (nI 1) dX12_tells_40 (by decide) ?_
      refine m_ald hm dX12_tells_41 (by decide) (by decide) rfl (by show _ < 13; first | omega | exact bN_lt) ?_
      refine ex_goto 46 dX12_tells_42 (by decide) ?_
      refine m_ast hm hs dX12_tells_46 (by decide) (by decide) rfl (by show _ < 8; first | omega | exact bN_lt) (fun h1 hm hs => ?_)
      refine ex_aload_n dX12_tells_47 rfl rfl ?_
      refine ex_getf fX12_59 dX12_tells_48 hm.1 rfl ?_
      refine ex_iconstN (nI 1) dX12_tells_51 (by decide) ?_
      refine ex_aload_n dX12_tells_52 rfl rfl ?_
      refine ex_getf fX12_130 dX12_tells_53 hm.1 (congrArg (fun z => some (Value.int z)) h31) ?_
      refine ex_iconstN (nI 2) dX12_tells_56 (by decide) ?_
      refine ex_icmp_leN 69 dX12_tells_57 (by decide) (by first | omega | exact bN_lt) (by first | omega | exact bN_lt) (fun q57 => ?_) (fun q57 => ?_)
      · skip
        refine ex_iconstN (-1) dX12_tells_69 (by decide) ?_
        refine m_ast hm hs dX12_tells_70 (by decide) (by decide) rfl (by show _ < 8; first | omega | exact bN_lt) (fun h1 hm hs => ?_)
        refine l_te71 hf hl hsz hsz2 h31 hm1 hm13 h23 hn hn6 htv ?_ hs
        rw [if_neg (by omega), if_pos q57, ← u2_rs, ← u2_eq]
        exact hm
      · skip
        refine ex_aload_n dX12_tells_60 rfl rfl ?_
        refine ex_getf fX12_65 dX12_tells_61 hm.1 rfl ?_
        refine ex_iconstN (nI 2) dX12_tells_64 (by decide) ?_
        refine m_ald hm dX12_tells_65 (by decide) (by decide) rfl (by show _ < 13; first | omega | exact bN_lt) ?_
        refine ex_goto 70 dX12_tells_66 (by decide) ?_
        refine m_ast hm hs dX12_tells_70 (by decide) (by decide) rfl (by show _ < 8; first | omega | exact bN_lt) (fun h1 hm hs => ?_)
        refine l_te71 hf hl hsz hsz2 h31 hm1 hm13 h23 hn hn6 htv ?_ hs
        rw [if_neg (by omega), if_neg (by omega), ← u2_rs, ← u2_eq]
        exact hm
  · skip
    exact absurd q18 (nI_nm1 (by omega))
