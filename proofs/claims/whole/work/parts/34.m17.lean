/-! THE REFERENCE: tells, whole -/
set_option maxHeartbeats 2000000 in
set_option maxRecDepth 100000 in
theorem l_te243y {b : Nat} {h0 h : am_H} {σ : am_S} {ge g1 g2 : Nat} {hd0 c : Int32} {w0 told s : Int64} {hh it sb t b2 : Bool} {x7 x8 x9 x10 : Value} {d dT : Nat} {T : Bool → Nat → Bool → EvB} {Q : Option Value → am_H → Prop} (hge : σ.1 22 = nI ge) (hge2 : ge ≤ 2800) (hg1 : g1 < 2799) (hd2 : 2 ≤ d) (hdT : dT + 1 ≤ d) (hT : ∀ hh it, OkB mX12_testOf dT b (tS σ hh it) T) (hc : cdA σ.2.1 ge g1 = nI 4) (hTv : T true (g1 + 1) false = some (t, g2, b2)) (hm : Mo b h (evS (tS σ hh it) g1 sb)) (hs : Same b h0 h)
    (hk : ∀ h2, Mo b h2 (evS (tS σ (hh || decide (c = hd0)) (it || (decide (c = hd0) && (t && (!b2 && !sb))))) (g2 + 1) b2) → Same b h0 h2 → Ex d 0 0 mX12_tells 192 [.ref b, .int hd0, .long w0, .retAddr 0, .long (if c = hd0 ∧ (t && (!b2 && !sb)) = true then s else told), .retAddr 0, .int c, .long s, .retAddr 0, .int (nI (bN (sb = true))), .int (nI (bN ((t && (!b2 && !sb)) = true)))] [] h2 Q) : Ex d 0 0 mX12_tells 243 [.ref b, .int hd0, .long w0, .retAddr 0, .long told, .retAddr 0, .int c, x7, x8, x9, x10] [.long s] h Q := by
  refine ex_lstore dX12_tells_243 (by decide) ?_
  refine ex_aload_n dX12_tells_245 rfl rfl ?_
  refine ex_getf fX12_266 dX12_tells_246 hm.1 (congrArg (fun z => some (Value.int z)) (show (evS (tS σ hh it) g1 sb).1 23 = nI (bN (sb = true)) from rfl)) ?_
  refine ex_istore dX12_tells_249 (by decide) ?_
  refine ex_aload_n dX12_tells_251 rfl rfl ?_
  refine ex_iconstN (nI 0) dX12_tells_252 (by decide) ?_
  refine m_putz hm hs pX12_266 dX12_tells_253 (by decide) (by first | exact Or.inl rfl | exact Or.inr rfl | assumption) (ms23 _ _ _) (fun h1 hm hs => ?_)
  rw [show nI 0 = nI (bN (false = true)) from rfl, evS_br] at hm
  refine ex_aload_n dX12_tells_256 rfl rfl ?_
  refine ex_iconstN (nI 4) dX12_tells_257 (by decide) ?_
  refine ex_callV0 (dc := 1) (as := [.int _]) dX12_tells_258 MX12_passes0 kX12_283 iX12_passes0 sX12_passes0 rfl rfl hm.1 rfl rfl (Nat.le_of_ble_eq_true rfl) (Nat.le_of_ble_eq_true rfl) (by first | decide | omega) (e_passes0 (σ := tS σ hh it) _ (by omega) hge hge2 hm) (fun r h2 q => ?_)
  obtain ⟨rfl, hm, hs2⟩ := q
  have hs := hs.tr hs2
  have hc2 : cdA (tS σ hh it).2.1 ge g1 = nI 4 := hc
  rw [if_pos hc2] at hm
  rw [bN_t hc2]
  show Ex _ 0 0 _ _ _ (Value.int _ :: _) _ _
  refine ex_if_eqN 272 dX12_tells_261 (by decide) (by first | omega | exact bN_lt) (fun q261 => ?_) (fun q261 => ?_)
  · skip
    exact absurd q261 (by decide)
  · skip
    refine ex_aload_n dX12_tells_264 rfl rfl ?_
    refine ex_iconstN (nI 1) dX12_tells_265 (by decide) ?_
    refine ex_callV0 (dc := dT) (as := [.int _]) dX12_tells_266 MX12_testOf kX12_304 iX12_testOf sX12_testOf rfl rfl hm.1 rfl rfl (Nat.le_of_ble_eq_true rfl) (Nat.le_of_ble_eq_true rfl) (by first | decide | omega) (hT hh it true _ _ _ _ _ _ hTv hm) (fun r h2 q => ?_)
    obtain ⟨rfl, hm, hs2⟩ := q
    have hs := hs.tr hs2
    show Ex _ 0 0 _ _ _ (Value.int _ :: _) _ _
    refine ex_if_eqN 276 dX12_tells_269 (by decide) (by first | omega | exact bN_lt) (fun q269 => ?_) (fun q269 => ?_)
    · skip
      refine ex_iconstN (nI 0) dX12_tells_276 (by decide) ?_
      obtain rfl : t = false := bt.mp q269
      exact l_te277 (t := false) hm hs hk
    · skip
      refine ex_iconstN (nI 1) dX12_tells_272 (by decide) ?_
      refine ex_goto 277 dX12_tells_273 (by decide) ?_
      obtain rfl : t = true := bn.mp q269
      exact l_te277 (t := true) hm hs hk
set_option maxHeartbeats 2000000 in
set_option maxRecDepth 100000 in
theorem l_te243n {b : Nat} {h0 h : am_H} {σ : am_S} {ge g1 : Nat} {hd0 c : Int32} {w0 told s : Int64} {hh it sb : Bool} {x7 x8 x9 x10 : Value} {d : Nat} {Q : Option Value → am_H → Prop} (hge : σ.1 22 = nI ge) (hge2 : ge ≤ 2800) (hg1 : g1 < 2799) (hd2 : 2 ≤ d) (hc : ¬ cdA σ.2.1 ge g1 = nI 4) (hm : Mo b h (evS (tS σ hh it) g1 sb)) (hs : Same b h0 h)
    (hk : ∀ h2, Mo b h2 (evS (tS σ (hh || decide (c = hd0)) (it || (decide (c = hd0) && (true && (!false && !sb))))) (g1 + 1) false) → Same b h0 h2 → Ex d 0 0 mX12_tells 192 [.ref b, .int hd0, .long w0, .retAddr 0, .long (if c = hd0 ∧ (true && (!false && !sb)) = true then s else told), .retAddr 0, .int c, .long s, .retAddr 0, .int (nI (bN (sb = true))), .int (nI (bN ((true && (!false && !sb)) = true)))] [] h2 Q) : Ex d 0 0 mX12_tells 243 [.ref b, .int hd0, .long w0, .retAddr 0, .long told, .retAddr 0, .int c, x7, x8, x9, x10] [.long s] h Q := by
  refine ex_lstore dX12_tells_243 (by decide) ?_
  refine ex_aload_n dX12_tells_245 rfl rfl ?_
  refine ex_getf fX12_266 dX12_tells_246 hm.1 (congrArg (fun z => some (Value.int z)) (show (evS (tS σ hh it) g1 sb).1 23 = nI (bN (sb = true)) from rfl)) ?_
  refine ex_istore dX12_tells_249 (by decide) ?_
  refine ex_aload_n dX12_tells_251 rfl rfl ?_
  refine ex_iconstN (nI 0) dX12_tells_252 (by decide) ?_
  refine m_putz hm hs pX12_266 dX12_tells_253 (by decide) (by first | exact Or.inl rfl | exact Or.inr rfl | assumption) (ms23 _ _ _) (fun h1 hm hs => ?_)
  rw [show nI 0 = nI (bN (false = true)) from rfl, evS_br] at hm
  refine ex_aload_n dX12_tells_256 rfl rfl ?_
  refine ex_iconstN (nI 4) dX12_tells_257 (by decide) ?_
  refine ex_callV0 (dc := 1) (as := [.int _]) dX12_tells_258 MX12_passes0 kX12_283 iX12_passes0 sX12_passes0 rfl rfl hm.1 rfl rfl (Nat.le_of_ble_eq_true rfl) (Nat.le_of_ble_eq_true rfl) (by first | decide | omega) (e_passes0 (σ := tS σ hh it) _ (by omega) hge hge2 hm) (fun r h2 q => ?_)
  obtain ⟨rfl, hm, hs2⟩ := q
  have hs := hs.tr hs2
  have hc2 : ¬ cdA (tS σ hh it).2.1 ge g1 = nI 4 := hc
  rw [if_neg hc2] at hm
  rw [bN_f hc2]
  show Ex _ 0 0 _ _ _ (Value.int _ :: _) _ _
  refine ex_if_eqN 272 dX12_tells_261 (by decide) (by first | omega | exact bN_lt) (fun q261 => ?_) (fun q261 => ?_)
  · skip
    refine ex_iconstN (nI 1) dX12_tells_272 (by decide) ?_
    refine ex_goto 277 dX12_tells_273 (by decide) ?_
    exact l_te277 (t := true) hm hs hk
  · skip
    exact absurd rfl q261
set_option maxHeartbeats 8000000 in
set_option maxRecDepth 100000 in
theorem l_tells {b : Nat} {h0 : am_H} {σ : am_S} {ge : Nat} {hd0 : Int32} {w0 : Int64} {dS dT d : Nat} {S : Nat → Bool → EvR} {T : Bool → Nat → Bool → EvB} (hge : σ.1 22 = nI ge) (hge2 : ge ≤ 2800) (hd2 : 2 ≤ d) (hdS : dS + 1 ≤ d) (hdT : dT + 1 ≤ d) (hS : ∀ hh it, OkP mX12_sumOf dS b (tS σ hh it) true S) (hT : ∀ hh it, OkB mX12_testOf dT b (tS σ hh it) T) {vr : Int64} {hr ir br2 : Bool} {gr : Nat} : ∀ (f : Nat) (told : Int64) (hh it : Bool) (g : Nat) (br : Bool) (h : am_H) (x6 x7 x8 x9 x10 : Value), tlv S (T true) σ.2.1 ge hd0 f told hh it g br = some (vr, hr, ir, gr, br2) → Mo b h (evS (tS σ hh it) g br) → Same b h0 h → Ex d 0 0 mX12_tells 192 [.ref b, .int hd0, .long w0, .retAddr 0, .long told, .retAddr 0, x6, x7, x8, x9, x10] [] h (fun r h2 => r = some (.long vr) ∧ Mo b h2 (evS (tS σ hr ir) gr br2) ∧ Same b h0 h2) := by
  intro f
  induction f with
  | zero => intro told hh it g br h x6 x7 x8 x9 x10 hv; cases hv
  | succ f ih =>
    intro told hh it g br h x6 x7 x8 x9 x10 hv hm hs
    simp only [tlv] at hv
    by_cases hgb : g < 4000
    rotate_left
    · rw [if_neg hgb] at hv
      cases hv
    rw [if_pos hgb] at hv
    by_cases hgg : g < ge
    · rw [if_pos hgg] at hv
      unfold clv at hv
      by_cases hg : g < 2799
      · rw [if_pos hg] at hv
        by_cases hc3 : cdA σ.2.1 ge g = nI 3
        · rw [if_pos hc3] at hv
          dsimp only at hv
          by_cases hg1 : g + 1 < 2799
          · rw [if_pos hg1] at hv
            refine ex_aload_n dX12_tells_192 rfl rfl ?_
            refine ex_getf fX12_256 dX12_tells_193 hm.1 (congrArg (fun z => some (Value.int z)) (show (evS (tS σ hh it) g br).1 21 = nI g from rfl)) ?_
            refine ex_aload_n dX12_tells_196 rfl rfl ?_
            refine ex_getf fX12_253 dX12_tells_197 hm.1 (congrArg (fun z => some (Value.int z)) hge) ?_
            refine ex_icmp_geN 358 dX12_tells_200 (by decide) (by first | omega | exact bN_lt) (by first | omega | exact bN_lt) (fun q200 => ?_) (fun q200 => ?_)
            · skip
              exact absurd q200 (by omega)
            · skip
              refine ex_aload_n dX12_tells_203 rfl rfl ?_
              refine ex_aload_n dX12_tells_204 rfl rfl ?_
              refine ex_getf fX12_256 dX12_tells_205 hm.1 (congrArg (fun z => some (Value.int z)) (show (evS (tS σ hh it) g br).1 21 = nI g from rfl)) ?_
              refine ex_callV0 (dc := 0) (as := [.int _]) dX12_tells_208 MX12_codeAt kX12_259 iX12_codeAt sX12_codeAt rfl rfl hm.1 rfl rfl (Nat.le_of_ble_eq_true rfl) (Nat.le_of_ble_eq_true rfl) (by first | decide | omega) (e_codeAt (σ := tS σ hh it) _ (by omega) hge hge2 hm) (fun r h2 q => ?_)
              obtain ⟨rfl, rfl⟩ := q
              show Ex _ 0 0 _ _ _ (Value.int _ :: _) _ _
              refine ex_istore dX12_tells_211 (by decide) ?_
              refine ex_aload_n dX12_tells_213 rfl rfl ?_
              refine ex_iconstN (nI 0) dX12_tells_214 (by decide) ?_
              refine m_putz hm hs pX12_266 dX12_tells_215 (by decide) (by first | exact Or.inl rfl | exact Or.inr rfl | assumption) (ms23 _ _ _) (fun h1 hm hs => ?_)
              rw [show nI 0 = nI (bN (false = true)) from rfl, evS_br] at hm
              refine ex_aload_n dX12_tells_218 rfl rfl ?_
              refine ex_dup dX12_tells_219 rfl ?_
              refine ex_getf fX12_256 dX12_tells_220 hm.1 (congrArg (fun z => some (Value.int z)) (show (evS (tS σ hh it) g false).1 21 = nI g from rfl)) ?_
              refine ex_iconstN (nI 1) dX12_tells_223 (by decide) ?_
              refine ex_iaddN dX12_tells_224 ?_
              refine m_put hm hs pX12_256 dX12_tells_225 (by decide) (ms21 _ _ _) (fun h1 hm hs => ?_)
              rw [evS_go] at hm
              refine ex_iload dX12_tells_228 rfl ?_
              refine ex_iconstN (nI 3) dX12_tells_230 (by decide) ?_
              refine ex_icmp_ne 238 dX12_tells_231 (by decide) (fun q231 => ?_) (fun q231 => ?_)
              · skip
                exact absurd hc3 q231
              · skip
                refine ex_lconst dX12_tells_234 ?_
                refine ex_goto 243 dX12_tells_235 (by decide) ?_
                by_cases hc4 : cdA σ.2.1 ge (g + 1) = nI 4
                · rw [if_pos hc4] at hv
                  cases hTv : T true ((g + 1) + 1) false with
                  | none => rw [hTv] at hv; cases hv
                  | some q =>
                    obtain ⟨t, g2, b2⟩ := q
                    rw [hTv] at hv
                    dsimp only at hv
                    exact l_te243y hge hge2 hg1 hd2 hdT hT hc4 hTv hm hs (fun h2 hm hs => ih _ _ _ _ _ _ _ _ _ _ _ hv hm hs)
                · rw [if_neg hc4] at hv
                  dsimp only at hv
                  exact l_te243n hge hge2 hg1 hd2 hc4 hm hs (fun h2 hm hs => ih _ _ _ _ _ _ _ _ _ _ _ hv hm hs)
          · rw [if_neg hg1] at hv
            cases hv
        · rw [if_neg hc3] at hv
          cases hSv : S (g + 1) false with
          | none => rw [hSv] at hv; cases hv
          | some q =>
            obtain ⟨s, g1, sb⟩ := q
            rw [hSv] at hv
            dsimp only at hv
            by_cases hg1 : g1 < 2799
            · rw [if_pos hg1] at hv
              refine ex_aload_n dX12_tells_192 rfl rfl ?_
              refine ex_getf fX12_256 dX12_tells_193 hm.1 (congrArg (fun z => some (Value.int z)) (show (evS (tS σ hh it) g br).1 21 = nI g from rfl)) ?_
              refine ex_aload_n dX12_tells_196 rfl rfl ?_
              refine ex_getf fX12_253 dX12_tells_197 hm.1 (congrArg (fun z => some (Value.int z)) hge) ?_
              refine ex_icmp_geN 358 dX12_tells_200 (by decide) (by first | omega | exact bN_lt) (by first | omega | exact bN_lt) (fun q200 => ?_) (fun q200 => ?_)
              · skip
                exact absurd q200 (by omega)
              · skip
                refine ex_aload_n dX12_tells_203 rfl rfl ?_
                refine ex_aload_n dX12_tells_204 rfl rfl ?_
                refine ex_getf fX12_256 dX12_tells_205 hm.1 (congrArg (fun z => some (Value.int z)) (show (evS (tS σ hh it) g br).1 21 = nI g from rfl)) ?_
                refine ex_callV0 (dc := 0) (as := [.int _]) dX12_tells_208 MX12_codeAt kX12_259 iX12_codeAt sX12_codeAt rfl rfl hm.1 rfl rfl (Nat.le_of_ble_eq_true rfl) (Nat.le_of_ble_eq_true rfl) (by first | decide | omega) (e_codeAt (σ := tS σ hh it) _ (by omega) hge hge2 hm) (fun r h2 q => ?_)
                obtain ⟨rfl, rfl⟩ := q
                show Ex _ 0 0 _ _ _ (Value.int _ :: _) _ _
                refine ex_istore dX12_tells_211 (by decide) ?_
                refine ex_aload_n dX12_tells_213 rfl rfl ?_
                refine ex_iconstN (nI 0) dX12_tells_214 (by decide) ?_
                refine m_putz hm hs pX12_266 dX12_tells_215 (by decide) (by first | exact Or.inl rfl | exact Or.inr rfl | assumption) (ms23 _ _ _) (fun h1 hm hs => ?_)
                rw [show nI 0 = nI (bN (false = true)) from rfl, evS_br] at hm
                refine ex_aload_n dX12_tells_218 rfl rfl ?_
                refine ex_dup dX12_tells_219 rfl ?_
                refine ex_getf fX12_256 dX12_tells_220 hm.1 (congrArg (fun z => some (Value.int z)) (show (evS (tS σ hh it) g false).1 21 = nI g from rfl)) ?_
                refine ex_iconstN (nI 1) dX12_tells_223 (by decide) ?_
                refine ex_iaddN dX12_tells_224 ?_
                refine m_put hm hs pX12_256 dX12_tells_225 (by decide) (ms21 _ _ _) (fun h1 hm hs => ?_)
                rw [evS_go] at hm
                refine ex_iload dX12_tells_228 rfl ?_
                refine ex_iconstN (nI 3) dX12_tells_230 (by decide) ?_
                refine ex_icmp_ne 238 dX12_tells_231 (by decide) (fun q231 => ?_) (fun q231 => ?_)
                · skip
                  refine ex_aload_n dX12_tells_238 rfl rfl ?_
                  refine ex_iconstN (nI 1) dX12_tells_239 (by decide) ?_
                  refine ex_callV0 (dc := dS) (as := [.int _]) dX12_tells_240 MX12_sumOf kX12_286 iX12_sumOf sX12_sumOf rfl rfl hm.1 rfl rfl (Nat.le_of_ble_eq_true rfl) (Nat.le_of_ble_eq_true rfl) (by first | decide | omega) (hS hh it _ _ _ _ _ _ hSv hm) (fun r h2 q => ?_)
                  obtain ⟨rfl, hm, hs2⟩ := q
                  have hs := hs.tr hs2
                  show Ex _ 0 0 _ _ _ (Value.long _ :: _) _ _
                  by_cases hc4 : cdA σ.2.1 ge g1 = nI 4
                  · rw [if_pos hc4] at hv
                    cases hTv : T true (g1 + 1) false with
                    | none => rw [hTv] at hv; cases hv
                    | some q =>
                      obtain ⟨t, g2, b2⟩ := q
                      rw [hTv] at hv
                      dsimp only at hv
                      exact l_te243y hge hge2 hg1 hd2 hdT hT hc4 hTv hm hs (fun h2 hm hs => ih _ _ _ _ _ _ _ _ _ _ _ hv hm hs)
                  · rw [if_neg hc4] at hv
                    dsimp only at hv
                    exact l_te243n hge hge2 hg1 hd2 hc4 hm hs (fun h2 hm hs => ih _ _ _ _ _ _ _ _ _ _ _ hv hm hs)
                · skip
                  exact absurd q231 hc3
            · rw [if_neg hg1] at hv
              cases hv
      · rw [if_neg hg] at hv
        cases hv
    · rw [if_neg hgg] at hv
      simp only [Option.some.injEq, Prod.mk.injEq] at hv
      obtain ⟨e1, e2, e3, e4, e5⟩ := hv
      refine ex_aload_n dX12_tells_192 rfl rfl ?_
      refine ex_getf fX12_256 dX12_tells_193 hm.1 (congrArg (fun z => some (Value.int z)) (show (evS (tS σ hh it) g br).1 21 = nI g from rfl)) ?_
      refine ex_aload_n dX12_tells_196 rfl rfl ?_
      refine ex_getf fX12_253 dX12_tells_197 hm.1 (congrArg (fun z => some (Value.int z)) hge) ?_
      refine ex_icmp_geN 358 dX12_tells_200 (by decide) (by first | omega | exact bN_lt) (by first | omega | exact bN_lt) (fun q200 => ?_) (fun q200 => ?_)
      · skip
        refine ex_lload dX12_tells_358 rfl ?_
        refine ex_lret rfl dX12_tells_360 ?_
        exact ⟨by rw [e1], by rw [← e2, ← e3, ← e4, ← e5]; exact hm, hs⟩
      · skip
        exact absurd q200 (by omega)
