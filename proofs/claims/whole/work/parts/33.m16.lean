/-! THE REFERENCE: what a law tells -/
def tS (σ : am_S) (hh it : Bool) : am_S := (upd (upd σ.1 25 (nI (bN (hh = true)))) 26 (nI (bN (it = true))), σ.2)
theorem tS_hh (σ : am_S) (hh it x : Bool) (g : Nat) (br : Bool) : (upd (evS (tS σ hh it) g br).1 25 (nI (bN (x = true))), (evS (tS σ hh it) g br).2) = evS (tS σ x it) g br := by
  unfold evS tS
  refine Prod.ext (funext fun k => ?_) rfl
  by_cases h1 : k = 25
  · subst h1; rfl
  · by_cases h2 : k = 26
    · subst h2; rfl
    · by_cases h3 : k = 21
      · subst h3; rfl
      · by_cases h4 : k = 23
        · subst h4; rfl
        · simp [upd, h1, h2, h3, h4]
theorem tS_it (σ : am_S) (hh it x : Bool) (g : Nat) (br : Bool) : (upd (evS (tS σ hh it) g br).1 26 (nI (bN (x = true))), (evS (tS σ hh it) g br).2) = evS (tS σ hh x) g br := by
  unfold evS tS
  refine Prod.ext (funext fun k => ?_) rfl
  by_cases h1 : k = 25
  · subst h1; rfl
  · by_cases h2 : k = 26
    · subst h2; rfl
    · by_cases h3 : k = 21
      · subst h3; rfl
      · by_cases h4 : k = 23
        · subst h4; rfl
        · simp [upd, h1, h2, h3, h4]
def clv (S : Nat → Bool → EvR) (T : Nat → Bool → EvB) (A : Nat → Nat → Int32) (ge g : Nat) : Option (Int64 × Bool × Nat × Bool) :=
  if g < 2799 then
    (match (if cdA A ge g = nI 3 then some (1, g + 1, false) else S (g + 1) false) with
    | none => none
    | some (s, g1, sb) => if g1 < 2799 then
        (match (if cdA A ge g1 = nI 4 then T (g1 + 1) false else some (true, g1, false)) with
        | none => none
        | some (t, g2, b2) => some (s, t && (!b2 && !sb), g2 + 1, b2))
      else none)
  else none
def tlv (S : Nat → Bool → EvR) (T : Nat → Bool → EvB) (A : Nat → Nat → Int32) (ge : Nat) (head : Int32) : Nat → Int64 → Bool → Bool → Nat → Bool → Option (Int64 × Bool × Bool × Nat × Bool)
  | 0, _, _, _, _, _ => none
  | f + 1, told, hh, it, g, br => if g < 4000 then (if g < ge then
      (match clv S T A ge g with
      | none => none
      | some (s, ho, g2, b2) => tlv S T A ge head f (if cdA A ge g = head ∧ ho = true then s else told) (hh || decide (cdA A ge g = head)) (it || (decide (cdA A ge g = head) && ho)) g2 b2)
    else some (told, hh, it, g, br)) else none
set_option maxHeartbeats 2000000 in
set_option maxRecDepth 100000 in
theorem l_te325 {b : Nat} {h0 h : am_H} {σ : am_S} {g : Nat} {hd0 c : Int32} {w0 told s : Int64} {hh it ho sb br : Bool} {d : Nat} {Q : Option Value → am_H → Prop} (hm : Mo b h (evS (tS σ hh it) g br)) (hs : Same b h0 h)
    (hk : ∀ h2, Mo b h2 (evS (tS σ hh (it || (decide (c = hd0) && ho))) (g + 1) br) → Same b h0 h2 → Ex d 0 0 mX12_tells 192 [.ref b, .int hd0, .long w0, .retAddr 0, .long (if c = hd0 ∧ ho = true then s else told), .retAddr 0, .int c, .long s, .retAddr 0, .int (nI (bN (sb = true))), .int (nI (bN (ho = true)))] [] h2 Q) : Ex d 0 0 mX12_tells 325 [.ref b, .int hd0, .long w0, .retAddr 0, .long told, .retAddr 0, .int c, .long s, .retAddr 0, .int (nI (bN (sb = true))), .int (nI (bN (ho = true)))] [] h Q := by
  refine ex_iload dX12_tells_325 rfl ?_
  refine ex_iload_n dX12_tells_327 rfl ?_
  refine ex_icmp_ne 345 dX12_tells_328 (by decide) (fun q328 => ?_) (fun q328 => ?_)
  · skip
    refine ex_aload_n dX12_tells_345 rfl rfl ?_
    refine ex_dup dX12_tells_346 rfl ?_
    refine ex_getf fX12_256 dX12_tells_347 hm.1 (congrArg (fun z => some (Value.int z)) (show (evS σ g br).1 21 = nI g from rfl)) ?_
    refine ex_iconstN (nI 1) dX12_tells_350 (by decide) ?_
    refine ex_iaddN dX12_tells_351 ?_
    refine m_put hm hs pX12_256 dX12_tells_352 (by decide) (ms21 _ _ _) (fun h1 hm hs => ?_)
    rw [evS_go] at hm
    refine ex_goto 192 dX12_tells_355 (by decide) ?_
    rw [if_neg (fun z => q328 z.1), show (it || (decide (c = hd0) && ho)) = it by rw [decide_eq_false q328]; exact Bool.or_false _] at hk
    exact hk _ hm hs
  · skip
    refine ex_iload dX12_tells_331 rfl ?_
    refine ex_if_eqN 345 dX12_tells_333 (by decide) (by first | omega | exact bN_lt) (fun q333 => ?_) (fun q333 => ?_)
    · skip
      refine ex_aload_n dX12_tells_345 rfl rfl ?_
      refine ex_dup dX12_tells_346 rfl ?_
      refine ex_getf fX12_256 dX12_tells_347 hm.1 (congrArg (fun z => some (Value.int z)) (show (evS σ g br).1 21 = nI g from rfl)) ?_
      refine ex_iconstN (nI 1) dX12_tells_350 (by decide) ?_
      refine ex_iaddN dX12_tells_351 ?_
      refine m_put hm hs pX12_256 dX12_tells_352 (by decide) (ms21 _ _ _) (fun h1 hm hs => ?_)
      rw [evS_go] at hm
      refine ex_goto 192 dX12_tells_355 (by decide) ?_
      rw [if_neg (fun z => Bool.false_ne_true ((bt.mp q333).symm.trans z.2)), show (it || (decide (c = hd0) && ho)) = it by rw [bt.mp q333, Bool.and_false]; exact Bool.or_false _] at hk
      exact hk _ hm hs
    · skip
      refine ex_lload dX12_tells_336 rfl ?_
      refine ex_lstore dX12_tells_338 (by decide) ?_
      refine ex_aload_n dX12_tells_340 rfl rfl ?_
      refine ex_iconstN (nI 1) dX12_tells_341 (by decide) ?_
      refine m_putz hm hs pX12_310 dX12_tells_342 (by decide) (by first | exact Or.inl rfl | exact Or.inr rfl | assumption) (ms26 _ _ _) (fun h1 hm hs => ?_)
      rw [show nI 1 = nI (bN (true = true)) from rfl, tS_it] at hm
      refine ex_aload_n dX12_tells_345 rfl rfl ?_
      refine ex_dup dX12_tells_346 rfl ?_
      refine ex_getf fX12_256 dX12_tells_347 hm.1 (congrArg (fun z => some (Value.int z)) (show (evS σ g br).1 21 = nI g from rfl)) ?_
      refine ex_iconstN (nI 1) dX12_tells_350 (by decide) ?_
      refine ex_iaddN dX12_tells_351 ?_
      refine m_put hm hs pX12_256 dX12_tells_352 (by decide) (ms21 _ _ _) (fun h1 hm hs => ?_)
      rw [evS_go] at hm
      refine ex_goto 192 dX12_tells_355 (by decide) ?_
      rw [if_pos ⟨q328, bn.mp q333⟩, show (it || (decide (c = hd0) && ho)) = true by rw [decide_eq_true q328, bn.mp q333]; exact Bool.or_true _] at hk
      exact hk _ hm hs
set_option maxHeartbeats 2000000 in
set_option maxRecDepth 100000 in
theorem l_te303 {b : Nat} {h0 h : am_H} {σ : am_S} {g : Nat} {hd0 c : Int32} {w0 told s : Int64} {hh it ho sb br : Bool} {d : Nat} {Q : Option Value → am_H → Prop} (hm : Mo b h (evS (tS σ hh it) g br)) (hs : Same b h0 h)
    (hk : ∀ h2, Mo b h2 (evS (tS σ (hh || decide (c = hd0)) (it || (decide (c = hd0) && ho))) (g + 1) br) → Same b h0 h2 → Ex d 0 0 mX12_tells 192 [.ref b, .int hd0, .long w0, .retAddr 0, .long (if c = hd0 ∧ ho = true then s else told), .retAddr 0, .int c, .long s, .retAddr 0, .int (nI (bN (sb = true))), .int (nI (bN (ho = true)))] [] h2 Q) : Ex d 0 0 mX12_tells 303 [.ref b, .int hd0, .long w0, .retAddr 0, .long told, .retAddr 0, .int c, .long s, .retAddr 0, .int (nI (bN (sb = true))), .int (nI (bN (ho = true)))] [] h Q := by
  refine ex_aload_n dX12_tells_303 rfl rfl ?_
  refine ex_aload_n dX12_tells_304 rfl rfl ?_
  refine ex_getf fX12_307 dX12_tells_305 hm.1 (congrArg (fun z => some (Value.int z)) (show (evS (tS σ hh it) g br).1 25 = nI (bN (hh = true)) from rfl)) ?_
  refine ex_if_neN 317 dX12_tells_308 (by decide) (by first | omega | exact bN_lt) (fun q308 => ?_) (fun q308 => ?_)
  · skip
    refine ex_iconstN (nI 1) dX12_tells_317 (by decide) ?_
    refine ex_goto 322 dX12_tells_318 (by decide) ?_
    refine m_putz hm hs pX12_307 dX12_tells_322 (by decide) (by first | exact Or.inl rfl | exact Or.inr rfl | assumption) (ms25 _ _ _) (fun h1 hm hs => ?_)
    rw [show nI 1 = nI (bN (true = true)) from rfl, tS_hh] at hm
    rw [show (hh || decide (c = hd0)) = true from by rw [bn.mp q308]; rfl] at hk
    exact l_te325 hm hs hk
  · skip
    refine ex_iload dX12_tells_311 rfl ?_
    refine ex_iload_n dX12_tells_313 rfl ?_
    refine ex_icmp_ne 321 dX12_tells_314 (by decide) (fun q314 => ?_) (fun q314 => ?_)
    · skip
      refine ex_iconstN (nI 0) dX12_tells_321 (by decide) ?_
      refine m_putz hm hs pX12_307 dX12_tells_322 (by decide) (by first | exact Or.inl rfl | exact Or.inr rfl | assumption) (ms25 _ _ _) (fun h1 hm hs => ?_)
      rw [show nI 0 = nI (bN (false = true)) from rfl, tS_hh] at hm
      rw [show (hh || decide (c = hd0)) = false from by rw [bt.mp q308, decide_eq_false q314]; rfl] at hk
      exact l_te325 hm hs hk
    · skip
      refine ex_iconstN (nI 1) dX12_tells_317 (by decide) ?_
      refine ex_goto 322 dX12_tells_318 (by decide) ?_
      refine m_putz hm hs pX12_307 dX12_tells_322 (by decide) (by first | exact Or.inl rfl | exact Or.inr rfl | assumption) (ms25 _ _ _) (fun h1 hm hs => ?_)
      rw [show nI 1 = nI (bN (true = true)) from rfl, tS_hh] at hm
      rw [show (hh || decide (c = hd0)) = true from by rw [decide_eq_true q314]; exact Bool.or_true _] at hk
      exact l_te325 hm hs hk
set_option maxHeartbeats 2000000 in
set_option maxRecDepth 100000 in
theorem l_te277 {b : Nat} {h0 h : am_H} {σ : am_S} {g : Nat} {hd0 c : Int32} {w0 told s : Int64} {hh it sb br t : Bool} {x10 : Value} {d : Nat} {Q : Option Value → am_H → Prop} (hm : Mo b h (evS (tS σ hh it) g br)) (hs : Same b h0 h)
    (hk : ∀ h2, Mo b h2 (evS (tS σ (hh || decide (c = hd0)) (it || (decide (c = hd0) && (t && (!br && !sb))))) (g + 1) br) → Same b h0 h2 → Ex d 0 0 mX12_tells 192 [.ref b, .int hd0, .long w0, .retAddr 0, .long (if c = hd0 ∧ (t && (!br && !sb)) = true then s else told), .retAddr 0, .int c, .long s, .retAddr 0, .int (nI (bN (sb = true))), .int (nI (bN ((t && (!br && !sb)) = true)))] [] h2 Q) : Ex d 0 0 mX12_tells 277 [.ref b, .int hd0, .long w0, .retAddr 0, .long told, .retAddr 0, .int c, .long s, .retAddr 0, .int (nI (bN (sb = true))), x10] [.int (nI (bN (t = true)))] h Q := by
  refine ex_istore dX12_tells_277 (by decide) ?_
  refine ex_iload dX12_tells_279 rfl ?_
  refine ex_if_eqN 300 dX12_tells_281 (by decide) (by first | omega | exact bN_lt) (fun q281 => ?_) (fun q281 => ?_)
  · skip
    refine ex_iconstN (nI 0) dX12_tells_300 (by decide) ?_
    refine ex_istore dX12_tells_301 (by decide) ?_
    rw [show (t && (!br && !sb)) = false from by rw [bt.mp q281]; rfl] at hk
    exact l_te303 (ho := false) hm hs hk
  · skip
    refine ex_aload_n dX12_tells_284 rfl rfl ?_
    refine ex_getf fX12_266 dX12_tells_285 hm.1 (congrArg (fun z => some (Value.int z)) (show (evS (tS σ hh it) g br).1 23 = nI (bN (br = true)) from rfl)) ?_
    refine ex_if_neN 300 dX12_tells_288 (by decide) (by first | omega | exact bN_lt) (fun q288 => ?_) (fun q288 => ?_)
    · skip
      refine ex_iconstN (nI 0) dX12_tells_300 (by decide) ?_
      refine ex_istore dX12_tells_301 (by decide) ?_
      rw [show (t && (!br && !sb)) = false from by rw [bn.mp q288]; cases t <;> rfl] at hk
      exact l_te303 (ho := false) hm hs hk
    · skip
      refine ex_iload dX12_tells_291 rfl ?_
      refine ex_if_neN 300 dX12_tells_293 (by decide) (by first | omega | exact bN_lt) (fun q293 => ?_) (fun q293 => ?_)
      · skip
        refine ex_iconstN (nI 0) dX12_tells_300 (by decide) ?_
        refine ex_istore dX12_tells_301 (by decide) ?_
        rw [show (t && (!br && !sb)) = false from by rw [bn.mp q293]; cases t <;> cases br <;> rfl] at hk
        exact l_te303 (ho := false) hm hs hk
      · skip
        refine ex_iconstN (nI 1) dX12_tells_296 (by decide) ?_
        refine ex_goto 301 dX12_tells_297 (by decide) ?_
        refine ex_istore dX12_tells_301 (by decide) ?_
        rw [show (t && (!br && !sb)) = true from by rw [bn.mp q281, bt.mp q288, bt.mp q293]; rfl] at hk
        exact l_te303 (ho := true) hm hs hk
