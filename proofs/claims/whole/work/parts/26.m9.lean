/-! THE REFERENCE: a text's codes asked, numbers bounded -/
def evS (σ : am_S) (g : Nat) (br : Bool) : am_S := (upd (upd σ.1 21 (nI g)) 23 (nI (bN (br = true))), σ.2)
theorem upd_cm {f : Nat → Int32} {i j : Nat} {x y : Int32} (h : i ≠ j) : upd (upd f i x) j y = upd (upd f j y) i x := by
  funext k
  by_cases h1 : k = j
  · subst h1; rw [pk_us, pk_un (fun e => h e.symm), pk_us]
  · rw [pk_un h1]
    by_cases h2 : k = i
    · subst h2; rw [pk_us, pk_us]
    · rw [pk_un h2, pk_un h2, pk_un h1]
theorem evS_go (σ : am_S) (g g2 : Nat) (br : Bool) : (upd (evS σ g br).1 21 (nI g2), (evS σ g br).2) = evS σ g2 br := by
  unfold evS
  rw [show upd (upd (upd σ.1 21 (nI g)) 23 (nI (bN (br = true)))) 21 (nI g2) = upd (upd σ.1 21 (nI g2)) 23 (nI (bN (br = true))) by rw [upd_cm (by decide : (21 : Nat) ≠ 23), upd_upd, upd_cm (by decide : (23 : Nat) ≠ 21)]]
theorem evS_br (σ : am_S) (g : Nat) (br b2 : Bool) : (upd (evS σ g br).1 23 (nI (bN (b2 = true))), (evS σ g br).2) = evS σ g b2 := by
  unfold evS
  rw [upd_upd]
theorem evS_self {σ : am_S} {g : Nat} {br : Bool} (h1 : σ.1 21 = nI g) (h2 : σ.1 23 = nI (bN (br = true))) : evS σ g br = σ := by
  unfold evS
  rw [← h1, upd_self, ← h2, upd_self]
/-- the codes up to the end -/
def cdA (A : Nat → Nat → Int32) (ge k : Nat) : Int32 := if k < ge then A 1 (125 + k) else nI 0
set_option maxHeartbeats 400000 in
set_option maxRecDepth 100000 in
theorem e_codeAt {b : Nat} {h : am_H} {σ : am_S} {ge g : Nat} {br : Bool} (k : Nat) (hk : k ≤ 4000) (hge : σ.1 22 = nI ge) (hge2 : ge ≤ 2800) (hm : Mo b h (evS σ g br)) : Ex 0 0 0 mX12_codeAt 0 (am_en [.ref b, .int (nI k)] 2) [] h (fun r h2 => r = some (.int (cdA σ.2.1 ge k)) ∧ h2 = h) := by
  have hs : Same b h h := Same.rf
  refine ex_iload_n dX12_codeAt_0 rfl ?_
  refine ex_aload_n dX12_codeAt_1 rfl rfl ?_
  refine ex_getf fX12_253 dX12_codeAt_2 hm.1 (congrArg (fun z => some (Value.int z)) hge) ?_
  refine ex_icmp_geN 20 dX12_codeAt_5 (by decide) (by omega) (by omega) (fun q5 => ?_) (fun q5 => ?_)
  · skip
    refine ex_iconstN (nI 0) dX12_codeAt_20 (by decide) ?_
    refine ex_iret rfl dX12_codeAt_21 ?_
    exact ⟨by unfold cdA; first | rw [if_pos (by omega)]; rfl | rw [if_neg (by omega)], rfl⟩
  · skip
    refine ex_aload_n dX12_codeAt_8 rfl rfl ?_
    refine ex_getf fX12_24 dX12_codeAt_9 hm.1 rfl ?_
    refine ex_bipushN (nI 125) dX12_codeAt_12 (by decide) ?_
    refine ex_iload_n dX12_codeAt_14 rfl ?_
    refine ex_iaddN dX12_codeAt_15 ?_
    refine m_ald hm dX12_codeAt_16 (by decide) (by decide) rfl (by show _ < 5725; omega) ?_
    refine ex_goto 21 dX12_codeAt_17 (by decide) ?_
    refine ex_iret rfl dX12_codeAt_21 ?_
    exact ⟨by unfold cdA; first | rw [if_pos (by omega)]; rfl | rw [if_neg (by omega)], rfl⟩
set_option maxHeartbeats 400000 in
set_option maxRecDepth 100000 in
theorem e_passes0 {b : Nat} {h : am_H} {σ : am_S} {ge g : Nat} {br : Bool} (x : Int32) (hg : g ≤ 3000) (hge : σ.1 22 = nI ge) (hge2 : ge ≤ 2800) (hm : Mo b h (evS σ g br)) : Ex 1 0 0 mX12_passes0 0 (am_en [.ref b, .int x] 3) [] h (fun r h2 => r = some (.int (nI (bN (cdA σ.2.1 ge g = x)))) ∧ Mo b h2 (evS σ (if cdA σ.2.1 ge g = x then g + 1 else g) br) ∧ Same b h h2) := by
  have hs : Same b h h := Same.rf
  refine ex_aload_n dX12_passes0_0 rfl rfl ?_
  refine ex_aload_n dX12_passes0_1 rfl rfl ?_
  refine ex_getf fX12_256 dX12_passes0_2 hm.1 (congrArg (fun z => some (Value.int z)) (show (evS σ g br).1 21 = nI g from rfl)) ?_
  refine ex_callV0 (dc := 0) (as := [.int _]) dX12_passes0_5 MX12_codeAt kX12_259 iX12_codeAt sX12_codeAt rfl rfl hm.1 rfl rfl (Nat.le_of_ble_eq_true rfl) (Nat.le_of_ble_eq_true rfl) (by decide) (e_codeAt _ (by omega) hge hge2 hm) (fun r h2 q => ?_)
  obtain ⟨rfl, rfl⟩ := q
  show Ex _ 0 0 _ _ _ (Value.int _ :: _) _ _
  refine ex_iload_n dX12_passes0_8 rfl ?_
  refine ex_icmp_ne 16 dX12_passes0_9 (by decide) (fun q9 => ?_) (fun q9 => ?_)
  · skip
    refine ex_iconstN (nI 0) dX12_passes0_16 (by decide) ?_
    refine ex_istore_n dX12_passes0_17 (by decide) ?_
    refine ex_iload_n dX12_passes0_18 rfl ?_
    refine ex_if_eqN 32 dX12_passes0_19 (by decide) (by first | omega | decide) (fun q19 => ?_) (fun q19 => ?_)
    · skip
      refine ex_iload_n dX12_passes0_32 rfl ?_
      refine ex_zret rfl (by first | exact bN_z | rfl | decide | assumption) dX12_passes0_33 ?_
      first | exact absurd q19 (by decide) | exact absurd rfl q19 | exact ⟨by first | rw [bN_t (by assumption)] | rw [bN_f (by assumption)], by first | (rw [if_pos (by assumption)]; exact hm) | (rw [if_neg (by assumption)]; exact hm), hs⟩
    · skip
      refine ex_aload_n dX12_passes0_22 rfl rfl ?_
      refine ex_dup dX12_passes0_23 rfl ?_
      refine ex_getf fX12_256 dX12_passes0_24 hm.1 (congrArg (fun z => some (Value.int z)) (show (evS σ g br).1 21 = nI g from rfl)) ?_
      refine ex_iconstN (nI 1) dX12_passes0_27 (by decide) ?_
      refine ex_iaddN dX12_passes0_28 ?_
      refine m_put hm hs pX12_256 dX12_passes0_29 (by decide) (ms21 _ _ _) (fun h1 hm hs => ?_)
      rw [evS_go] at hm
      refine ex_iload_n dX12_passes0_32 rfl ?_
      refine ex_zret rfl (by first | exact bN_z | rfl | decide | assumption) dX12_passes0_33 ?_
      first | exact absurd q19 (by decide) | exact absurd rfl q19 | exact ⟨by first | rw [bN_t (by assumption)] | rw [bN_f (by assumption)], by first | (rw [if_pos (by assumption)]; exact hm) | (rw [if_neg (by assumption)]; exact hm), hs⟩
  · skip
    refine ex_iconstN (nI 1) dX12_passes0_12 (by decide) ?_
    refine ex_goto 17 dX12_passes0_13 (by decide) ?_
    refine ex_istore_n dX12_passes0_17 (by decide) ?_
    refine ex_iload_n dX12_passes0_18 rfl ?_
    refine ex_if_eqN 32 dX12_passes0_19 (by decide) (by first | omega | decide) (fun q19 => ?_) (fun q19 => ?_)
    · skip
      refine ex_iload_n dX12_passes0_32 rfl ?_
      refine ex_zret rfl (by first | exact bN_z | rfl | decide | assumption) dX12_passes0_33 ?_
      first | exact absurd q19 (by decide) | exact absurd rfl q19 | exact ⟨by first | rw [bN_t (by assumption)] | rw [bN_f (by assumption)], by first | (rw [if_pos (by assumption)]; exact hm) | (rw [if_neg (by assumption)]; exact hm), hs⟩
    · skip
      refine ex_aload_n dX12_passes0_22 rfl rfl ?_
      refine ex_dup dX12_passes0_23 rfl ?_
      refine ex_getf fX12_256 dX12_passes0_24 hm.1 (congrArg (fun z => some (Value.int z)) (show (evS σ g br).1 21 = nI g from rfl)) ?_
      refine ex_iconstN (nI 1) dX12_passes0_27 (by decide) ?_
      refine ex_iaddN dX12_passes0_28 ?_
      refine m_put hm hs pX12_256 dX12_passes0_29 (by decide) (ms21 _ _ _) (fun h1 hm hs => ?_)
      rw [evS_go] at hm
      refine ex_iload_n dX12_passes0_32 rfl ?_
      refine ex_zret rfl (by first | exact bN_z | rfl | decide | assumption) dX12_passes0_33 ?_
      first | exact absurd q19 (by decide) | exact absurd rfl q19 | exact ⟨by first | rw [bN_t (by assumption)] | rw [bN_f (by assumption)], by first | (rw [if_pos (by assumption)]; exact hm) | (rw [if_neg (by assumption)]; exact hm), hs⟩
def bdb (v : Int64) (live br : Bool) : Bool := br || (live && (decide (1000000000 < v) || decide (v < -1000000000)))
def bdv (v : Int64) (live br : Bool) : Int64 := if bdb v live br = true then 0 else v

