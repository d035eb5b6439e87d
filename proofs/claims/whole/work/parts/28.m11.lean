/-! THE REFERENCE: what a sum is, told by codes; and that the machine answers so -/
abbrev EvR : Type := Option (Int64 × Nat × Bool)
def leafv (A : Nat → Nat → Int32) (ge n : Nat) (inO live : Bool) (g : Nat) (br : Bool) : EvR :=
  if cdA A ge g = nI 50 then some (pv0 live br (A 1 (2925 + g)), g + 1, br)
  else if inO = false then
    (if cdA A ge g = nI (cdA A ge g).toNatClampNeg ∧ 8 ≤ (cdA A ge g).toNatClampNeg ∧ (cdA A ge g).toNatClampNeg ≤ 15 then some (pv0 live br (A 11 ((cdA A ge g).toNatClampNeg - 8)), g + 1, br) else none)
  else if cdA A ge g = nI 14 ∨ cdA A ge g = nI 15 ∨ cdA A ge g = nI 19 then
    (if A 1 (2925 + (g + 1)) = nI (A 1 (2925 + (g + 1))).toNatClampNeg ∧ (A 1 (2925 + (g + 1))).toNatClampNeg < 6 then some (pv0 live br (hvl A n (cdA A ge g) (A 1 (2925 + (g + 1))).toNatClampNeg), g + 1 + 1, br) else none)
  else (if cdA A ge g = nI (cdA A ge g).toNatClampNeg ∧ 16 ≤ (cdA A ge g).toNatClampNeg ∧ (cdA A ge g).toNatClampNeg ≤ 18 then some (pv0 live br (A 12 ((cdA A ge g).toNatClampNeg - 16)), g + 1, br) else none)
def tz (c : Int32) (w : Int64) : Bool := decide (¬ c = nI 142) && decide (w = 0)
def tb (c : Int32) (w : Int64) (live b1 : Bool) : Bool := if tz c w = true then b1 || live else b1
def tw (c : Int32) (w : Int64) : Int64 := if tz c w = true then 1 else w
def tx (c : Int32) (v w : Int64) : Int64 := if c = nI 142 then v * w else if c = nI 147 then v / w else v - v / w * w
def tlp (P : Nat → Bool → EvR) (A : Nat → Nat → Int32) (ge : Nat) (live : Bool) : Nat → Int64 → Nat → Bool → EvR
  | 0, _, _, _ => none
  | f + 1, v, g, br =>
    if g < 2799 then
      (if cdA A ge g = nI 142 ∨ cdA A ge g = nI 147 ∨ cdA A ge g = nI 137 then
        (match P (g + 1) br with
        | none => none
        | some (w, g2, b1) => tlp P A ge live f (bdv (tx (cdA A ge g) v (tw (cdA A ge g) w)) live (tb (cdA A ge g) w live b1)) g2 (bdb (tx (cdA A ge g) v (tw (cdA A ge g) w)) live (tb (cdA A ge g) w live b1)))
      else some (v, g, br))
    else none
def tmv (P : Nat → Bool → EvR) (A : Nat → Nat → Int32) (ge : Nat) (live : Bool) (g : Nat) (br : Bool) : EvR := match P g br with
  | none => none
  | some (v, g2, b2) => tlp P A ge live 402 v g2 b2
def sx (c : Int32) (v w : Int64) : Int64 := if c = nI 143 then v + w else v - w
def slp (P : Nat → Bool → EvR) (A : Nat → Nat → Int32) (ge : Nat) (live : Bool) : Nat → Int64 → Nat → Bool → EvR
  | 0, _, _, _ => none
  | f + 1, v, g, br =>
    if g < 2799 then
      (if cdA A ge g = nI 143 ∨ cdA A ge g = nI 145 then
        (match tmv P A ge live (g + 1) br with
        | none => none
        | some (w, g2, b1) => slp P A ge live f (bdv (sx (cdA A ge g) v w) live b1) g2 (bdb (sx (cdA A ge g) v w) live b1))
      else some (v, g, br))
    else none
def smv (P : Nat → Bool → EvR) (A : Nat → Nat → Int32) (ge : Nat) (live : Bool) (g : Nat) (br : Bool) : EvR := match tmv P A ge live g br with
  | none => none
  | some (v, g2, b2) => slp P A ge live 402 v g2 b2
/-- a part, with at most D brackets within one another -/
def ptv (A : Nat → Nat → Int32) (ge n : Nat) (inO live : Bool) : Nat → Nat → Bool → EvR
  | 0, g, br => if g < 2799 then leafv A ge n inO live g br else none
  | D + 1, g, br =>
    if g < 2799 then
      (if cdA A ge g = nI 191 then
        (match smv (ptv A ge n inO live D) A ge live (g + 1) br with
        | none => none
        | some (v, g2, b2) => some (v, g2 + 1, b2))
      else leafv A ge n inO live g br)
    else none
/-- the machine answers a part (a term, a sum) as told -/
def OkP (m : am_M) (d b : Nat) (σ : am_S) (live : Bool) (P : Nat → Bool → EvR) : Prop := ∀ (g : Nat) (br : Bool) (v : Int64) (g2 : Nat) (b2 : Bool) (h : am_H), P g br = some (v, g2, b2) → Mo b h (evS σ g br) → Ex d 0 0 m 0 (am_en [.ref b, .int (nI (bN (live = true)))] m.2.2.1) [] h (fun r h2 => r = some (.long v) ∧ Mo b h2 (evS σ g2 b2) ∧ Same b h h2)
theorem ok_leaf {b : Nat} {h : am_H} {σ : am_S} {ge g n : Nat} {br : Bool} (live inO : Bool) (hge : σ.1 22 = nI ge) (hge2 : ge ≤ 2800) (hg : g < 2799) (h24 : σ.1 24 = nI (bN (inO = true))) (hn : σ.2.1 1 96 = nI n) (hn6 : n ≤ 6) {v : Int64} {g2 : Nat} {b2 : Bool} (hv : leafv σ.2.1 ge n inO live g br = some (v, g2, b2)) (hm : Mo b h (evS σ g br)) : Ex 3 0 0 mX12_partOf 0 (am_en [.ref b, .int (nI (bN (live = true)))] 4) [] h (fun r h2 => r = some (.long v) ∧ Mo b h2 (evS σ g2 b2) ∧ Same b h h2) := by
  unfold leafv at hv
  by_cases c1 : cdA σ.2.1 ge g = nI 50
  · rw [if_pos c1] at hv
    cases hv
    exact p_num live inO hge hge2 hg h24 hn hn6 c1 hm
  · rw [if_neg c1] at hv
    by_cases c2 : inO = false
    · rw [if_pos c2] at hv
      by_cases c3 : cdA σ.2.1 ge g = nI (cdA σ.2.1 ge g).toNatClampNeg ∧ 8 ≤ (cdA σ.2.1 ge g).toNatClampNeg ∧ (cdA σ.2.1 ge g).toNatClampNeg ≤ 15
      · rw [if_pos c3] at hv
        cases hv
        exact p_law live inO hge hge2 hg h24 hn hn6 c2 c3.2.1 c3.2.2 c3.1 hm
      · rw [if_neg c3] at hv
        cases hv
    · rw [if_neg c2] at hv
      have c2 : inO = true := by
        cases h9 : inO
        · exact absurd h9 c2
        · rfl
      by_cases c4 : cdA σ.2.1 ge g = nI 14 ∨ cdA σ.2.1 ge g = nI 15 ∨ cdA σ.2.1 ge g = nI 19
      · rw [if_pos c4] at hv
        by_cases c5 : σ.2.1 1 (2925 + (g + 1)) = nI (σ.2.1 1 (2925 + (g + 1))).toNatClampNeg ∧ (σ.2.1 1 (2925 + (g + 1))).toNatClampNeg < 6
        · rw [if_pos c5] at hv
          cases hv
          rcases c4 with e | e | e
          · rw [e]; exact p_oh live inO hge hge2 hg h24 hn hn6 c2 (Or.inl rfl) e c5.1 c5.2 hm
          · rw [e]; exact p_oh live inO hge hge2 hg h24 hn hn6 c2 (Or.inr (Or.inl rfl)) e c5.1 c5.2 hm
          · rw [e]; exact p_oh live inO hge hge2 hg h24 hn hn6 c2 (Or.inr (Or.inr rfl)) e c5.1 c5.2 hm
        · rw [if_neg c5] at hv
          cases hv
      · rw [if_neg c4] at hv
        by_cases c6 : cdA σ.2.1 ge g = nI (cdA σ.2.1 ge g).toNatClampNeg ∧ 16 ≤ (cdA σ.2.1 ge g).toNatClampNeg ∧ (cdA σ.2.1 ge g).toNatClampNeg ≤ 18
        · rw [if_pos c6] at hv
          cases hv
          exact p_oo live inO hge hge2 hg h24 hn hn6 c2 c6.2.1 c6.2.2 c6.1 hm
        · rw [if_neg c6] at hv
          cases hv
set_option maxHeartbeats 400000 in
set_option maxRecDepth 100000 in
theorem l_term121 {b : Nat} {h0 h : am_H} {σ : am_S} {g2 : Nat} {live b2 : Bool} {v w : Int64} {c : Int32} {d : Nat} (hd : 1 ≤ d) {Q : Option Value → am_H → Prop} (hdiv : ¬ c = nI 142 → ¬ w = 0) (hm : Mo b h (evS σ g2 b2)) (hs : Same b h0 h)
    (hk : ∀ h2, Mo b h2 (evS σ g2 (bdb (tx c v w) live b2)) → Same b h0 h2 → Ex d 0 0 mX12_termOf 6 [.ref b, .int (nI (bN (live = true))), .long (bdv (tx c v w) live b2), .retAddr 0, .int c, .long w, .retAddr 0] [] h2 Q) : Ex d 0 0 mX12_termOf 121 [.ref b, .int (nI (bN (live = true))), .long v, .retAddr 0, .int c, .long w, .retAddr 0] [] h Q := by
  refine ex_aload_n dX12_termOf_121 rfl rfl ?_
  refine ex_iload dX12_termOf_122 rfl ?_
  refine ex_bipushN (nI 42) dX12_termOf_124 (by decide) ?_
  refine ex_callS0 (dc := 0) (as := [.int _]) dX12_termOf_126 MX12_sign kX12_215 tX12_sign rfl rfl (Nat.le_of_ble_eq_true rfl) (Nat.le_of_ble_eq_true rfl) (by first | decide | omega) (e_sign _ _) (fun r h2 q => ?_)
  obtain ⟨rfl, rfl⟩ := q
  show Ex _ 0 0 _ _ _ (Value.int _ :: _) _ _
  rw [sgn]
  refine ex_icmp_ne 139 dX12_termOf_129 (by decide) (fun q129 => ?_) (fun q129 => ?_)
  · skip
    refine ex_iload dX12_termOf_139 rfl ?_
    refine ex_bipushN (nI 47) dX12_termOf_141 (by decide) ?_
    refine ex_callS0 (dc := 0) (as := [.int _]) dX12_termOf_143 MX12_sign kX12_215 tX12_sign rfl rfl (Nat.le_of_ble_eq_true rfl) (Nat.le_of_ble_eq_true rfl) (by first | decide | omega) (e_sign _ _) (fun r h2 q => ?_)
    obtain ⟨rfl, rfl⟩ := q
    show Ex _ 0 0 _ _ _ (Value.int _ :: _) _ _
    rw [sgn]
    refine ex_icmp_ne 156 dX12_termOf_146 (by decide) (fun q146 => ?_) (fun q146 => ?_)
    · skip
      refine ex_lload_n dX12_termOf_156 rfl ?_
      refine ex_lload dX12_termOf_157 rfl ?_
      refine ex_lrem dX12_termOf_159 (by first | omega | exact bN_lt | exact (hdiv (by assumption))) ?_
      refine ex_iload_n dX12_termOf_160 rfl ?_
      refine ex_callV0 (dc := 0) (as := [.long _, .int _]) dX12_termOf_161 MX12_bounded kX12_273 iX12_bounded sX12_bounded rfl rfl hm.1 rfl rfl (Nat.le_of_ble_eq_true rfl) (Nat.le_of_ble_eq_true rfl) (by first | decide | omega) (e_bounded _ live b2 rfl hm) (fun r h2 q => ?_)
      obtain ⟨rfl, hm, hs2⟩ := q
      have hs := hs.tr hs2
      rw [evS_br] at hm
      show Ex _ 0 0 _ _ _ (Value.long _ :: _) _ _
      refine ex_lstore_n dX12_termOf_164 (by decide) ?_
      refine ex_goto 6 dX12_termOf_165 (by decide) ?_
      rw [show tx c v w = v - v / w * w from (if_neg q129).trans (if_neg q146)] at hk
      exact hk _ hm hs
    · skip
      refine ex_lload_n dX12_termOf_149 rfl ?_
      refine ex_lload dX12_termOf_150 rfl ?_
      refine ex_ldiv dX12_termOf_152 (by first | omega | exact bN_lt | exact (hdiv (by assumption))) ?_
      refine ex_goto 160 dX12_termOf_153 (by decide) ?_
      refine ex_iload_n dX12_termOf_160 rfl ?_
      refine ex_callV0 (dc := 0) (as := [.long _, .int _]) dX12_termOf_161 MX12_bounded kX12_273 iX12_bounded sX12_bounded rfl rfl hm.1 rfl rfl (Nat.le_of_ble_eq_true rfl) (Nat.le_of_ble_eq_true rfl) (by first | decide | omega) (e_bounded _ live b2 rfl hm) (fun r h2 q => ?_)
      obtain ⟨rfl, hm, hs2⟩ := q
      have hs := hs.tr hs2
      rw [evS_br] at hm
      show Ex _ 0 0 _ _ _ (Value.long _ :: _) _ _
      refine ex_lstore_n dX12_termOf_164 (by decide) ?_
      refine ex_goto 6 dX12_termOf_165 (by decide) ?_
      rw [show tx c v w = v / w from (if_neg q129).trans (if_pos q146)] at hk
      exact hk _ hm hs
  · skip
    refine ex_lload_n dX12_termOf_132 rfl ?_
    refine ex_lload dX12_termOf_133 rfl ?_
    refine ex_lmul dX12_termOf_135 ?_
    refine ex_goto 160 dX12_termOf_136 (by decide) ?_
    refine ex_iload_n dX12_termOf_160 rfl ?_
    refine ex_callV0 (dc := 0) (as := [.long _, .int _]) dX12_termOf_161 MX12_bounded kX12_273 iX12_bounded sX12_bounded rfl rfl hm.1 rfl rfl (Nat.le_of_ble_eq_true rfl) (Nat.le_of_ble_eq_true rfl) (by first | decide | omega) (e_bounded _ live b2 rfl hm) (fun r h2 q => ?_)
    obtain ⟨rfl, hm, hs2⟩ := q
    have hs := hs.tr hs2
    rw [evS_br] at hm
    show Ex _ 0 0 _ _ _ (Value.long _ :: _) _ _
    refine ex_lstore_n dX12_termOf_164 (by decide) ?_
    refine ex_goto 6 dX12_termOf_165 (by decide) ?_
    rw [show tx c v w = v * w from if_pos q129] at hk
    exact hk _ hm hs
