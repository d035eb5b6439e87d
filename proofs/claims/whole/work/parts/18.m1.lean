/-! THE REFERENCE, its small methods -/
def bN (c : Prop) [Decidable c] : Nat := if c then 1 else 0
theorem bN_0 {c : Prop} [Decidable c] : bN c = 0 ↔ ¬ c := by unfold bN; split <;> simp [*]
theorem bN_n {c : Prop} [Decidable c] : ¬ bN c = 0 ↔ c := by unfold bN; split <;> simp [*]
theorem bN_t {c : Prop} [Decidable c] (h : c) : bN c = 1 := if_pos h
theorem bN_f {c : Prop} [Decidable c] (h : ¬ c) : bN c = 0 := if_neg h
theorem bN_lt {c : Prop} [Decidable c] : bN c < 2 ^ 31 := by unfold bN; split <;> decide
theorem bN_c {c e : Prop} [Decidable c] [Decidable e] (h : c ↔ e) : bN c = bN e := by unfold bN; simp [h]
theorem bN_z {c : Prop} [Decidable c] : narrow .boolean (.int (nI (bN c))) = .int (nI (bN c)) := by unfold bN; split <;> rfl
set_option maxHeartbeats 4000000 in
set_option maxRecDepth 100000 in
theorem e_lies (v lo hi : Int32) (h : am_H) : Ex 0 0 0 mX12_lies 0 (am_en [.int v, .int lo, .int hi] 3) [] h (fun r h2 => r = some (.int (nI (bN (lo ≤ v ∧ v ≤ hi)))) ∧ h2 = h) := by
  refine ex_iload_n dX12_lies_0 rfl ?_
  refine ex_iload_n dX12_lies_1 rfl ?_
  refine ex_icmp_lt 14 dX12_lies_2 (by decide) (fun q2 => ?_) (fun q2 => ?_)
  · skip
    refine ex_iconstN (nI 0) dX12_lies_14 (by decide) ?_
    refine ex_zret rfl (by first | rfl | decide | assumption) dX12_lies_15 ?_
    refine ⟨?_, rfl⟩
    first | rw [bN_t ⟨by first | assumption | exact Int32.not_lt.mp (by assumption), by first | assumption | exact Int32.not_lt.mp (by assumption)⟩] | rw [bN_f (fun z => by first | exact absurd z.1 (Int32.not_le.mpr (by assumption)) | exact absurd z.2 (Int32.not_le.mpr (by assumption)))]
  · skip
    refine ex_iload_n dX12_lies_5 rfl ?_
    refine ex_iload_n dX12_lies_6 rfl ?_
    refine ex_icmp_gt 14 dX12_lies_7 (by decide) (fun q7 => ?_) (fun q7 => ?_)
    · skip
      refine ex_iconstN (nI 0) dX12_lies_14 (by decide) ?_
      refine ex_zret rfl (by first | rfl | decide | assumption) dX12_lies_15 ?_
      refine ⟨?_, rfl⟩
      first | rw [bN_t ⟨by first | assumption | exact Int32.not_lt.mp (by assumption), by first | assumption | exact Int32.not_lt.mp (by assumption)⟩] | rw [bN_f (fun z => by first | exact absurd z.1 (Int32.not_le.mpr (by assumption)) | exact absurd z.2 (Int32.not_le.mpr (by assumption)))]
    · skip
      refine ex_iconstN (nI 1) dX12_lies_10 (by decide) ?_
      refine ex_goto 15 dX12_lies_11 (by decide) ?_
      refine ex_zret rfl (by first | rfl | decide | assumption) dX12_lies_15 ?_
      refine ⟨?_, rfl⟩
      first | rw [bN_t ⟨by first | assumption | exact Int32.not_lt.mp (by assumption), by first | assumption | exact Int32.not_lt.mp (by assumption)⟩] | rw [bN_f (fun z => by first | exact absurd z.1 (Int32.not_le.mpr (by assumption)) | exact absurd z.2 (Int32.not_le.mpr (by assumption)))]
set_option maxHeartbeats 4000000 in
set_option maxRecDepth 100000 in
theorem e_lesser (x y : Int32) (h : am_H) : Ex 0 0 0 mX12_lesser 0 (am_en [.int x, .int y] 2) [] h (fun r h2 => r = some (.int (if x < y then x else y)) ∧ h2 = h) := by
  refine ex_iload_n dX12_lesser_0 rfl ?_
  refine ex_iload_n dX12_lesser_1 rfl ?_
  refine ex_icmp_ge 9 dX12_lesser_2 (by decide) (fun q2 => ?_) (fun q2 => ?_)
  · skip
    refine ex_iload_n dX12_lesser_9 rfl ?_
    refine ex_iret rfl dX12_lesser_10 ?_
    exact ⟨by first | rw [if_pos (by first | assumption | exact Int32.not_le.mp (by assumption))] | rw [if_neg (by first | assumption | exact Int32.not_lt.mpr (by assumption))], rfl⟩
  · skip
    refine ex_iload_n dX12_lesser_5 rfl ?_
    refine ex_goto 10 dX12_lesser_6 (by decide) ?_
    refine ex_iret rfl dX12_lesser_10 ?_
    exact ⟨by first | rw [if_pos (by first | assumption | exact Int32.not_le.mp (by assumption))] | rw [if_neg (by first | assumption | exact Int32.not_lt.mpr (by assumption))], rfl⟩
set_option maxHeartbeats 4000000 in
set_option maxRecDepth 100000 in
theorem e_isSmall (v : Int32) (h : am_H) : Ex 0 0 0 mX12_isSmall 0 (am_en [.int v] 1) [] h (fun r h2 => r = some (.int (nI (bN (97 ≤ v ∧ v ≤ 122)))) ∧ h2 = h) := by
  refine ex_iload_n dX12_isSmall_0 rfl ?_
  refine ex_bipushN (nI 97) dX12_isSmall_1 (by decide) ?_
  refine ex_icmp_lt 16 dX12_isSmall_3 (by decide) (fun q3 => ?_) (fun q3 => ?_)
  · skip
    refine ex_iconstN (nI 0) dX12_isSmall_16 (by decide) ?_
    refine ex_zret rfl (by first | rfl | decide | assumption) dX12_isSmall_17 ?_
    refine ⟨?_, rfl⟩
    first | rw [bN_t ⟨by first | assumption | exact Int32.not_lt.mp (by assumption), by first | assumption | exact Int32.not_lt.mp (by assumption)⟩] | rw [bN_f (fun z => by first | exact absurd z.1 (Int32.not_le.mpr (by assumption)) | exact absurd z.2 (Int32.not_le.mpr (by assumption)))]
  · skip
    refine ex_iload_n dX12_isSmall_6 rfl ?_
    refine ex_bipushN (nI 122) dX12_isSmall_7 (by decide) ?_
    refine ex_icmp_gt 16 dX12_isSmall_9 (by decide) (fun q9 => ?_) (fun q9 => ?_)
    · skip
      refine ex_iconstN (nI 0) dX12_isSmall_16 (by decide) ?_
      refine ex_zret rfl (by first | rfl | decide | assumption) dX12_isSmall_17 ?_
      refine ⟨?_, rfl⟩
      first | rw [bN_t ⟨by first | assumption | exact Int32.not_lt.mp (by assumption), by first | assumption | exact Int32.not_lt.mp (by assumption)⟩] | rw [bN_f (fun z => by first | exact absurd z.1 (Int32.not_le.mpr (by assumption)) | exact absurd z.2 (Int32.not_le.mpr (by assumption)))]
    · skip
      refine ex_iconstN (nI 1) dX12_isSmall_12 (by decide) ?_
      refine ex_goto 17 dX12_isSmall_13 (by decide) ?_
      refine ex_zret rfl (by first | rfl | decide | assumption) dX12_isSmall_17 ?_
      refine ⟨?_, rfl⟩
      first | rw [bN_t ⟨by first | assumption | exact Int32.not_lt.mp (by assumption), by first | assumption | exact Int32.not_lt.mp (by assumption)⟩] | rw [bN_f (fun z => by first | exact absurd z.1 (Int32.not_le.mpr (by assumption)) | exact absurd z.2 (Int32.not_le.mpr (by assumption)))]
set_option maxHeartbeats 4000000 in
set_option maxRecDepth 100000 in
theorem e_isDigit (v : Int32) (h : am_H) : Ex 0 0 0 mX12_isDigit 0 (am_en [.int v] 1) [] h (fun r h2 => r = some (.int (nI (bN (48 ≤ v ∧ v ≤ 57)))) ∧ h2 = h) := by
  refine ex_iload_n dX12_isDigit_0 rfl ?_
  refine ex_bipushN (nI 48) dX12_isDigit_1 (by decide) ?_
  refine ex_icmp_lt 16 dX12_isDigit_3 (by decide) (fun q3 => ?_) (fun q3 => ?_)
  · skip
    refine ex_iconstN (nI 0) dX12_isDigit_16 (by decide) ?_
    refine ex_zret rfl (by first | rfl | decide | assumption) dX12_isDigit_17 ?_
    refine ⟨?_, rfl⟩
    first | rw [bN_t ⟨by first | assumption | exact Int32.not_lt.mp (by assumption), by first | assumption | exact Int32.not_lt.mp (by assumption)⟩] | rw [bN_f (fun z => by first | exact absurd z.1 (Int32.not_le.mpr (by assumption)) | exact absurd z.2 (Int32.not_le.mpr (by assumption)))]
  · skip
    refine ex_iload_n dX12_isDigit_6 rfl ?_
    refine ex_bipushN (nI 57) dX12_isDigit_7 (by decide) ?_
    refine ex_icmp_gt 16 dX12_isDigit_9 (by decide) (fun q9 => ?_) (fun q9 => ?_)
    · skip
      refine ex_iconstN (nI 0) dX12_isDigit_16 (by decide) ?_
      refine ex_zret rfl (by first | rfl | decide | assumption) dX12_isDigit_17 ?_
      refine ⟨?_, rfl⟩
      first | rw [bN_t ⟨by first | assumption | exact Int32.not_lt.mp (by assumption), by first | assumption | exact Int32.not_lt.mp (by assumption)⟩] | rw [bN_f (fun z => by first | exact absurd z.1 (Int32.not_le.mpr (by assumption)) | exact absurd z.2 (Int32.not_le.mpr (by assumption)))]
    · skip
      refine ex_iconstN (nI 1) dX12_isDigit_12 (by decide) ?_
      refine ex_goto 17 dX12_isDigit_13 (by decide) ?_
      refine ex_zret rfl (by first | rfl | decide | assumption) dX12_isDigit_17 ?_
      refine ⟨?_, rfl⟩
      first | rw [bN_t ⟨by first | assumption | exact Int32.not_lt.mp (by assumption), by first | assumption | exact Int32.not_lt.mp (by assumption)⟩] | rw [bN_f (fun z => by first | exact absurd z.1 (Int32.not_le.mpr (by assumption)) | exact absurd z.2 (Int32.not_le.mpr (by assumption)))]
set_option maxHeartbeats 4000000 in
set_option maxRecDepth 100000 in
theorem e_sign (v : Int32) (h : am_H) : Ex 0 0 0 mX12_sign 0 (am_en [.int v] 1) [] h (fun r h2 => r = some (.int (nI 100 + v)) ∧ h2 = h) := by
  refine ex_bipushN (nI 100) dX12_sign_0 (by decide) ?_
  refine ex_iload_n dX12_sign_2 rfl ?_
  refine ex_iadd dX12_sign_3 ?_
  refine ex_iret rfl dX12_sign_4 ?_
  exact ⟨rfl, rfl⟩
set_option maxHeartbeats 4000000 in
set_option maxRecDepth 100000 in
theorem e_placeOf (v : Int32) (h : am_H) : Ex 0 0 0 mX12_placeOf 0 (am_en [.int v] 1) [] h (fun r h2 => r = some (.int (nI 0 + nI 16 * v)) ∧ h2 = h) := by
  refine ex_iconstN (nI 0) dX12_placeOf_0 (by decide) ?_
  refine ex_bipushN (nI 16) dX12_placeOf_1 (by decide) ?_
  refine ex_iload_n dX12_placeOf_3 rfl ?_
  refine ex_imul dX12_placeOf_4 ?_
  refine ex_iadd dX12_placeOf_5 ?_
  refine ex_iret rfl dX12_placeOf_6 ?_
  exact ⟨by simp [nI_0] <;> rfl, rfl⟩
