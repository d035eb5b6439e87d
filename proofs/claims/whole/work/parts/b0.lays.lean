/-! ONE: a text laid by, rows copied, answers good and refused -/
def lyK (K : Nat → Int32) (l n v : Nat) (a c : Nat → Int32) : Nat → Int32 := fun i => if i = 118 + l then nI n else if 125 + 400 * l ≤ i ∧ i < 125 + 400 * l + v then a (i - (125 + 400 * l)) else if 2925 + 400 * l ≤ i ∧ i < 2925 + 400 * l + v then c (i - (2925 + 400 * l)) else K i
theorem lyK_0 {K : Nat → Int32} {l n : Nat} {a c : Nat → Int32} : upd K (118 + l) (nI n) = lyK K l n 0 a c := by
  funext i
  unfold lyK
  by_cases q : i = 118 + l
  · rw [if_pos q, q]; exact if_pos rfl
  · rw [if_neg q, if_neg (show ¬ (125 + 400 * l ≤ i ∧ i < 125 + 400 * l + 0) by omega), if_neg (show ¬ (2925 + 400 * l ≤ i ∧ i < 2925 + 400 * l + 0) by omega)]
    exact if_neg q
theorem lyK_s {K : Nat → Int32} {l n v : Nat} {a c : Nat → Int32} (hl : l < 7) (hv : v < 400) : upd (upd (lyK K l n v a c) (125 + 400 * l + v) (a v)) (2925 + 400 * l + v) (c v) = lyK K l n (v + 1) a c := by
  funext i
  by_cases q2 : i = 2925 + 400 * l + v
  · subst q2
    rw [pk_us]
    unfold lyK
    rw [if_neg (show ¬ 2925 + 400 * l + v = 118 + l by omega), if_neg (show ¬ (125 + 400 * l ≤ 2925 + 400 * l + v ∧ 2925 + 400 * l + v < 125 + 400 * l + (v + 1)) by omega), if_pos (by omega), show 2925 + 400 * l + v - (2925 + 400 * l) = v by omega]
  · rw [pk_un q2]
    by_cases q1 : i = 125 + 400 * l + v
    · subst q1
      rw [pk_us]
      unfold lyK
      rw [if_neg (show ¬ 125 + 400 * l + v = 118 + l by omega), if_pos (by omega), show 125 + 400 * l + v - (125 + 400 * l) = v by omega]
    · rw [pk_un q1]
      unfold lyK
      by_cases q : i = 118 + l
      · rw [if_pos q, if_pos q]
      · rw [if_neg q, if_neg q]
        by_cases q3 : 125 + 400 * l ≤ i ∧ i < 125 + 400 * l + v
        · rw [if_pos q3, if_pos (by omega)]
        · rw [if_neg q3, if_neg (show ¬ (125 + 400 * l ≤ i ∧ i < 125 + 400 * l + (v + 1)) by omega)]
          by_cases q4 : 2925 + 400 * l ≤ i ∧ i < 2925 + 400 * l + v
          · rw [if_pos q4, if_pos (by omega)]
          · rw [if_neg q4, if_neg (show ¬ (2925 + 400 * l ≤ i ∧ i < 2925 + 400 * l + (v + 1)) by omega)]
section LayS
variable {b : Nat} {h : am_H} {σ : am_S} {S : Nat → Int32} {A : Nat → Nat → Int32} {B : Nat → Int64} {n l : Nat}
theorem lays_l (hl : l < 7) (hn : n ≤ 400) (h17 : S 17 = nI n) {K : Nat → Int32} : ∀ (k v : Nat) (h : am_H), v + k = n → Mo b h (S, rs A 1 (lyK K l n v (A 8) (A 9)), B) → ∃ h2, Ref_lays_15 b (nI l) (nI v) h = some h2 ∧ Mo b h2 (S, rs A 1 (lyK K l n n (A 8) (A 9)), B) ∧ Same b h h2
  | 0, v, h, hv, M => by
    obtain rfl : v = n := hv
    refine ⟨h, ?_, M, Same.rf⟩
    rw [Ref_lays_15_e, M.i17]
    simp only [Option.bind_some]
    exact if_pos (by rw [h17]; exact tile.mpr (Int.le_refl _))
  | k + 1, v, h, hv, M => by
    obtain ⟨h1, x1, M1, S1⟩ := M.wrR (r := 1) (i := 125 + 400 * l + v) (by decide) (by decide) rfl (show 125 + 400 * l + v < 5725 by omega) (A 8 v)
    obtain ⟨h2, x2, M2, S2⟩ := M1.wrR (r := 1) (i := 2925 + 400 * l + v) (by decide) (by decide) rfl (show 2925 + 400 * l + v < 5725 by omega) (A 9 v)
    rw [lyK_s hl (by omega)] at M2
    obtain ⟨h3, x3, M3, S3⟩ := lays_l hl hn h17 k (v + 1) h2 (by omega) M2
    refine ⟨h3, ?_, M3, (S1.tr S2).tr S3⟩
    have e8 : aI h 0 (b + 1 + 8) (nI v) = some (A 8 v) := M.rd (r := 8) (by decide) (by decide) (show v < 401 by omega)
    have e9 : aI h1 0 (b + 1 + 9) (nI v) = some (A 9 v) := M1.rd (r := 9) (by decide) (by decide) (show v < 401 by omega)
    have p1 : ((125 : Int32) + (400 : Int32) * nI l) + nI v = nI (125 + 400 * l + v) := by
      rw [show (125 : Int32) + (400 : Int32) * nI l = nI (125 + 400 * l) from by rw [show (400 : Int32) * nI l = nI (400 * l) from pk_mul 400 l]; exact nI_add 125 _]
      exact nI_add _ _
    have p2 : ((2925 : Int32) + (400 : Int32) * nI l) + nI v = nI (2925 + 400 * l + v) := by
      rw [show (2925 : Int32) + (400 : Int32) * nI l = nI (2925 + 400 * l) from by rw [show (400 : Int32) * nI l = nI (400 * l) from pk_mul 400 l]; exact nI_add 2925 _]
      exact nI_add _ _
    rw [Ref_lays_15_e, M.i17]
    simp only [Option.bind_some]
    rw [if_neg (fun w => by
      have w := tile.mp w
      rw [h17, tin (show n < 2 ^ 31 by omega), tin (show v < 2 ^ 31 by omega)] at w
      omega), M.r2, M.r14]
    simp only [Option.bind_some]
    rw [e8]
    simp only [Option.bind_some]
    rw [p1, x1]
    simp only [Option.bind_some]
    rw [M1.r2, M1.r15]
    simp only [Option.bind_some]
    rw [e9]
    simp only [Option.bind_some]
    rw [p2, x2]
    simp only [Option.bind_some]
    rw [show nI v + 1 = nI (v + 1) from nI_add v 1]
    exact x3
theorem lays_p (hl : l < 7) (hn : n ≤ 400) (h17 : σ.1 17 = nI n) (M : Mo b h σ) : ∃ h2, Ref_lays b (nI l) h = some h2 ∧ Mo b h2 (σ.1, rs σ.2.1 1 (lyK (σ.2.1 1) l n n (σ.2.1 8) (σ.2.1 9)), σ.2.2) ∧ Same b h h2 := by
  have M0 : Mo b h (σ.1, rs σ.2.1 1 (σ.2.1 1), σ.2.2) := by rw [rs_self]; exact M
  obtain ⟨h1, x1, M1, S1⟩ := M0.wrR (r := 1) (i := 118 + l) (by decide) (by decide) rfl (show 118 + l < 5725 by omega) (nI n)
  rw [lyK_0 (a := σ.2.1 8) (c := σ.2.1 9)] at M1
  obtain ⟨h2, x2, M2, S2⟩ := lays_l hl hn h17 n 0 h1 (Nat.zero_add _) M1
  refine ⟨h2, ?_, M2, S1.tr S2⟩
  unfold Ref_lays
  rw [if_pos M.o, M.r2, M.i17]
  simp only [Option.bind_some]
  rw [h17, show (118 : Int32) + nI l = nI (118 + l) from nI_add 118 l, x1]
  exact x2
theorem lt97 {v : Nat} (h : v < 97) : ¬ (97 : Int32) ≤ nI v := fun w => by
  have w := tile.mp w
  rw [tin (show v < 2 ^ 31 by omega), show (97 : Int32).toInt = 97 from rfl] at w
  omega
theorem lt1568 {v : Nat} (h : v < 1568) : ¬ (1568 : Int32) ≤ nI v := fun w => by
  have w := tile.mp w
  rw [tin (show v < 2 ^ 31 by omega), show (1568 : Int32).toInt = 1568 from rfl] at w
  omega

theorem Ref_orders_22_l {v1 v3 : Int32} : ∀ (k v : Nat) (h : am_H), v + k = 97 → Mo b h (S, rs A 4 (fill (A 4) 0 v (A 1)), B) → ∃ h2, Ref_orders_22 b (nI v) h = Ref_orders_48 b (0 : Int32) h2 ∧ Mo b h2 (S, rs A 4 (fill (A 4) 0 97 (A 1)), B) ∧ Same b h h2
  | 0, v, h, hv, M => by
    obtain rfl : v = 97 := hv
    refine ⟨h, ?_, M, Same.rf⟩
    rw [Ref_orders_22_e, if_pos (show (97 : Int32) ≤ nI 97 by decide)]
  | k + 1, v, h, hv, M => by
    obtain ⟨h1, x1, M1, S1⟩ := M.wrR (r := 4) (i := v) (by decide) (by decide) rfl (show v < 97 by omega) (A 1 v)
    rw [fill_s0] at M1
    obtain ⟨h3, x3, M3, S3⟩ := Ref_orders_22_l (v1 := v1) (v3 := v3) k (v + 1) h1 (by omega) M1
    refine ⟨h3, ?_, M3, S1.tr S3⟩
    have e8 : aI h 0 (b + 1 + 1) (nI v) = some (A 1 v) := M.rd (r := 1) (by decide) (by decide) (show v < 5725 by omega)
    rw [Ref_orders_22_e, if_neg (lt97 (by omega)), M.r5, M.r2]
    simp only [Option.bind_some]
    rw [e8]
    simp only [Option.bind_some]
    rw [x1]
    simp only [Option.bind_some]
    rw [show nI v + 1 = nI (v + 1) from nI_add v 1]
    exact x3
theorem Ref_orders_48_l {v1 v3 : Int32} : ∀ (k v : Nat) (h : am_H), v + k = 1568 → Mo b h (S, rs A 17 (fill (A 17) 0 v (A 16)), B) → ∃ h2, Ref_orders_48 b (nI v) h = Ref_orders_48 b (nI 1568) h2 ∧ Mo b h2 (S, rs A 17 (fill (A 17) 0 1568 (A 16)), B) ∧ Same b h h2
  | 0, v, h, hv, M => by
    obtain rfl : v = 1568 := hv
    refine ⟨h, ?_, M, Same.rf⟩
    rfl
  | k + 1, v, h, hv, M => by
    obtain ⟨h1, x1, M1, S1⟩ := M.wrR (r := 17) (i := v) (by decide) (by decide) rfl (show v < 1568 by omega) (A 16 v)
    rw [fill_s0] at M1
    obtain ⟨h3, x3, M3, S3⟩ := Ref_orders_48_l (v1 := v1) (v3 := v3) k (v + 1) h1 (by omega) M1
    refine ⟨h3, ?_, M3, S1.tr S3⟩
    have e8 : aI h 0 (b + 1 + 16) (nI v) = some (A 16 v) := M.rd (r := 16) (by decide) (by decide) (show v < 1568 by omega)
    rw [Ref_orders_48_e, if_neg (lt1568 (by omega)), M.r38, M.r37]
    simp only [Option.bind_some]
    rw [e8]
    simp only [Option.bind_some]
    rw [x1]
    simp only [Option.bind_some]
    rw [show nI v + 1 = nI (v + 1) from nI_add v 1]
    exact x3
theorem Ref_orders_155_l {v1 v3 : Int32} : ∀ (k v : Nat) (h : am_H), v + k = 97 → Mo b h (S, rs A 1 (fill (A 1) 0 v (A 4)), B) → ∃ h2, Ref_orders_155 b v1 v3 (nI v) h = Ref_orders_185 b v1 v3 (0 : Int32) h2 ∧ Mo b h2 (S, rs A 1 (fill (A 1) 0 97 (A 4)), B) ∧ Same b h h2
  | 0, v, h, hv, M => by
    obtain rfl : v = 97 := hv
    refine ⟨h, ?_, M, Same.rf⟩
    rw [Ref_orders_155_e, if_pos (show (97 : Int32) ≤ nI 97 by decide)]
  | k + 1, v, h, hv, M => by
    obtain ⟨h1, x1, M1, S1⟩ := M.wrR (r := 1) (i := v) (by decide) (by decide) rfl (show v < 5725 by omega) (A 4 v)
    rw [fill_s0] at M1
    obtain ⟨h3, x3, M3, S3⟩ := Ref_orders_155_l (v1 := v1) (v3 := v3) k (v + 1) h1 (by omega) M1
    refine ⟨h3, ?_, M3, S1.tr S3⟩
    have e8 : aI h 0 (b + 1 + 4) (nI v) = some (A 4 v) := M.rd (r := 4) (by decide) (by decide) (show v < 97 by omega)
    rw [Ref_orders_155_e, if_neg (lt97 (by omega)), M.r2, M.r5]
    simp only [Option.bind_some]
    rw [e8]
    simp only [Option.bind_some]
    rw [x1]
    simp only [Option.bind_some]
    rw [show nI v + 1 = nI (v + 1) from nI_add v 1]
    exact x3
theorem Ref_orders_185_l {v1 v3 : Int32} : ∀ (k v : Nat) (h : am_H), v + k = 1568 → Mo b h (S, rs A 16 (fill (A 16) 0 v (A 17)), B) → ∃ h2, Ref_orders_185 b v1 v3 (nI v) h = Ref_orders_185 b v1 v3 (nI 1568) h2 ∧ Mo b h2 (S, rs A 16 (fill (A 16) 0 1568 (A 17)), B) ∧ Same b h h2
  | 0, v, h, hv, M => by
    obtain rfl : v = 1568 := hv
    refine ⟨h, ?_, M, Same.rf⟩
    rfl
  | k + 1, v, h, hv, M => by
    obtain ⟨h1, x1, M1, S1⟩ := M.wrR (r := 16) (i := v) (by decide) (by decide) rfl (show v < 1568 by omega) (A 17 v)
    rw [fill_s0] at M1
    obtain ⟨h3, x3, M3, S3⟩ := Ref_orders_185_l (v1 := v1) (v3 := v3) k (v + 1) h1 (by omega) M1
    refine ⟨h3, ?_, M3, S1.tr S3⟩
    have e8 : aI h 0 (b + 1 + 17) (nI v) = some (A 17 v) := M.rd (r := 17) (by decide) (by decide) (show v < 1568 by omega)
    rw [Ref_orders_185_e, if_neg (lt1568 (by omega)), M.r37, M.r38]
    simp only [Option.bind_some]
    rw [e8]
    simp only [Option.bind_some]
    rw [x1]
    simp only [Option.bind_some]
    rw [show nI v + 1 = nI (v + 1) from nI_add v 1]
    exact x3
/-- refused -/
def rfK (σ : am_S) (c : Nat) : am_S := (upd σ.1 0 (-nI c), u2 σ.2.1 0 c (σ.2.1 0 c + 1), σ.2.2)
theorem refuses_p {c : Nat} (hc : c < 7) (M : Mo b h σ) : ∃ h2, Ref_refuses b (-nI c) h = some (-nI c, h2) ∧ Mo b h2 (rfK σ c) ∧ Same b h h2 := by
  obtain ⟨h1, x1, M1, S1⟩ := M.w0 (-nI c)
  obtain ⟨h2, x2, M2, S2⟩ := M1.wr (r := 0) (i := c) (by decide) (by decide) rfl hc (σ.2.1 0 c + 1)
  refine ⟨h2, ?_, M2, S1.tr S2⟩
  have ec : -(-nI c) = nI c := Int32.neg_neg
  unfold Ref_refuses
  rw [if_pos M.o, x1]
  simp only [Option.bind_some]
  rw [M1.r1]
  simp only [Option.bind_some]
  rw [ec, show aI h1 0 (b + 1 + 0) (nI c) = some (σ.2.1 0 c) from M1.rd (r := 0) (by decide) (by decide) hc]
  simp only [Option.bind_some]
  rw [x2]
  rfl
theorem good_p (v : Int32) (M : Mo b h σ) : ∃ h2, Ref_good b v h = some (v, h2) ∧ Mo b h2 (upd σ.1 0 0, σ.2) ∧ Same b h h2 := by
  obtain ⟨h1, x1, M1, S1⟩ := M.w0 0
  refine ⟨h1, ?_, M1, S1⟩
  unfold Ref_good
  rw [if_pos M.o, x1]
  rfl
end LayS
