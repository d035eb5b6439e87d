/-! RULES OVER COUNTS: where numbers are nI of a count; and calls that make no cell -/
section Counts
variable {dp nc ns : Nat} {M : am_M} {pc : Nat} {L st : List Value} {h : am_H} {Q : Option Value → am_H → Prop}
theorem ex_iaddN {a b : Nat} (d : decode M.2.1 pc = .ok (.iadd, 1)) (k : Ex dp nc ns M (pc + 1) L (.int (nI (a + b)) :: st) h Q) : Ex dp nc ns M pc L (.int (nI b) :: .int (nI a) :: st) h Q := ex_iadd d (by rw [nI_add]; exact k)
theorem ex_isubN {a b : Nat} (d : decode M.2.1 pc = .ok (.isub, 1)) (hle : b ≤ a) (k : Ex dp nc ns M (pc + 1) L (.int (nI (a - b)) :: st) h Q) : Ex dp nc ns M pc L (.int (nI b) :: .int (nI a) :: st) h Q := ex_isub d (by rw [pk_sub hle]; exact k)
theorem ex_imulN {a b : Nat} (d : decode M.2.1 pc = .ok (.imul, 1)) (k : Ex dp nc ns M (pc + 1) L (.int (nI (a * b)) :: st) h Q) : Ex dp nc ns M pc L (.int (nI b) :: .int (nI a) :: st) h Q := ex_imul d (by rw [pk_mul]; exact k)
theorem ex_idivN {a b : Nat} (d : decode M.2.1 pc = .ok (.idiv, 1)) (ha : a < 2 ^ 31) (h0 : 0 < b) (hb : b < 2 ^ 31) (k : Ex dp nc ns M (pc + 1) L (.int (nI (a / b)) :: st) h Q) : Ex dp nc ns M pc L (.int (nI b) :: .int (nI a) :: st) h Q := ex_idiv d (nI_ne0 h0 hb) (by rw [pk_div ha h0 hb]; exact k)
theorem ex_iremN {a b : Nat} (d : decode M.2.1 pc = .ok (.irem, 1)) (ha : a < 2 ^ 31) (h0 : 0 < b) (hb : b < 2 ^ 31) (k : Ex dp nc ns M (pc + 1) L (.int (nI (a % b)) :: st) h Q) : Ex dp nc ns M pc L (.int (nI b) :: .int (nI a) :: st) h Q := ex_irem d (nI_ne0 h0 hb) (by rw [pk_rem ha h0 hb]; exact k)
theorem ex_iconstN {n : Int} (v : Int32) (d : decode M.2.1 pc = .ok (.iconst n, 1)) (hv : Int32.ofInt n = v) (k : Ex dp nc ns M (pc + 1) L (.int v :: st) h Q) : Ex dp nc ns M pc L st h Q := ex_iconst d (by rw [hv]; exact k)
theorem ex_bipushN {n : Int} (v : Int32) (d : decode M.2.1 pc = .ok (.bipush n, 2)) (hv : (Int8.ofInt n).toInt32 = v) (k : Ex dp nc ns M (pc + 2) L (.int v :: st) h Q) : Ex dp nc ns M pc L st h Q := ex_bipush d (by rw [hv]; exact k)
theorem ex_sipushN {n : Int} (v : Int32) (d : decode M.2.1 pc = .ok (.sipush n, 3)) (hv : (Int16.ofInt n).toInt32 = v) (k : Ex dp nc ns M (pc + 3) L (.int v :: st) h Q) : Ex dp nc ns M pc L st h Q := ex_sipush d (by rw [hv]; exact k)
theorem ex_iincN {i : Nat} {n : Int} {a : Nat} (m : Nat) (d : decode M.2.1 pc = .ok (.iinc i n, 3)) (hn1 : n = (m : Int)) (hv : L[i]? = some (.int (nI a))) (hn : i < M.2.2.1) (k : Ex dp nc ns M (pc + 3) (am_st1 L i (.int (nI (a + m)))) st h Q) : Ex dp nc ns M pc L st h Q := by
  subst hn1
  refine ex_iinc d hv hn ?_
  have : nI a + Int32.ofInt (m : Int) = nI (a + m) := nI_add a m
  rw [this]
  exact k
theorem ex_iincD {i : Nat} {a : Nat} (d : decode M.2.1 pc = .ok (.iinc i (-1), 3)) (hv : L[i]? = some (.int (nI (a + 1)))) (hn : i < M.2.2.1) (k : Ex dp nc ns M (pc + 3) (am_st1 L i (.int (nI a))) st h Q) : Ex dp nc ns M pc L st h Q := by
  refine ex_iinc d hv hn ?_
  have : nI (a + 1) + Int32.ofInt (-1) = nI a := pk_m1 a
  rw [this]
  exact k
theorem ex_icmp_eqN {a b : Nat} {off : Int} (tgt : Nat) (d : decode M.2.1 pc = .ok (.if_icmp .eq off, 3)) (ht : (pc : Int) + off = (tgt : Int)) (ha : a < 2 ^ 31) (hb : b < 2 ^ 31) (k1 : a = b → Ex dp nc ns M tgt L st h Q) (k2 : ¬ a = b → Ex dp nc ns M (pc + 3) L st h Q) : Ex dp nc ns M pc L (.int (nI b) :: .int (nI a) :: st) h Q := ex_icmp_eq tgt d ht (fun q => k1 ((nI_eq ha hb).mp q)) (fun q => k2 (fun z => q ((nI_eq ha hb).mpr z)))
theorem ex_icmp_neN {a b : Nat} {off : Int} (tgt : Nat) (d : decode M.2.1 pc = .ok (.if_icmp .ne off, 3)) (ht : (pc : Int) + off = (tgt : Int)) (ha : a < 2 ^ 31) (hb : b < 2 ^ 31) (k1 : ¬ a = b → Ex dp nc ns M tgt L st h Q) (k2 : a = b → Ex dp nc ns M (pc + 3) L st h Q) : Ex dp nc ns M pc L (.int (nI b) :: .int (nI a) :: st) h Q := ex_icmp_ne tgt d ht (fun q => k1 (fun z => q ((nI_eq ha hb).mpr z))) (fun q => k2 ((nI_eq ha hb).mp (Classical.byContradiction (fun z => by first | exact z q | exact q z))))
theorem ex_icmp_ltN {a b : Nat} {off : Int} (tgt : Nat) (d : decode M.2.1 pc = .ok (.if_icmp .lt off, 3)) (ht : (pc : Int) + off = (tgt : Int)) (ha : a < 2 ^ 31) (hb : b < 2 ^ 31) (k1 : a < b → Ex dp nc ns M tgt L st h Q) (k2 : b ≤ a → Ex dp nc ns M (pc + 3) L st h Q) : Ex dp nc ns M pc L (.int (nI b) :: .int (nI a) :: st) h Q := ex_icmp_lt tgt d ht (fun q => k1 ((nI_ltI ha hb).mp q)) (fun q => k2 (by have := mt (nI_ltI ha hb).mpr q; omega))
theorem ex_icmp_geN {a b : Nat} {off : Int} (tgt : Nat) (d : decode M.2.1 pc = .ok (.if_icmp .ge off, 3)) (ht : (pc : Int) + off = (tgt : Int)) (ha : a < 2 ^ 31) (hb : b < 2 ^ 31) (k1 : b ≤ a → Ex dp nc ns M tgt L st h Q) (k2 : a < b → Ex dp nc ns M (pc + 3) L st h Q) : Ex dp nc ns M pc L (.int (nI b) :: .int (nI a) :: st) h Q := ex_icmp_ge tgt d ht (fun q => k1 ((nI_leI hb ha).mp q)) (fun q => k2 (by have := mt (nI_leI hb ha).mpr q; omega))
theorem ex_icmp_gtN {a b : Nat} {off : Int} (tgt : Nat) (d : decode M.2.1 pc = .ok (.if_icmp .gt off, 3)) (ht : (pc : Int) + off = (tgt : Int)) (ha : a < 2 ^ 31) (hb : b < 2 ^ 31) (k1 : b < a → Ex dp nc ns M tgt L st h Q) (k2 : a ≤ b → Ex dp nc ns M (pc + 3) L st h Q) : Ex dp nc ns M pc L (.int (nI b) :: .int (nI a) :: st) h Q := ex_icmp_gt tgt d ht (fun q => k1 ((nI_ltI hb ha).mp q)) (fun q => k2 (by have := mt (nI_ltI hb ha).mpr q; omega))
theorem ex_icmp_leN {a b : Nat} {off : Int} (tgt : Nat) (d : decode M.2.1 pc = .ok (.if_icmp .le off, 3)) (ht : (pc : Int) + off = (tgt : Int)) (ha : a < 2 ^ 31) (hb : b < 2 ^ 31) (k1 : a ≤ b → Ex dp nc ns M tgt L st h Q) (k2 : b < a → Ex dp nc ns M (pc + 3) L st h Q) : Ex dp nc ns M pc L (.int (nI b) :: .int (nI a) :: st) h Q := ex_icmp_le tgt d ht (fun q => k1 ((nI_leI ha hb).mp q)) (fun q => k2 (by have := mt (nI_leI ha hb).mpr q; omega))
theorem ex_if_eqN {a : Nat} {off : Int} (tgt : Nat) (d : decode M.2.1 pc = .ok (.ifCond .eq off, 3)) (ht : (pc : Int) + off = (tgt : Int)) (ha : a < 2 ^ 31) (k1 : a = 0 → Ex dp nc ns M tgt L st h Q) (k2 : ¬ a = 0 → Ex dp nc ns M (pc + 3) L st h Q) : Ex dp nc ns M pc L (.int (nI a) :: st) h Q := by
  have e0 : (0 : Int32) = nI 0 := nI_0.symm
  have z0 : (0 : Nat) < 2 ^ 31 := by decide
  have E := nI_eq ha z0
  have L1 := nI_ltI ha z0
  have L2 := nI_ltI z0 ha
  have G1 := nI_leI ha z0
  have G2 := nI_leI z0 ha
  rw [nI_0] at E L1 L2 G1 G2
  refine ex_if_eq tgt d ht (fun q => k1 ?_) (fun q => k2 ?_)
  · first | exact trivial | (simp only [E, L1, L2, G1, G2] at q; omega)
  · first | exact trivial | (simp only [E, L1, L2, G1, G2] at q; omega)
theorem ex_if_neN {a : Nat} {off : Int} (tgt : Nat) (d : decode M.2.1 pc = .ok (.ifCond .ne off, 3)) (ht : (pc : Int) + off = (tgt : Int)) (ha : a < 2 ^ 31) (k1 : ¬ a = 0 → Ex dp nc ns M tgt L st h Q) (k2 : a = 0 → Ex dp nc ns M (pc + 3) L st h Q) : Ex dp nc ns M pc L (.int (nI a) :: st) h Q := by
  have e0 : (0 : Int32) = nI 0 := nI_0.symm
  have z0 : (0 : Nat) < 2 ^ 31 := by decide
  have E := nI_eq ha z0
  have L1 := nI_ltI ha z0
  have L2 := nI_ltI z0 ha
  have G1 := nI_leI ha z0
  have G2 := nI_leI z0 ha
  rw [nI_0] at E L1 L2 G1 G2
  refine ex_if_ne tgt d ht (fun q => k1 ?_) (fun q => k2 ?_)
  · first | exact trivial | (simp only [E, L1, L2, G1, G2] at q; omega)
  · first | exact trivial | (simp only [E, L1, L2, G1, G2] at q; omega)
theorem ex_if_ltN {a : Nat} {off : Int} (tgt : Nat) (d : decode M.2.1 pc = .ok (.ifCond .lt off, 3)) (ht : (pc : Int) + off = (tgt : Int)) (ha : a < 2 ^ 31) (k1 : False → Ex dp nc ns M tgt L st h Q) (k2 : True → Ex dp nc ns M (pc + 3) L st h Q) : Ex dp nc ns M pc L (.int (nI a) :: st) h Q := by
  have e0 : (0 : Int32) = nI 0 := nI_0.symm
  have z0 : (0 : Nat) < 2 ^ 31 := by decide
  have E := nI_eq ha z0
  have L1 := nI_ltI ha z0
  have L2 := nI_ltI z0 ha
  have G1 := nI_leI ha z0
  have G2 := nI_leI z0 ha
  rw [nI_0] at E L1 L2 G1 G2
  refine ex_if_lt tgt d ht (fun q => k1 ?_) (fun q => k2 ?_)
  · first | exact trivial | (simp only [E, L1, L2, G1, G2] at q; omega)
  · first | exact trivial | (simp only [E, L1, L2, G1, G2] at q; omega)
theorem ex_if_geN {a : Nat} {off : Int} (tgt : Nat) (d : decode M.2.1 pc = .ok (.ifCond .ge off, 3)) (ht : (pc : Int) + off = (tgt : Int)) (ha : a < 2 ^ 31) (k1 : True → Ex dp nc ns M tgt L st h Q) (k2 : False → Ex dp nc ns M (pc + 3) L st h Q) : Ex dp nc ns M pc L (.int (nI a) :: st) h Q := by
  have e0 : (0 : Int32) = nI 0 := nI_0.symm
  have z0 : (0 : Nat) < 2 ^ 31 := by decide
  have E := nI_eq ha z0
  have L1 := nI_ltI ha z0
  have L2 := nI_ltI z0 ha
  have G1 := nI_leI ha z0
  have G2 := nI_leI z0 ha
  rw [nI_0] at E L1 L2 G1 G2
  refine ex_if_ge tgt d ht (fun q => k1 ?_) (fun q => k2 ?_)
  · first | exact trivial | (simp only [E, L1, L2, G1, G2] at q; omega)
  · first | exact trivial | (simp only [E, L1, L2, G1, G2] at q; omega)
theorem ex_if_gtN {a : Nat} {off : Int} (tgt : Nat) (d : decode M.2.1 pc = .ok (.ifCond .gt off, 3)) (ht : (pc : Int) + off = (tgt : Int)) (ha : a < 2 ^ 31) (k1 : 0 < a → Ex dp nc ns M tgt L st h Q) (k2 : a = 0 → Ex dp nc ns M (pc + 3) L st h Q) : Ex dp nc ns M pc L (.int (nI a) :: st) h Q := by
  have e0 : (0 : Int32) = nI 0 := nI_0.symm
  have z0 : (0 : Nat) < 2 ^ 31 := by decide
  have E := nI_eq ha z0
  have L1 := nI_ltI ha z0
  have L2 := nI_ltI z0 ha
  have G1 := nI_leI ha z0
  have G2 := nI_leI z0 ha
  rw [nI_0] at E L1 L2 G1 G2
  refine ex_if_gt tgt d ht (fun q => k1 ?_) (fun q => k2 ?_)
  · first | exact trivial | (simp only [E, L1, L2, G1, G2] at q; omega)
  · first | exact trivial | (simp only [E, L1, L2, G1, G2] at q; omega)
theorem ex_if_leN {a : Nat} {off : Int} (tgt : Nat) (d : decode M.2.1 pc = .ok (.ifCond .le off, 3)) (ht : (pc : Int) + off = (tgt : Int)) (ha : a < 2 ^ 31) (k1 : a = 0 → Ex dp nc ns M tgt L st h Q) (k2 : 0 < a → Ex dp nc ns M (pc + 3) L st h Q) : Ex dp nc ns M pc L (.int (nI a) :: st) h Q := by
  have e0 : (0 : Int32) = nI 0 := nI_0.symm
  have z0 : (0 : Nat) < 2 ^ 31 := by decide
  have E := nI_eq ha z0
  have L1 := nI_ltI ha z0
  have L2 := nI_ltI z0 ha
  have G1 := nI_leI ha z0
  have G2 := nI_leI z0 ha
  rw [nI_0] at E L1 L2 G1 G2
  refine ex_if_le tgt d ht (fun q => k1 ?_) (fun q => k2 ?_)
  · first | exact trivial | (simp only [E, L1, L2, G1, G2] at q; omega)
  · first | exact trivial | (simp only [E, L1, L2, G1, G2] at q; omega)
theorem ex_ialdN {a n k : Nat} {f : Nat → Int32} (d : decode M.2.1 pc = .ok (.iaload, 1)) (ha : h[a]? = some (.inl (0, n, .inl f))) (hk : k < n) (hn : n < 2 ^ 31) (kk : Ex dp nc ns M (pc + 1) L (.int (f k) :: st) h Q) : Ex dp nc ns M pc L (.int (nI k) :: .ref a :: st) h Q := ex_iald d ha (vp_in_nI hk hn) (by rw [nI_clamp (Nat.lt_trans hk hn)]; exact kk)
theorem ex_baldN {a n k : Nat} {f : Nat → Int32} (d : decode M.2.1 pc = .ok (.baload, 1)) (ha : h[a]? = some (.inl (1, n, .inl f))) (hk : k < n) (hn : n < 2 ^ 31) (kk : Ex dp nc ns M (pc + 1) L (.int (f k) :: st) h Q) : Ex dp nc ns M pc L (.int (nI k) :: .ref a :: st) h Q := ex_bald d ha (vp_in_nI hk hn) (by rw [nI_clamp (Nat.lt_trans hk hn)]; exact kk)
theorem ex_zaldN {a n k : Nat} {f : Nat → Int32} (d : decode M.2.1 pc = .ok (.baload, 1)) (ha : h[a]? = some (.inl (2, n, .inl f))) (hk : k < n) (hn : n < 2 ^ 31) (kk : Ex dp nc ns M (pc + 1) L (.int (f k) :: st) h Q) : Ex dp nc ns M pc L (.int (nI k) :: .ref a :: st) h Q := ex_zald d ha (vp_in_nI hk hn) (by rw [nI_clamp (Nat.lt_trans hk hn)]; exact kk)
theorem ex_laldN {a n k : Nat} {f : Nat → Int64} (d : decode M.2.1 pc = .ok (.laload, 1)) (ha : h[a]? = some (.inl (3, n, .inr (.inl f)))) (hk : k < n) (hn : n < 2 ^ 31) (kk : Ex dp nc ns M (pc + 1) L (.long (f k) :: st) h Q) : Ex dp nc ns M pc L (.int (nI k) :: .ref a :: st) h Q := ex_lald d ha (vp_in_nI hk hn) (by rw [nI_clamp (Nat.lt_trans hk hn)]; exact kk)
theorem ex_iastN {a n k : Nat} {f : Nat → Int32} {x : Int32} (d : decode M.2.1 pc = .ok (.iastore, 1)) (ha : h[a]? = some (.inl (0, n, .inl f))) (hk : k < n) (hn : n < 2 ^ 31) (kk : Ex dp nc ns M (pc + 1) L st (h.set a (.inl (0, n, .inl (upd f k x)))) Q) : Ex dp nc ns M pc L (.int x :: .int (nI k) :: .ref a :: st) h Q := ex_iast d ha (vp_in_nI hk hn) (by rw [nI_clamp (Nat.lt_trans hk hn)]; exact kk)
theorem ex_bastN {a n k : Nat} {f : Nat → Int32} {x : Int32} (d : decode M.2.1 pc = .ok (.bastore, 1)) (ha : h[a]? = some (.inl (1, n, .inl f))) (hk : k < n) (hn : n < 2 ^ 31) (kk : Ex dp nc ns M (pc + 1) L st (h.set a (.inl (1, n, .inl (upd f k (vp_nar .byte x))))) Q) : Ex dp nc ns M pc L (.int x :: .int (nI k) :: .ref a :: st) h Q := ex_bast d ha (vp_in_nI hk hn) (by rw [nI_clamp (Nat.lt_trans hk hn)]; exact kk)
theorem ex_zastN {a n k : Nat} {f : Nat → Int32} {x : Int32} (d : decode M.2.1 pc = .ok (.bastore, 1)) (ha : h[a]? = some (.inl (2, n, .inl f))) (hk : k < n) (hn : n < 2 ^ 31) (kk : Ex dp nc ns M (pc + 1) L st (h.set a (.inl (2, n, .inl (upd f k (vp_nar .boolean x))))) Q) : Ex dp nc ns M pc L (.int x :: .int (nI k) :: .ref a :: st) h Q := ex_zast d ha (vp_in_nI hk hn) (by rw [nI_clamp (Nat.lt_trans hk hn)]; exact kk)
theorem ex_lastN {a n k : Nat} {f : Nat → Int64} {x : Int64} (d : decode M.2.1 pc = .ok (.lastore, 1)) (ha : h[a]? = some (.inl (3, n, .inr (.inl f)))) (hk : k < n) (hn : n < 2 ^ 31) (kk : Ex dp nc ns M (pc + 1) L st (h.set a (.inl (3, n, .inr (.inl (vp_updL f k x))))) Q) : Ex dp nc ns M pc L (.long x :: .int (nI k) :: .ref a :: st) h Q := ex_last d ha (vp_in_nI hk hn) (by rw [nI_clamp (Nat.lt_trans hk hn)]; exact kk)
end Counts
section Calls0
variable {dp dc : Nat} {M M' : am_M} {pc idx n : Nat} {L st stk as : List Value} {h : am_H} {Q Q1 : Option Value → am_H → Prop}
theorem ex_callV0 {a ci : Nat} {fs : List Value} {r : vw_C} (d : decode M.2.1 pc = .ok (.invokevirtual idx, 3)) (hM : am_MM n M') (hl : Cond.methodLink M.1.cls idx M'.1 ∈ am_tbl) (hi : Cond.instanceMethod M'.1 ∈ am_tbl) (hs : Cond.selects M'.1.cls M'.1 M'.1 ∈ am_tbl) (hstk : stk = as.reverse ++ .ref a :: st) (hn : as.length = n) (ho : h[a]? = some (.inr (ci, fs))) (hc : vwCl[ci]? = some r) (hcr : r.1 = M'.1.cls) (hw : (st.map fun v => v.category).sum ≤ 8) (hlen : (am_in (.ref a :: as)).length ≤ M'.2.2.1) (hd : dc + 1 ≤ dp)
    (hcal : Ex dc 0 0 M' 0 (am_en (.ref a :: as) M'.2.2.1) [] h Q1) (kk : ∀ v h', Q1 v h' → Ex dp 0 0 M (pc + 3) L (v.toList ++ st) h' Q) : Ex dp 0 0 M pc L stk h Q := by
  obtain ⟨e, rfl⟩ : ∃ e, dp = e + 1 := ⟨dp - 1, by omega⟩
  exact ex_callV (nc1 := 0) (ns1 := 0) (nc := 0) (ns := 0) d hM hl hi hs hstk hn ho hc hcr hw hlen (hcal.widen (by omega) (Nat.le_refl _) (Nat.le_refl _)) kk
theorem ex_callS0 (d : decode M.2.1 pc = .ok (.invokestatic idx, 3)) (hM : am_MM n M') (hl : Cond.methodLink M.1.cls idx M'.1 ∈ am_tbl) (hi : Cond.static M'.1 ∈ am_tbl) (hstk : stk = as.reverse ++ st) (hn : as.length = n) (hw : (st.map fun v => v.category).sum ≤ 8) (hlen : (am_in as).length ≤ M'.2.2.1) (hd : dc + 1 ≤ dp)
    (hcal : Ex dc 0 0 M' 0 (am_en as M'.2.2.1) [] h Q1) (kk : ∀ v h', Q1 v h' → Ex dp 0 0 M (pc + 3) L (v.toList ++ st) h' Q) : Ex dp 0 0 M pc L stk h Q := by
  obtain ⟨e, rfl⟩ : ∃ e, dp = e + 1 := ⟨dp - 1, by omega⟩
  exact ex_callS (nc1 := 0) (ns1 := 0) (nc := 0) (ns := 0) d hM hl hi hstk hn hw hlen (hcal.widen (by omega) (Nat.le_refl _) (Nat.le_refl _)) kk
end Calls0
