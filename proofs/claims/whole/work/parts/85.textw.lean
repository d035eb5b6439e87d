/-! PURE: a text is written -/
theorem nI_or (a b : Nat) : nI a ||| nI b = nI (a ||| b) := by
  apply Int32.toBitVec_inj.mp
  rw [Int32.toBitVec_or]
  show BitVec.ofNat 32 a ||| BitVec.ofNat 32 b = BitVec.ofNat 32 (a ||| b)
  apply BitVec.eq_of_getLsbD_eq
  intro i hi
  simp [BitVec.getLsbD_or, BitVec.getLsbD_ofNat, Nat.testBit_or, hi]
theorem cw_or {o g : Nat} (ho : o < 16) (hg : o + 16 * g < 2 ^ 31) : nI o ||| (nI g <<< ((4 : Int32) &&& 31)) = nI (o + 16 * g) := by
  rw [pk_shlN (n := g) _ 4 (by decide) (by omega), nI_or]
  congr 1
  rw [Nat.or_comm, ← Nat.shiftLeft_eq, ← Nat.shiftLeft_add_eq_or_of_lt (by omega), Nat.shiftLeft_eq]; omega
abbrev xP (a : Nat) : Nat → Prop := fun x => a ≤ x ∧ x ≤ a + 5
section TextW
variable {h : am_H} {a n c nC nK : Nat} {al : Int32} {cf kf sf tf mf : Nat → Int32}
theorem TxA.setO (H : TxA h a n c nC nK al cf kf sf tf mf) {n2 c2 : Nat} {al2 : Int32} (h1 : n2 ≤ nC) (h2 : c2 ≤ nK) : TxA (h.set a (.inr (9, texF a (nI n2) (nI c2) al2))) a n2 c2 nC nK al2 cf kf sf tf mf ∧ Fr (xP a) h (h.set a (.inr (9, texF a (nI n2) (nI c2) al2))) := by
  obtain ⟨z1, z2, z3, z4, z5, a1, a2, a3, a4, a5, a6⟩ := H
  refine ⟨⟨h1, h2, z3, z4, z5, set_at a1, ?_, ?_, ?_, ?_, ?_⟩, Fr.set (by show a ≤ a ∧ _; omega)⟩ <;> rw [List.getElem?_set_ne (by omega)] <;> assumption

theorem TxA.setC (H : TxA h a n c nC nK al cf kf sf tf mf) (g : Nat → Int32) : TxA (h.set (a + 1) (.inl (0, nC, .inl g))) a n c nC nK al g kf sf tf mf ∧ Fr (xP a) h (h.set (a + 1) (.inl (0, nC, .inl g))) := by
  obtain ⟨z1, z2, z3, z4, z5, a1, a2, a3, a4, a5, a6⟩ := H
  refine ⟨⟨z1, z2, z3, z4, z5, ?_, set_at a2, ?_, ?_, ?_, ?_⟩, Fr.set (by show a ≤ a + 1 ∧ _; omega)⟩ <;> rw [List.getElem?_set_ne (by omega)] <;> assumption
theorem TxA.setK (H : TxA h a n c nC nK al cf kf sf tf mf) (g : Nat → Int32) : TxA (h.set (a + 2) (.inl (0, nK, .inl g))) a n c nC nK al cf g sf tf mf ∧ Fr (xP a) h (h.set (a + 2) (.inl (0, nK, .inl g))) := by
  obtain ⟨z1, z2, z3, z4, z5, a1, a2, a3, a4, a5, a6⟩ := H
  refine ⟨⟨z1, z2, z3, z4, z5, ?_, ?_, set_at a3, ?_, ?_, ?_⟩, Fr.set (by show a ≤ a + 2 ∧ _; omega)⟩ <;> rw [List.getElem?_set_ne (by omega)] <;> assumption
theorem TxA.setS (H : TxA h a n c nC nK al cf kf sf tf mf) (g : Nat → Int32) : TxA (h.set (a + 3) (.inl (0, nK * 3, .inl g))) a n c nC nK al cf kf g tf mf ∧ Fr (xP a) h (h.set (a + 3) (.inl (0, nK * 3, .inl g))) := by
  obtain ⟨z1, z2, z3, z4, z5, a1, a2, a3, a4, a5, a6⟩ := H
  refine ⟨⟨z1, z2, z3, z4, z5, ?_, ?_, ?_, set_at a4, ?_, ?_⟩, Fr.set (by show a ≤ a + 3 ∧ _; omega)⟩ <;> rw [List.getElem?_set_ne (by omega)] <;> assumption
theorem TxA.setT (H : TxA h a n c nC nK al cf kf sf tf mf) (g : Nat → Int32) : TxA (h.set (a + 4) (.inl (0, nK, .inl g))) a n c nC nK al cf kf sf g mf ∧ Fr (xP a) h (h.set (a + 4) (.inl (0, nK, .inl g))) := by
  obtain ⟨z1, z2, z3, z4, z5, a1, a2, a3, a4, a5, a6⟩ := H
  refine ⟨⟨z1, z2, z3, z4, z5, ?_, ?_, ?_, ?_, set_at a5, ?_⟩, Fr.set (by show a ≤ a + 4 ∧ _; omega)⟩ <;> rw [List.getElem?_set_ne (by omega)] <;> assumption
theorem TxA.setM (H : TxA h a n c nC nK al cf kf sf tf mf) (g : Nat → Int32) : TxA (h.set (a + 5) (.inl (0, nK, .inl g))) a n c nC nK al cf kf sf tf g ∧ Fr (xP a) h (h.set (a + 5) (.inl (0, nK, .inl g))) := by
  obtain ⟨z1, z2, z3, z4, z5, a1, a2, a3, a4, a5, a6⟩ := H
  refine ⟨⟨z1, z2, z3, z4, z5, ?_, ?_, ?_, ?_, ?_, set_at a6⟩, Fr.set (by show a ≤ a + 5 ∧ _; omega)⟩ <;> rw [List.getElem?_set_ne (by omega)] <;> assumption
theorem TxA.pO (H : TxA h a n c nC nK al cf kf sf tf mf) : (∀ y, pV h 9 a 1 (.int (nI y)) = some (h.set a (.inr (9, texF a (nI y) (nI c) al)))) ∧ (∀ y, pV h 9 a 2 (.int (nI y)) = some (h.set a (.inr (9, texF a (nI n) (nI y) al)))) ∧ (∀ y : Int32, pV h 9 a 8 (.int y) = some (h.set a (.inr (9, texF a (nI n) (nI c) y)))) := by
  refine ⟨fun y => ?_, fun y => ?_, fun y => ?_⟩ <;> unfold pV <;> rw [ob_of H.2.2.2.2.2.1] <;> rfl
theorem Text_clear_v (H : TxA h a n c nC nK al cf kf sf tf mf) : ∃ h2, Text_clear a h = some h2 ∧ TxA h2 a 0 0 nC nK 0 cf kf sf tf mf ∧ Fr (xP a) h h2 := by
  obtain ⟨H1, F1⟩ := H.setO (n2 := 0) (c2 := c) (al2 := al) (by omega) H.2.1
  obtain ⟨H2, F2⟩ := H1.setO (n2 := 0) (c2 := 0) (al2 := al) (by omega) (by omega)
  obtain ⟨H3, F3⟩ := H2.setO (n2 := 0) (c2 := 0) (al2 := 0) (by omega) (by omega)
  refine ⟨_, ?_, H3, (F1.tr F2).tr F3⟩
  unfold Text_clear
  rw [if_pos H.o, show pV h 9 a 1 (.int (0 : Int32)) = _ from H.pO.1 0]
  simp only [Option.bind_some]
  rw [show pV _ 9 a 2 (.int (0 : Int32)) = _ from H1.pO.2.1 0]
  simp only [Option.bind_some]
  rw [H2.pO.2.2 0]
  rfl
theorem Text_add_v (H : TxA h a n c nC nK al cf kf sf tf mf) (hn : n < nC) {o g : Nat} (ho : o < 16) (hg : o + 16 * g < 2 ^ 31) : ∃ h2, Text_add a (nI o) (nI g) h = some (nI n, h2) ∧ TxA h2 a (n + 1) c nC nK al (upd cf n (nI (o + 16 * g))) kf sf tf mf ∧ Fr (xP a) h h2 := by
  have z3 := H.2.2.1
  have tn := tin (show n < 2 ^ 31 by omega)
  have tC : (Int32.ofNat nC).toInt = nC := tin (show nC < 2 ^ 31 by omega)
  obtain ⟨H1, F1⟩ := H.setC (upd cf n (nI (o + 16 * g)))
  obtain ⟨H2, F2⟩ := H1.setO (n2 := n + 1) (c2 := c) (al2 := al) (by omega) H.2.1
  refine ⟨_, ?_, H2, F1.tr F2⟩
  unfold Text_add
  rw [if_pos H.o, H.q1, H.q0]
  simp only [Option.bind_some]
  rw [aL_of H.2.2.2.2.2.2.1 (by decide)]
  simp only [Option.bind_some]
  rw [if_neg (fun z => by have := tile.mp z; omega), cw_or ho hg, sI_at H.2.2.2.2.2.2.1 hn (by omega)]
  simp only [Option.bind_some]
  rw [H1.q1]
  simp only [Option.bind_some]
  rw [nI_p1, H1.pO.1]
  simp only [Option.bind_some]
  rw [H2.q1]
  simp only [Option.bind_some]
  rw [show nI (n + 1) - (1 : Int32) = nI n from pk_sub (a := n + 1) (b := 1) (by omega)]
theorem Text_land_v (H : TxA h a n c nC nK al cf kf sf tf mf) {k o g : Nat} (hk : k < n) (ho : o < 16) (hg : o + 16 * g < 2 ^ 31) (hc : cf k = nI (o + 16 * g)) : ∃ h2, Text_land a (nI k) h = some h2 ∧ TxA h2 a n c nC nK al (upd cf k (nI (o + 16 * n))) kf sf tf mf ∧ Fr (xP a) h h2 := by
  have z1 := H.1
  have z3 := H.2.2.1
  have tn := tin (show n < 2 ^ 31 by omega)
  have tk := tin (show k < 2 ^ 31 by omega)
  obtain ⟨H1, F1⟩ := H.setC (upd cf k (nI (o + 16 * n)))
  refine ⟨_, ?_, H1, F1⟩
  unfold Text_land
  rw [if_pos H.o, if_neg (fun z => by have := tilt.mp z; rw [tk, ti0] at this; omega), H.q1, H.q0]
  simp only [Option.bind_some]
  rw [if_neg (fun z => by have := tile.mp z; omega), H.cd hk]
  simp only [Option.bind_some]
  rw [hc, cw_c ho hg, cw_or ho (by omega), sI_at H.2.2.2.2.2.2.1 (by omega) (by omega)]
  rfl
theorem Text_begin_v (H : TxA h a n c nC nK al cf kf sf tf mf) (hcn : c < nK) (kd : Int32) : ∃ h2, Text_begin a kd h = some h2 ∧ TxA h2 a n (c + 1) nC nK al cf (upd kf c kd) sf (upd tf c (-1)) (upd mf c 1) ∧ Fr (xP a) h h2 := by
  have z4 := H.2.2.2.1
  have tc := tin (show c < 2 ^ 31 by omega)
  have tK : (Int32.ofNat nK).toInt = nK := tin (show nK < 2 ^ 31 by omega)
  obtain ⟨H1, F1⟩ := H.setK (upd kf c kd)
  obtain ⟨H2, F2⟩ := H1.setT (upd tf c (-1))
  obtain ⟨H3, F3⟩ := H2.setM (upd mf c 1)
  obtain ⟨H4, F4⟩ := H3.setO (n2 := n) (c2 := c + 1) (al2 := al) H.1 (by omega)
  refine ⟨_, ?_, H4, ((F1.tr F2).tr F3).tr F4⟩
  unfold Text_begin
  rw [if_pos H.o, H.q2, H.q3]
  simp only [Option.bind_some]
  rw [aL_of H.2.2.2.2.2.2.2.1 (by decide)]
  simp only [Option.bind_some]
  rw [if_neg (fun z => by have := tile.mp z; omega), sI_at H.2.2.2.2.2.2.2.1 hcn (by omega)]
  simp only [Option.bind_some]
  rw [H1.q5, H1.q2]
  simp only [Option.bind_some]
  rw [sI_at H1.2.2.2.2.2.2.2.2.2.1 hcn (by omega)]
  simp only [Option.bind_some]
  rw [H2.q6, H2.q2]
  simp only [Option.bind_some]
  rw [sI_at H2.2.2.2.2.2.2.2.2.2.2 hcn (by omega)]
  simp only [Option.bind_some]
  rw [H3.q2]
  simp only [Option.bind_some]
  rw [nI_p1, H3.pO.2.1]
  rfl
theorem Text_setSum_v (H : TxA h a n (c + 1) nC nK al cf kf sf tf mf) {i : Nat} (hi : i < 3) : ∃ h2, Text_setSum a (nI i) h = some h2 ∧ TxA h2 a n (c + 1) nC nK al cf kf (upd sf (c * 3 + i) (nI n)) tf mf ∧ Fr (xP a) h h2 := by
  have z2 := H.2.1
  have z4 := H.2.2.2.1
  have tc := tin (show c + 1 < 2 ^ 31 by omega)
  have tI := tin (show i < 2 ^ 31 by omega)
  have t3 : (3 : Int32).toInt = 3 := by decide
  obtain ⟨H1, F1⟩ := H.setS (upd sf (c * 3 + i) (nI n))
  refine ⟨_, ?_, H1, F1⟩
  unfold Text_setSum
  rw [if_pos H.o, H.q2, H.q4, H.q1]
  simp only [Option.bind_some]
  rw [if_neg (fun z => by have := tile.mp z; rw [tc, ti0] at this; omega), if_neg (fun z => by have := tilt.mp z; rw [tI, ti0] at this; omega), if_neg (fun z => by have := tile.mp z; omega), show nI (c + 1) - (1 : Int32) = nI c from pk_sub (a := c + 1) (b := 1) (by omega), nI_3, nI_add, sI_at H.2.2.2.2.2.2.2.2.1 (by omega) (by omega)]
  rfl
theorem Text_setTest_v (H : TxA h a n (c + 1) nC nK al cf kf sf tf mf) : ∃ h2, Text_setTest a h = some h2 ∧ TxA h2 a n (c + 1) nC nK al cf kf sf (upd tf c (nI n)) mf ∧ Fr (xP a) h h2 := by
  have z2 := H.2.1
  have z4 := H.2.2.2.1
  have tc := tin (show c + 1 < 2 ^ 31 by omega)
  obtain ⟨H1, F1⟩ := H.setT (upd tf c (nI n))
  refine ⟨_, ?_, H1, F1⟩
  unfold Text_setTest
  rw [if_pos H.o, H.q2, H.q5, H.q1]
  simp only [Option.bind_some]
  rw [if_neg (fun z => by have := tile.mp z; rw [tc, ti0] at this; omega), show nI (c + 1) - (1 : Int32) = nI c from pk_sub (a := c + 1) (b := 1) (by omega), sI_at H.2.2.2.2.2.2.2.2.2.1 (by omega) (by omega)]
  rfl
theorem Text_setTimes_v (H : TxA h a n (c + 1) nC nK al cf kf sf tf mf) (x : Int32) : ∃ h2, Text_setTimes a x h = some h2 ∧ TxA h2 a n (c + 1) nC nK al cf kf sf tf (upd mf c x) ∧ Fr (xP a) h h2 := by
  have z2 := H.2.1
  have z4 := H.2.2.2.1
  have tc := tin (show c + 1 < 2 ^ 31 by omega)
  obtain ⟨H1, F1⟩ := H.setM (upd mf c x)
  refine ⟨_, ?_, H1, F1⟩
  unfold Text_setTimes
  rw [if_pos H.o, H.q2, H.q6]
  simp only [Option.bind_some]
  rw [if_neg (fun z => by have := tile.mp z; rw [tc, ti0] at this; omega), show nI (c + 1) - (1 : Int32) = nI c from pk_sub (a := c + 1) (b := 1) (by omega), sI_at H.2.2.2.2.2.2.2.2.2.2 (by omega) (by omega)]
  rfl
end TextW
