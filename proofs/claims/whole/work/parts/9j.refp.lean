/-! PURE: the reference's object read and written; its codes against the class's words -/
section MoP
variable {b : Nat} {h : am_H} {σ : am_S}
theorem Mo.i0 (H : Mo b h σ) : gI h 12 b 0 = some (σ.1 0) := by unfold gI; rw [ob_of H.1]; rfl
theorem Mo.w0 (H : Mo b h σ) (x : Int32) : ∃ h2, pV h 12 b 0 (.int x) = some h2 ∧ Mo b h2 (upd σ.1 0 x, σ.2) ∧ Same b h h2 := ⟨_, by unfold pV; rw [ob_of H.1]; rfl, H.sc (ms0 b σ.1 x), Same.rf.set (Nat.le_refl _) (by omega)⟩
theorem Mo.r1 (H : Mo b h σ) : gR h 12 b 1 = some (b + 1 + 0) := by unfold gR; rw [ob_of H.1]; rfl
theorem Mo.r2 (H : Mo b h σ) : gR h 12 b 2 = some (b + 1 + 1) := by unfold gR; rw [ob_of H.1]; rfl
theorem Mo.r3 (H : Mo b h σ) : gR h 12 b 3 = some (b + 1 + 2) := by unfold gR; rw [ob_of H.1]; rfl
theorem Mo.r4 (H : Mo b h σ) : gR h 12 b 4 = some (b + 1 + 3) := by unfold gR; rw [ob_of H.1]; rfl
theorem Mo.r5 (H : Mo b h σ) : gR h 12 b 5 = some (b + 1 + 4) := by unfold gR; rw [ob_of H.1]; rfl
theorem Mo.r6 (H : Mo b h σ) : gR h 12 b 6 = some (b + 1 + 5) := by unfold gR; rw [ob_of H.1]; rfl
theorem Mo.i7 (H : Mo b h σ) : gI h 12 b 7 = some (σ.1 7) := by unfold gI; rw [ob_of H.1]; rfl
theorem Mo.w7 (H : Mo b h σ) (x : Int32) : ∃ h2, pV h 12 b 7 (.int x) = some h2 ∧ Mo b h2 (upd σ.1 7 x, σ.2) ∧ Same b h h2 := ⟨_, by unfold pV; rw [ob_of H.1]; rfl, H.sc (ms7 b σ.1 x), Same.rf.set (Nat.le_refl _) (by omega)⟩
theorem Mo.i8 (H : Mo b h σ) : gI h 12 b 8 = some (σ.1 8) := by unfold gI; rw [ob_of H.1]; rfl
theorem Mo.w8 (H : Mo b h σ) (x : Int32) : ∃ h2, pV h 12 b 8 (.int x) = some h2 ∧ Mo b h2 (upd σ.1 8 x, σ.2) ∧ Same b h h2 := ⟨_, by unfold pV; rw [ob_of H.1]; rfl, H.sc (ms8 b σ.1 x), Same.rf.set (Nat.le_refl _) (by omega)⟩
theorem Mo.i9 (H : Mo b h σ) : gI h 12 b 9 = some (σ.1 9) := by unfold gI; rw [ob_of H.1]; rfl
theorem Mo.w9 (H : Mo b h σ) (x : Int32) : ∃ h2, pV h 12 b 9 (.int x) = some h2 ∧ Mo b h2 (upd σ.1 9 x, σ.2) ∧ Same b h h2 := ⟨_, by unfold pV; rw [ob_of H.1]; rfl, H.sc (ms9 b σ.1 x), Same.rf.set (Nat.le_refl _) (by omega)⟩
theorem Mo.r10 (H : Mo b h σ) : gR h 12 b 10 = some (b + 1 + 6) := by unfold gR; rw [ob_of H.1]; rfl
theorem Mo.r11 (H : Mo b h σ) : gR h 12 b 11 = some (b + 1 + 7) := by unfold gR; rw [ob_of H.1]; rfl
theorem Mo.i12 (H : Mo b h σ) : gI h 12 b 12 = some (σ.1 12) := by unfold gI; rw [ob_of H.1]; rfl
theorem Mo.w12 (H : Mo b h σ) (x : Int32) : ∃ h2, pV h 12 b 12 (.int x) = some h2 ∧ Mo b h2 (upd σ.1 12 x, σ.2) ∧ Same b h h2 := ⟨_, by unfold pV; rw [ob_of H.1]; rfl, H.sc (ms12 b σ.1 x), Same.rf.set (Nat.le_refl _) (by omega)⟩
theorem Mo.i13 (H : Mo b h σ) : gI h 12 b 13 = some (σ.1 13) := by unfold gI; rw [ob_of H.1]; rfl
theorem Mo.w13 (H : Mo b h σ) (x : Int32) : ∃ h2, pV h 12 b 13 (.int x) = some h2 ∧ Mo b h2 (upd σ.1 13 x, σ.2) ∧ Same b h h2 := ⟨_, by unfold pV; rw [ob_of H.1]; rfl, H.sc (ms13 b σ.1 x), Same.rf.set (Nat.le_refl _) (by omega)⟩
theorem Mo.r14 (H : Mo b h σ) : gR h 12 b 14 = some (b + 1 + 8) := by unfold gR; rw [ob_of H.1]; rfl
theorem Mo.r15 (H : Mo b h σ) : gR h 12 b 15 = some (b + 1 + 9) := by unfold gR; rw [ob_of H.1]; rfl
theorem Mo.r16 (H : Mo b h σ) : gR h 12 b 16 = some (b + 1 + 10) := by unfold gR; rw [ob_of H.1]; rfl
theorem Mo.i17 (H : Mo b h σ) : gI h 12 b 17 = some (σ.1 17) := by unfold gI; rw [ob_of H.1]; rfl
theorem Mo.w17 (H : Mo b h σ) (x : Int32) : ∃ h2, pV h 12 b 17 (.int x) = some h2 ∧ Mo b h2 (upd σ.1 17 x, σ.2) ∧ Same b h h2 := ⟨_, by unfold pV; rw [ob_of H.1]; rfl, H.sc (ms17 b σ.1 x), Same.rf.set (Nat.le_refl _) (by omega)⟩
theorem Mo.i18 (H : Mo b h σ) : gI h 12 b 18 = some (σ.1 18) := by unfold gI; rw [ob_of H.1]; rfl
theorem Mo.w18 (H : Mo b h σ) (x : Int32) : ∃ h2, pV h 12 b 18 (.int x) = some h2 ∧ Mo b h2 (upd σ.1 18 x, σ.2) ∧ Same b h h2 := ⟨_, by unfold pV; rw [ob_of H.1]; rfl, H.sc (ms18 b σ.1 x), Same.rf.set (Nat.le_refl _) (by omega)⟩
theorem Mo.i19 (H : Mo b h σ) : gI h 12 b 19 = some (σ.1 19) := by unfold gI; rw [ob_of H.1]; rfl
theorem Mo.w19 (H : Mo b h σ) (x : Int32) : ∃ h2, pV h 12 b 19 (.int x) = some h2 ∧ Mo b h2 (upd σ.1 19 x, σ.2) ∧ Same b h h2 := ⟨_, by unfold pV; rw [ob_of H.1]; rfl, H.sc (ms19 b σ.1 x), Same.rf.set (Nat.le_refl _) (by omega)⟩
theorem Mo.i20 (H : Mo b h σ) : gI h 12 b 20 = some (σ.1 20) := by unfold gI; rw [ob_of H.1]; rfl
theorem Mo.w20 (H : Mo b h σ) (x : Int32) : ∃ h2, pV h 12 b 20 (.int x) = some h2 ∧ Mo b h2 (upd σ.1 20 x, σ.2) ∧ Same b h h2 := ⟨_, by unfold pV; rw [ob_of H.1]; rfl, H.sc (ms20 b σ.1 x), Same.rf.set (Nat.le_refl _) (by omega)⟩
theorem Mo.i21 (H : Mo b h σ) : gI h 12 b 21 = some (σ.1 21) := by unfold gI; rw [ob_of H.1]; rfl
theorem Mo.w21 (H : Mo b h σ) (x : Int32) : ∃ h2, pV h 12 b 21 (.int x) = some h2 ∧ Mo b h2 (upd σ.1 21 x, σ.2) ∧ Same b h h2 := ⟨_, by unfold pV; rw [ob_of H.1]; rfl, H.sc (ms21 b σ.1 x), Same.rf.set (Nat.le_refl _) (by omega)⟩
theorem Mo.i22 (H : Mo b h σ) : gI h 12 b 22 = some (σ.1 22) := by unfold gI; rw [ob_of H.1]; rfl
theorem Mo.w22 (H : Mo b h σ) (x : Int32) : ∃ h2, pV h 12 b 22 (.int x) = some h2 ∧ Mo b h2 (upd σ.1 22 x, σ.2) ∧ Same b h h2 := ⟨_, by unfold pV; rw [ob_of H.1]; rfl, H.sc (ms22 b σ.1 x), Same.rf.set (Nat.le_refl _) (by omega)⟩
theorem Mo.i23 (H : Mo b h σ) : gI h 12 b 23 = some (σ.1 23) := by unfold gI; rw [ob_of H.1]; rfl
theorem Mo.w23 (H : Mo b h σ) (x : Int32) : ∃ h2, pV h 12 b 23 (.int x) = some h2 ∧ Mo b h2 (upd σ.1 23 x, σ.2) ∧ Same b h h2 := ⟨_, by unfold pV; rw [ob_of H.1]; rfl, H.sc (ms23 b σ.1 x), Same.rf.set (Nat.le_refl _) (by omega)⟩
theorem Mo.i24 (H : Mo b h σ) : gI h 12 b 24 = some (σ.1 24) := by unfold gI; rw [ob_of H.1]; rfl
theorem Mo.w24 (H : Mo b h σ) (x : Int32) : ∃ h2, pV h 12 b 24 (.int x) = some h2 ∧ Mo b h2 (upd σ.1 24 x, σ.2) ∧ Same b h h2 := ⟨_, by unfold pV; rw [ob_of H.1]; rfl, H.sc (ms24 b σ.1 x), Same.rf.set (Nat.le_refl _) (by omega)⟩
theorem Mo.i25 (H : Mo b h σ) : gI h 12 b 25 = some (σ.1 25) := by unfold gI; rw [ob_of H.1]; rfl
theorem Mo.w25 (H : Mo b h σ) (x : Int32) : ∃ h2, pV h 12 b 25 (.int x) = some h2 ∧ Mo b h2 (upd σ.1 25 x, σ.2) ∧ Same b h h2 := ⟨_, by unfold pV; rw [ob_of H.1]; rfl, H.sc (ms25 b σ.1 x), Same.rf.set (Nat.le_refl _) (by omega)⟩
theorem Mo.i26 (H : Mo b h σ) : gI h 12 b 26 = some (σ.1 26) := by unfold gI; rw [ob_of H.1]; rfl
theorem Mo.w26 (H : Mo b h σ) (x : Int32) : ∃ h2, pV h 12 b 26 (.int x) = some h2 ∧ Mo b h2 (upd σ.1 26 x, σ.2) ∧ Same b h h2 := ⟨_, by unfold pV; rw [ob_of H.1]; rfl, H.sc (ms26 b σ.1 x), Same.rf.set (Nat.le_refl _) (by omega)⟩
theorem Mo.r27 (H : Mo b h σ) : gR h 12 b 27 = some (b + 1 + 11) := by unfold gR; rw [ob_of H.1]; rfl
theorem Mo.r28 (H : Mo b h σ) : gR h 12 b 28 = some (b + 1 + 12) := by unfold gR; rw [ob_of H.1]; rfl
theorem Mo.r29 (H : Mo b h σ) : gR h 12 b 29 = some (b + 1 + 13) := by unfold gR; rw [ob_of H.1]; rfl
theorem Mo.r30 (H : Mo b h σ) : gR h 12 b 30 = some (b + 1 + 14) := by unfold gR; rw [ob_of H.1]; rfl
theorem Mo.i31 (H : Mo b h σ) : gI h 12 b 31 = some (σ.1 31) := by unfold gI; rw [ob_of H.1]; rfl
theorem Mo.w31 (H : Mo b h σ) (x : Int32) : ∃ h2, pV h 12 b 31 (.int x) = some h2 ∧ Mo b h2 (upd σ.1 31 x, σ.2) ∧ Same b h h2 := ⟨_, by unfold pV; rw [ob_of H.1]; rfl, H.sc (ms31 b σ.1 x), Same.rf.set (Nat.le_refl _) (by omega)⟩
theorem Mo.i32 (H : Mo b h σ) : gI h 12 b 32 = some (σ.1 32) := by unfold gI; rw [ob_of H.1]; rfl
theorem Mo.w32 (H : Mo b h σ) (x : Int32) : ∃ h2, pV h 12 b 32 (.int x) = some h2 ∧ Mo b h2 (upd σ.1 32 x, σ.2) ∧ Same b h h2 := ⟨_, by unfold pV; rw [ob_of H.1]; rfl, H.sc (ms32 b σ.1 x), Same.rf.set (Nat.le_refl _) (by omega)⟩
theorem Mo.i33 (H : Mo b h σ) : gI h 12 b 33 = some (σ.1 33) := by unfold gI; rw [ob_of H.1]; rfl
theorem Mo.w33 (H : Mo b h σ) (x : Int32) : ∃ h2, pV h 12 b 33 (.int x) = some h2 ∧ Mo b h2 (upd σ.1 33 x, σ.2) ∧ Same b h h2 := ⟨_, by unfold pV; rw [ob_of H.1]; rfl, H.sc (ms33 b σ.1 x), Same.rf.set (Nat.le_refl _) (by omega)⟩
theorem Mo.r34 (H : Mo b h σ) : gR h 12 b 34 = some (b + 1 + 15) := by unfold gR; rw [ob_of H.1]; rfl
theorem Mo.i35 (H : Mo b h σ) : gI h 12 b 35 = some (σ.1 35) := by unfold gI; rw [ob_of H.1]; rfl
theorem Mo.w35 (H : Mo b h σ) (x : Int32) : ∃ h2, pV h 12 b 35 (.int x) = some h2 ∧ Mo b h2 (upd σ.1 35 x, σ.2) ∧ Same b h h2 := ⟨_, by unfold pV; rw [ob_of H.1]; rfl, H.sc (ms35 b σ.1 x), Same.rf.set (Nat.le_refl _) (by omega)⟩
theorem Mo.i36 (H : Mo b h σ) : gI h 12 b 36 = some (σ.1 36) := by unfold gI; rw [ob_of H.1]; rfl
theorem Mo.w36 (H : Mo b h σ) (x : Int32) : ∃ h2, pV h 12 b 36 (.int x) = some h2 ∧ Mo b h2 (upd σ.1 36 x, σ.2) ∧ Same b h h2 := ⟨_, by unfold pV; rw [ob_of H.1]; rfl, H.sc (ms36 b σ.1 x), Same.rf.set (Nat.le_refl _) (by omega)⟩
theorem Mo.r37 (H : Mo b h σ) : gR h 12 b 37 = some (b + 1 + 16) := by unfold gR; rw [ob_of H.1]; rfl
theorem Mo.r38 (H : Mo b h σ) : gR h 12 b 38 = some (b + 1 + 17) := by unfold gR; rw [ob_of H.1]; rfl
theorem Mo.i39 (H : Mo b h σ) : gI h 12 b 39 = some (σ.1 39) := by unfold gI; rw [ob_of H.1]; rfl
theorem Mo.w39 (H : Mo b h σ) (x : Int32) : ∃ h2, pV h 12 b 39 (.int x) = some h2 ∧ Mo b h2 (upd σ.1 39 x, σ.2) ∧ Same b h h2 := ⟨_, by unfold pV; rw [ob_of H.1]; rfl, H.sc (ms39 b σ.1 x), Same.rf.set (Nat.le_refl _) (by omega)⟩
theorem Mo.r40 (H : Mo b h σ) : gR h 12 b 40 = some (b + 1 + 18) := by unfold gR; rw [ob_of H.1]; rfl
theorem Mo.i41 (H : Mo b h σ) : gI h 12 b 41 = some (σ.1 41) := by unfold gI; rw [ob_of H.1]; rfl
theorem Mo.w41 (H : Mo b h σ) (x : Int32) : ∃ h2, pV h 12 b 41 (.int x) = some h2 ∧ Mo b h2 (upd σ.1 41 x, σ.2) ∧ Same b h h2 := ⟨_, by unfold pV; rw [ob_of H.1]; rfl, H.sc (ms41 b σ.1 x), Same.rf.set (Nat.le_refl _) (by omega)⟩
theorem Mo.r42 (H : Mo b h σ) : gR h 12 b 42 = some (b + 1 + 19) := by unfold gR; rw [ob_of H.1]; rfl
theorem Mo.i43 (H : Mo b h σ) : gI h 12 b 43 = some (σ.1 43) := by unfold gI; rw [ob_of H.1]; rfl
theorem Mo.w43 (H : Mo b h σ) (x : Int32) : ∃ h2, pV h 12 b 43 (.int x) = some h2 ∧ Mo b h2 (upd σ.1 43 x, σ.2) ∧ Same b h h2 := ⟨_, by unfold pV; rw [ob_of H.1]; rfl, H.sc (ms43 b σ.1 x), Same.rf.set (Nat.le_refl _) (by omega)⟩
theorem Mo.i44 (H : Mo b h σ) : gI h 12 b 44 = some (σ.1 44) := by unfold gI; rw [ob_of H.1]; rfl
theorem Mo.w44 (H : Mo b h σ) (x : Int32) : ∃ h2, pV h 12 b 44 (.int x) = some h2 ∧ Mo b h2 (upd σ.1 44 x, σ.2) ∧ Same b h h2 := ⟨_, by unfold pV; rw [ob_of H.1]; rfl, H.sc (ms44 b σ.1 x), Same.rf.set (Nat.le_refl _) (by omega)⟩
theorem Mo.r45 (H : Mo b h σ) : gR h 12 b 45 = some (b + 1 + 20) := by unfold gR; rw [ob_of H.1]; rfl
theorem Mo.i46 (H : Mo b h σ) : gI h 12 b 46 = some (σ.1 46) := by unfold gI; rw [ob_of H.1]; rfl
theorem Mo.w46 (H : Mo b h σ) (x : Int32) : ∃ h2, pV h 12 b 46 (.int x) = some h2 ∧ Mo b h2 (upd σ.1 46 x, σ.2) ∧ Same b h h2 := ⟨_, by unfold pV; rw [ob_of H.1]; rfl, H.sc (ms46 b σ.1 x), Same.rf.set (Nat.le_refl _) (by omega)⟩
theorem Mo.i47 (H : Mo b h σ) : gI h 12 b 47 = some (σ.1 47) := by unfold gI; rw [ob_of H.1]; rfl
theorem Mo.w47 (H : Mo b h σ) (x : Int32) : ∃ h2, pV h 12 b 47 (.int x) = some h2 ∧ Mo b h2 (upd σ.1 47 x, σ.2) ∧ Same b h h2 := ⟨_, by unfold pV; rw [ob_of H.1]; rfl, H.sc (ms47 b σ.1 x), Same.rf.set (Nat.le_refl _) (by omega)⟩
theorem Mo.i48 (H : Mo b h σ) : gI h 12 b 48 = some (σ.1 48) := by unfold gI; rw [ob_of H.1]; rfl
theorem Mo.w48 (H : Mo b h σ) (x : Int32) : ∃ h2, pV h 12 b 48 (.int x) = some h2 ∧ Mo b h2 (upd σ.1 48 x, σ.2) ∧ Same b h h2 := ⟨_, by unfold pV; rw [ob_of H.1]; rfl, H.sc (ms48 b σ.1 x), Same.rf.set (Nat.le_refl _) (by omega)⟩
theorem Mo.i49 (H : Mo b h σ) : gI h 12 b 49 = some (σ.1 49) := by unfold gI; rw [ob_of H.1]; rfl
theorem Mo.w49 (H : Mo b h σ) (x : Int32) : ∃ h2, pV h 12 b 49 (.int x) = some h2 ∧ Mo b h2 (upd σ.1 49 x, σ.2) ∧ Same b h h2 := ⟨_, by unfold pV; rw [ob_of H.1]; rfl, H.sc (ms49 b σ.1 x), Same.rf.set (Nat.le_refl _) (by omega)⟩
theorem Mo.i50 (H : Mo b h σ) : gI h 12 b 50 = some (σ.1 50) := by unfold gI; rw [ob_of H.1]; rfl
theorem Mo.w50 (H : Mo b h σ) (x : Int32) : ∃ h2, pV h 12 b 50 (.int x) = some h2 ∧ Mo b h2 (upd σ.1 50 x, σ.2) ∧ Same b h h2 := ⟨_, by unfold pV; rw [ob_of H.1]; rfl, H.sc (ms50 b σ.1 x), Same.rf.set (Nat.le_refl _) (by omega)⟩
theorem Mo.i51 (H : Mo b h σ) : gI h 12 b 51 = some (σ.1 51) := by unfold gI; rw [ob_of H.1]; rfl
theorem Mo.w51 (H : Mo b h σ) (x : Int32) : ∃ h2, pV h 12 b 51 (.int x) = some h2 ∧ Mo b h2 (upd σ.1 51 x, σ.2) ∧ Same b h h2 := ⟨_, by unfold pV; rw [ob_of H.1]; rfl, H.sc (ms51 b σ.1 x), Same.rf.set (Nat.le_refl _) (by omega)⟩
theorem Mo.r52 (H : Mo b h σ) : gR h 12 b 52 = some (b + 1 + 21) := by unfold gR; rw [ob_of H.1]; rfl
theorem Mo.r53 (H : Mo b h σ) : gR h 12 b 53 = some (b + 1 + 22) := by unfold gR; rw [ob_of H.1]; rfl
theorem Mo.i54 (H : Mo b h σ) : gI h 12 b 54 = some (σ.1 54) := by unfold gI; rw [ob_of H.1]; rfl
theorem Mo.w54 (H : Mo b h σ) (x : Int32) : ∃ h2, pV h 12 b 54 (.int x) = some h2 ∧ Mo b h2 (upd σ.1 54 x, σ.2) ∧ Same b h h2 := ⟨_, by unfold pV; rw [ob_of H.1]; rfl, H.sc (ms54 b σ.1 x), Same.rf.set (Nat.le_refl _) (by omega)⟩
theorem Mo.i55 (H : Mo b h σ) : gI h 12 b 55 = some (σ.1 55) := by unfold gI; rw [ob_of H.1]; rfl
theorem Mo.w55 (H : Mo b h σ) (x : Int32) : ∃ h2, pV h 12 b 55 (.int x) = some h2 ∧ Mo b h2 (upd σ.1 55 x, σ.2) ∧ Same b h h2 := ⟨_, by unfold pV; rw [ob_of H.1]; rfl, H.sc (ms55 b σ.1 x), Same.rf.set (Nat.le_refl _) (by omega)⟩
theorem Mo.i56 (H : Mo b h σ) : gI h 12 b 56 = some (σ.1 56) := by unfold gI; rw [ob_of H.1]; rfl
theorem Mo.w56 (H : Mo b h σ) (x : Int32) : ∃ h2, pV h 12 b 56 (.int x) = some h2 ∧ Mo b h2 (upd σ.1 56 x, σ.2) ∧ Same b h h2 := ⟨_, by unfold pV; rw [ob_of H.1]; rfl, H.sc (ms56 b σ.1 x), Same.rf.set (Nat.le_refl _) (by omega)⟩
theorem Mo.i57 (H : Mo b h σ) : gI h 12 b 57 = some (σ.1 57) := by unfold gI; rw [ob_of H.1]; rfl
theorem Mo.w57 (H : Mo b h σ) (x : Int32) : ∃ h2, pV h 12 b 57 (.int x) = some h2 ∧ Mo b h2 (upd σ.1 57 x, σ.2) ∧ Same b h h2 := ⟨_, by unfold pV; rw [ob_of H.1]; rfl, H.sc (ms57 b σ.1 x), Same.rf.set (Nat.le_refl _) (by omega)⟩
theorem Mo.o (H : Mo b h σ) : isO h 12 b = true := isO_of H.1
theorem mlen_b : ∀ k, k < 23 → mlen k < 2 ^ 31 := by decide
theorem Mo.rd (H : Mo b h σ) {r i : Nat} (hr : r < 23) (h21 : r ≠ 21) (hi : i < mlen r) : aI h (mty r) (b + 1 + r) (nI i) = some (σ.2.1 r i) := aI_at (H.2.1 r hr h21) hi (mlen_b r hr)
theorem Mo.wr (H : Mo b h σ) {r i : Nat} (hr : r < 23) (h21 : r ≠ 21) (h0 : mty r = 0) (hi : i < mlen r) (x : Int32) : ∃ h2, sI h (b + 1 + r) (nI i) x = some h2 ∧ Mo b h2 (σ.1, u2 σ.2.1 r i x, σ.2.2) ∧ Same b h h2 := by
  have a := H.2.1 r hr h21
  have m1 := H.ar (i := i) (x := x) hr h21
  rw [h0] at a m1
  exact ⟨_, sI_at a hi (mlen_b r hr) x, m1, Same.rf.set (by omega) (by omega)⟩
theorem Mo.ln (H : Mo b h σ) {r : Nat} (hr : r < 23) (h21 : r ≠ 21) : aL h (b + 1 + r) = some (nI (mlen r)) := by
  have h7 : ∀ k, k < 23 → mty k < 7 := by decide
  exact aL_of (H.2.1 r hr h21) (by have := h7 r hr; omega)
end MoP
def pmw (w k : Nat) : Nat := (([[20, 21, 24], [16, 17, 18, 14, 19, 15], [14, 8, 9, 10, 15, 11, 12, 13], [22], [23], [25], [4], [7], [6], [5], [1, 2, 3]] : List (List Nat)).getD w []).getD k 0
theorem wd_lk : ∀ w, w < 11 → ∀ k, k < (wdc w).length → fdw wds ((wdc w).getD k []) 1 = some (pmw w k) ∧ fdw (wdc w) (wds.getD (pmw w k - 1) []) 0 = some k ∧ 1 ≤ pmw w k ∧ pmw w k ≤ 25 := by decide +kernel
/-- the number at y as the reference reads it -/
def rbv (f : Nat → Int32) : Nat → Nat → Nat → Nat
  | 0, _, a => a
  | k + 1, i, a => rbv f k (i + 1) (if 1000000 < a then a else 10 * a + (f i).toInt.toNat - 48)
def vlN (f : Nat → Int32) (t y : Nat) : Nat := if tkd f t y = 2 then rbv f (tnx f t y - y) y 0 else 0
/-- the places of the tokens -/
def plc (f : Nat → Int32) (t : Nat) : Nat → Nat
  | 0 => skw f t 0
  | k + 1 => skw f t (tnx f t (plc f t k))
section Codes
variable {f : Nat → Int32} {t : Nat} {s : PSt}
theorem cdN_w {y : Nat} : (tkd f t y = 1 → cdN f t y ≤ 25) ∧ (¬ tkd f t y = 1 → cdN f t y = 0 ∨ cdN f t y = 50 ∨ 100 ≤ cdN f t y) := by
  unfold cdN
  constructor
  · intro h
    rw [if_pos h]
    cases hf : fdw wds (tsl f t y) 1 with
    | none => exact Nat.zero_le _
    | some k =>
      have := (fdw_b _ _ _ _ hf).2.1
      have hl : wds.length = 25 := by decide
      show k ≤ 25
      omega
  · intro h
    rw [if_neg h]
    by_cases q : tkd f t y = 2
    · rw [if_pos q]; omega
    · rw [if_neg q]
      by_cases q3 : tkd f t y = 3
      · rw [if_pos q3]; omega
      · rw [if_neg q3]; omega
theorem amg_iff (hs : s.1 ≤ t) {w k : Nat} (hw : w < 11) (hk : k < (wdc w).length) : amg f t w s = nI k ↔ cdN f t s.1 = pmw w k := by
  obtain ⟨l1, l2, l3, l4⟩ := wd_lk w hw k hk
  have hl : (wdc w).length < 12 := by
    have : ∀ w, w < 11 → (wdc w).length < 12 := by decide
    exact this w hw
  by_cases q : tkd f t s.1 = 1
  · rw [amg_f hw hs q]
    unfold cdN
    rw [if_pos q]
    constructor
    · intro z
      cases hf : fdw (wdc w) (tsl f t s.1) 0 with
      | none =>
        rw [hf] at z
        have z := congrArg Int32.toInt z
        rw [show (oI none : Int32).toInt = -1 from rfl, tin (show k < 2 ^ 31 by omega)] at z
        omega
      | some j =>
        obtain ⟨_, b2, b3⟩ := fdw_b _ _ _ _ hf
        rw [hf] at z
        have z : j = k := (nI_eq (by omega) (by omega)).mp z
        subst z
        rw [b3, Nat.sub_zero, l1]
        rfl
    · intro z
      cases hf : fdw wds (tsl f t s.1) 1 with
      | none =>
        rw [hf] at z
        have z : 0 = pmw w k := z
        omega
      | some j =>
        obtain ⟨_, b2, b3⟩ := fdw_b _ _ _ _ hf
        rw [hf] at z
        have z : j = pmw w k := z
        rw [b3, z, l2]
        rfl
  · have c := (cdN_w (f := f) (t := t) (y := s.1)).2 q
    unfold amg
    rw [if_neg q]
    constructor
    · intro z
      have z := congrArg Int32.toInt z
      rw [tim1, tin (show k < 2 ^ 31 by omega)] at z
      omega
    · intro z; omega
theorem amg_no (hs : s.1 ≤ t) {w : Nat} (hw : w < 11) : amg f t w s = -1 ↔ ∀ k, k < (wdc w).length → ¬ cdN f t s.1 = pmw w k := by
  have hl : (wdc w).length < 12 := by
    have : ∀ w, w < 11 → (wdc w).length < 12 := by decide
    exact this w hw
  constructor
  · intro z k hk c
    have e := (amg_iff hs hw hk).mpr c
    rw [z] at e
    have e := congrArg Int32.toInt e
    rw [tim1, tin (show k < 2 ^ 31 by omega)] at e
    omega
  · intro z
    by_cases q : tkd f t s.1 = 1
    · rw [amg_f hw hs q]
      cases hf : fdw (wdc w) (tsl f t s.1) 0 with
      | none => rfl
      | some j =>
        obtain ⟨_, b2, b3⟩ := fdw_b _ _ _ _ hf
        have e : amg f t w s = nI j := by rw [amg_f hw hs q, hf]; rfl
        exact absurd ((amg_iff hs hw (by omega)).mp e) (z j (by omega))
    · exact if_neg q
theorem wdp_iff (hs : s.1 ≤ t) {w : Nat} (hw : w < 11) (h1 : (wdc w).length = 1) : wdp f t w s ↔ cdN f t s.1 = pmw w 0 := by
  rw [← amg_iff hs hw (by omega)]
  unfold wdp amg
  constructor
  · rintro ⟨a, c⟩
    rw [if_pos a]; exact c
  · intro z
    by_cases q : tkd f t s.1 = 1
    · rw [if_pos q] at z; exact ⟨q, z⟩
    · rw [if_neg q] at z; exact absurd z (by decide)
theorem sgp_iff (hb : ∀ i, i < t → -128 ≤ (f i).toInt ∧ (f i).toInt < 128) {c : Int32} {k : Nat} (hc : c.toInt = k) (hk : k < 128) (hk0 : ¬ tkd f t s.1 = 3 → True) : sgp f t c s ↔ tkd f t s.1 = 3 ∧ cdN f t s.1 = 100 + k := by
  unfold sgp
  refine and_congr_right (fun q => ?_)
  have hy : s.1 < t := tkd_y (f := f) (by omega)
  obtain ⟨b1, b2⟩ := hb _ hy
  unfold cdN
  rw [if_neg (by omega), if_neg (by omega), if_pos q]
  constructor
  · intro z; rw [z, hc]; omega
  · intro z
    apply Int32.toInt_inj.mp
    omega
theorem sgp_c (hb : ∀ i, i < t → -128 ≤ (f i).toInt ∧ (f i).toInt < 128) {c : Int32} {k : Nat} (hc : c.toInt = k) (hk : k < 128) : sgp f t c s ↔ cdN f t s.1 = 100 + k := by
  rw [sgp_iff hb hc hk (fun _ => trivial)]
  refine ⟨fun z => z.2, fun z => ⟨?_, z⟩⟩
  have c1 := (cdN_w (f := f) (t := t) (y := s.1)).1
  unfold cdN at z c1
  by_cases q1 : tkd f t s.1 = 1
  · have := c1 q1; omega
  · rw [if_neg q1] at z
    by_cases q2 : tkd f t s.1 = 2
    · rw [if_pos q2] at z; omega
    · rw [if_neg q2] at z
      by_cases q3 : tkd f t s.1 = 3
      · exact q3
      · rw [if_neg q3] at z; omega
theorem cdN_2 {y : Nat} : tkd f t y = 2 ↔ cdN f t y = 50 := by
  have c1 := (cdN_w (f := f) (t := t) (y := y)).1
  unfold cdN at c1 ⊢
  by_cases q1 : tkd f t y = 1
  · have := c1 q1
    refine ⟨fun z => by omega, fun z => by omega⟩
  · rw [if_neg q1]
    by_cases q2 : tkd f t y = 2
    · rw [if_pos q2]; exact ⟨fun _ => rfl, fun _ => q2⟩
    · rw [if_neg q2]
      refine ⟨fun z => absurd z q2, fun z => ?_⟩
      by_cases q3 : tkd f t y = 3
      · rw [if_pos q3] at z; omega
      · rw [if_neg q3] at z; omega
theorem cdN_b {y : Nat} : cdN f t y < 400 := by
  have c1 := (cdN_w (f := f) (t := t) (y := y)).1
  unfold cdN at c1 ⊢
  by_cases q1 : tkd f t y = 1
  · have := c1 q1; omega
  · rw [if_neg q1]
    by_cases q2 : tkd f t y = 2
    · rw [if_pos q2]; omega
    · rw [if_neg q2]
      by_cases q3 : tkd f t y = 3
      · rw [if_pos q3]; omega
      · rw [if_neg q3]; omega
theorem cdN_t {y : Nat} (h : t ≤ y) : cdN f t y = 0 := by
  have e : tkd f t y = 4 := if_pos h
  unfold cdN
  rw [if_neg (by omega), if_neg (by omega), if_neg (by omega)]
theorem nb_rb : ∀ (k i a : Nat), nbv f k i (min a 1001) = min (rbv f k i a) 1001
  | 0, _, _ => rfl
  | k + 1, i, a => by
    show nbv f k (i + 1) (min (min a 1001 * 10 + (f i).toInt.toNat - 48) 1001) = min (rbv f k (i + 1) (if 1000000 < a then a else 10 * a + (f i).toInt.toNat - 48)) 1001
    rw [← nb_rb k (i + 1)]
    congr 1
    by_cases q : 1000000 < a
    · rw [if_pos q]; omega
    · rw [if_neg q]; omega
theorem nmv_r (q : tkd f t s.1 = 2) : nmv f t s = min (vlN f t s.1) 1001 := by
  unfold vlN
  rw [if_pos q]
  exact nb_rb _ _ 0
end Codes
