/-! PURE: steps: what a row turns and sinks, whether it has ended; a step -/
abbrev stpF (S : Nat → Int32) : List Value := [.int (S 0), .int (S 1), .int (S 2), .int (S 3), .int (S 4), .int (S 5), .int (S 6), .int (S 7), .ref 3, .ref 100, .ref 101]
def wrd (mo : Int32) (p : Po) : Nat → Int32 := fun i => ([p.1 0, if 1 < p.2.1 then p.1 1 else -1, if 2 < p.2.1 then p.1 2 else -1, p.1 (p.2.1 - 1), nI p.2.1, p.2.2.1, p.2.2.2, mo] : List Int32).getD i 0
/-- whatever heap it lies in, the law's text answers so, the words being ws -/
def TxSemL (n c nC nK : Nat) (al : Int32) (cf kf sf tf mf : Nat → Int32) (R : (Nat → Int32) → Int32 → Int32) : Prop := ∀ (h : am_H) (a : Nat) (wf ws : Nat → Int32), TxA h a n c nC nK al cf kf sf tf mf → 98 < h.length → h[100]? = some (.inl (0, 8, .inl wf)) → (∀ i, i < 8 → wf i = ws i) → ∀ j, j < c → (¬ tf j = -1 → AskV h a 100 (tf j) (R ws (tf j))) ∧ (¬ kf j = 2 → AskV h a 100 (sf (j * 3)) (R ws (sf (j * 3))))
def lkt (p : Po) : Int32 := if p.1 0 = 0 then p.2.2.1 else p.1 0
/-- by the law in force a row turns tu, sinks si; en: it has ended -/
def LkR (h : am_H) (fo mo : Int32) (tx : Nat → Option Nat) (p : Po) (tu si : Int32) (en : Bool) : Prop :=
  (fo.toInt = -1 ∧ tu = lkt p ∧ si = 0 ∧ en = decide (p.1 0 = 1)) ∨
  ∃ a n c nC nK al cf kf sf tf mf R, ¬ fo.toInt = -1 ∧ tx fo.toInt.toNat = some a ∧ 200 < a ∧ TxA h a n c nC nK al cf kf sf tf mf ∧ TxSemL n c nC nK al cf kf sf tf mf R ∧ tu = latv kf tf sf (R (wrd mo p)) 0 (lkt p) c ∧ si = latv kf tf sf (R (wrd mo p)) 1 0 c ∧ en = hev kf tf (R (wrd mo p)) (decide (p.1 0 = 1)) c 0 true
def lkh (m : Nat) (tu si : Int32) (en : Bool) : Nat := if en = true then 0 else if 0 ≤ tu.toInt ∧ tu.toInt ≤ m ∧ 0 ≤ si.toInt ∧ si.toInt ≤ m then 3 else 1
def Scr (h : am_H) : Prop := (∃ sk, h[98]? = some (.inl (0, 64, .inl sk))) ∧ ∃ wf, h[100]? = some (.inl (0, 8, .inl wf))
theorem set_self {h : am_H} {a : Nat} {e : va_E} (H : h[a]? = some e) : h.set a e = h := by
  apply List.ext_getElem?
  intro k
  by_cases q : k = a
  · subst q; rw [set_at H, H]
  · rw [List.getElem?_set_ne (fun z => q z.symm)]
def hw (h : am_H) (g : Nat → Int32) : am_H := h.set 100 (.inl (0, 8, .inl g))
theorem hw_fr (h : am_H) (g : Nat → Int32) : Fr (fun a => a = 100) h (hw h g) := Fr.set rfl
theorem hw_at {h : am_H} (hl : 100 < h.length) (g : Nat → Int32) : (hw h g)[100]? = some (.inl (0, 8, .inl g)) := List.getElem?_set_self hl
theorem hw_st {h : am_H} (hl : 100 < h.length) {g : Nat → Int32} {k : Nat} (hk : k < 8) (x : Int32) : sI (hw h g) 100 (nI k) x = some (hw h (upd g k x)) := by
  rw [sI_at (hw_at hl g) hk (by decide)]
  exact congrArg some (List.set_set ..)
section StepsP
variable {h : am_H} {S : Nat → Int32} {r c : Nat} {p : Po} {n s w : Nat} {fo mo ah : Int32} {ss sc : Nat → Int32} {tx : Nat → Option Nat}
theorem Steps_fillWords_v {wf : Nat → Int32} (HS : h[99]? = some (.inr (6, stpF S))) (HW : h[100]? = some (.inl (0, 8, .inl wf))) (HT : TbA h 3 n s w fo mo ah ss sc tx) (HR : RowAt h r c p) (h1 : 1 ≤ p.2.1) (hr : r ≠ 100 ∧ r + 1 ≠ 100) : ∃ wf2, Steps_fillWords 99 r h = some (hw h wf2) ∧ ∀ i, i < 8 → wf2 i = wrd mo p i := by
  have hm := HR.m
  have hl := len_of HW
  have tm := tin (show p.2.1 < 2 ^ 31 by omega)
  have e9 : ∀ g, gR (hw h g) 6 99 9 = some 100 := fun g => by unfold gR; rw [ob_of ((hw_fr h g 99 (by decide)).trans HS)]; rfl
  have e8 : ∀ g, gR (hw h g) 6 99 8 = some 3 := fun g => by unfold gR; rw [ob_of ((hw_fr h g 99 (by decide)).trans HS)]; rfl
  have e7 : ∀ g, gI (hw h g) 7 3 4 = some mo := fun g => by unfold gI; rw [ob_of ((hw_fr h g 3 (by decide)).trans HT.2.2.2.1)]; rfl
  have R := fun g => HR.fr (hw_fr h g) hr.1 hr.2
  have eo : isO (hw h wf) 6 99 = true := isO_of ((hw_fr h wf 99 (by decide)).trans HS)
  have ec : ∀ g x, Row_card r x (hw h g) = some (if inN x p.2.1 then p.1 x.toInt.toNat else -1) := fun g x => (R g).card x
  have e1 : ∀ g, gI (hw h g) 4 r 1 = some (nI p.2.1) := fun g => (R g).g1
  have e3 : ∀ g, gI (hw h g) 4 r 3 = some p.2.2.1 := fun g => (R g).g3
  have e4 : ∀ g, gI (hw h g) 4 r 4 = some p.2.2.2 := fun g => (R g).g4
  have es0 : ∀ g x, sI (hw h g) 100 (0 : Int32) x = some (hw h (upd g 0 x)) := fun g x => hw_st hl (by decide) x
  have es1 : ∀ g x, sI (hw h g) 100 (1 : Int32) x = some (hw h (upd g 1 x)) := fun g x => hw_st hl (by decide) x
  have es2 : ∀ g x, sI (hw h g) 100 (2 : Int32) x = some (hw h (upd g 2 x)) := fun g x => hw_st hl (by decide) x
  have es3 : ∀ g x, sI (hw h g) 100 (3 : Int32) x = some (hw h (upd g 3 x)) := fun g x => hw_st hl (by decide) x
  have es4 : ∀ g x, sI (hw h g) 100 (4 : Int32) x = some (hw h (upd g 4 x)) := fun g x => hw_st hl (by decide) x
  have es5 : ∀ g x, sI (hw h g) 100 (5 : Int32) x = some (hw h (upd g 5 x)) := fun g x => hw_st hl (by decide) x
  have es6 : ∀ g x, sI (hw h g) 100 (6 : Int32) x = some (hw h (upd g 6 x)) := fun g x => hw_st hl (by decide) x
  have es7 : ∀ g x, sI (hw h g) 100 (7 : Int32) x = some (hw h (upd g 7 x)) := fun g x => hw_st hl (by decide) x
  have tm1 : (nI p.2.1 - (1 : Int32)).toInt = p.2.1 - 1 := ti_sub (by rw [tm, ti1]) (by omega) (by omega)
  have e0 : h = hw h wf := (set_self HW).symm
  refine ⟨_, (congrArg (Steps_fillWords 99 r) e0).trans (by
    unfold Steps_fillWords
    rw [if_pos eo]
    simp only [e9, ec, es0, es1, es2, es3, es4, es5, es6, es7, e1, e3, e4, e8, e7, Option.bind_some]
    rfl), ?_⟩
  intro i hi
  have x0 : (if inN (0 : Int32) p.2.1 then p.1 (0 : Int32).toInt.toNat else -1) = p.1 0 := if_pos ⟨by decide, by rw [ti0]; omega⟩
  have x1 : (if inN (1 : Int32) p.2.1 then p.1 (1 : Int32).toInt.toNat else -1) = if 1 < p.2.1 then p.1 1 else -1 := by
    by_cases q : 1 < p.2.1
    · rw [if_pos q, if_pos ⟨by decide, by rw [ti1]; omega⟩]; rfl
    · rw [if_neg q, if_neg (fun z => by have := z.2; rw [ti1] at this; omega)]
  have x2 : (if inN (2 : Int32) p.2.1 then p.1 (2 : Int32).toInt.toNat else -1) = if 2 < p.2.1 then p.1 2 else -1 := by
    have t2 : (2 : Int32).toInt = 2 := by decide
    by_cases q : 2 < p.2.1
    · rw [if_pos q, if_pos ⟨by decide, by rw [t2]; omega⟩]; rfl
    · rw [if_neg q, if_neg (fun z => by have := z.2; rw [t2] at this; omega)]
  have x3 : (if inN (nI p.2.1 - (1 : Int32)) p.2.1 then p.1 (nI p.2.1 - (1 : Int32)).toInt.toNat else -1) = p.1 (p.2.1 - 1) := by
    rw [if_pos ⟨by rw [tm1]; omega, by rw [tm1]; omega⟩, tm1]; exact congrArg p.1 (by omega)
  rw [x0, x1, x2, x3]
  rcases (show i = 0 ∨ i = 1 ∨ i = 2 ∨ i = 3 ∨ i = 4 ∨ i = 5 ∨ i = 6 ∨ i = 7 by omega) with rfl | rfl | rfl | rfl | rfl | rfl | rfl | rfl <;> rfl
theorem stp_put (HS : h[99]? = some (.inr (6, stpF S))) (k : Nat) (hk : k < 8) (x : Int32) (hx : (stpF S).set k (.int x) = stpF (upd S k x)) : pV h 6 99 k (.int x) = some (h.set 99 (.inr (6, stpF (upd S k x)))) := by
  unfold pV; rw [ob_of HS]; simp only [Option.bind_some]; rw [if_pos (show k < (stpF S).length from Nat.lt_of_lt_of_le hk (show 8 ≤ 11 by decide)), hx]
theorem stp_g {k : Nat} {x : Int32} (HS : h[99]? = some (.inr (6, stpF S))) (hx : (stpF S)[k]? = some (.int x)) : gI h 6 99 k = some x := by
  unfold gI; rw [ob_of HS]; simp only [Option.bind_some]; rw [hx]; rfl
abbrev lP : Nat → Prop := fun a => a = 98 ∨ a = 99 ∨ a = 100
theorem Steps_look_101_v {tu si : Int32} (en : Bool) (HS : h[99]? = some (.inr (6, stpF S))) (h0 : S 0 = tu) (h1 : S 1 = si) (HR : RowAt h r c p) : Steps_look_101 99 r (nI (bN (en = true))) h = some (nI (lkh p.2.1 tu si en), h) := by
  have hm := HR.m
  have tm := tin (show p.2.1 < 2 ^ 31 by omega)
  have g0 : gI h 6 99 0 = some tu := stp_g HS (by rw [← h0]; rfl)
  have g1 : gI h 6 99 1 = some si := stp_g HS (by rw [← h1]; rfl)
  have s147 : Steps_look_147 h = some (nI 1, h) := rfl
  have s148 : Steps_look_148 (1 : Int32) h = some (nI 3, h) := rfl
  unfold Steps_look_101 lkh
  cases en with
  | true => rw [if_neg (by decide), if_pos rfl]; rfl
  | false =>
    rw [if_pos (by decide), g0, g1, HR.g1, s147, s148, if_neg (show ¬ false = true by decide)]
    simp only [Option.bind_some, tilt, ti0, tm]
    by_cases q1 : tu.toInt < 0
    · rw [if_pos q1, if_neg (by omega)]
    · rw [if_neg q1]
      by_cases q2 : (p.2.1 : Int) < tu.toInt
      · rw [if_pos q2, if_neg (by omega)]
      · rw [if_neg q2]
        by_cases q3 : si.toInt < 0
        · rw [if_pos q3, if_neg (by omega)]
        · rw [if_neg q3]
          by_cases q4 : (p.2.1 : Int) < si.toInt
          · rw [if_pos q4, if_neg (by omega)]
          · rw [if_neg q4, if_pos (by omega)]
theorem Steps_look_v {tu si : Int32} {en : Bool} (HS : h[99]? = some (.inr (6, stpF S))) (HX : Scr h) (HT : TbA h 3 n s w fo mo ah ss sc tx) (hf : -1 ≤ fo.toInt ∧ fo.toInt < 6) (HR : RowAt h r c p) (hp1 : 1 ≤ p.2.1) (hr : r + 1 < 98 ∨ 100 < r) (HL : LkR h fo mo tx p tu si en) : ∃ h2, Steps_look 99 r h = some (nI (lkh p.2.1 tu si en), h2) ∧ h2[99]? = some (.inr (6, stpF (upd (upd S 0 tu) 1 si))) ∧ Scr h2 ∧ Fr lP h h2 := by
  obtain ⟨⟨sk, HK⟩, wf, HW⟩ := HX
  have l98 := len_of HK
  have l100 := len_of HW
  have cT : p.1 (0 : Int32).toInt.toNat = p.1 0 := rfl
  have ec : Row_card r (0 : Int32) h = some (p.1 0) := by rw [HR.card, if_pos ⟨by decide, by rw [ti0]; omega⟩]; rfl
  -- up to the first puts
  have E1 : Steps_look 99 r h = Steps_look_30 99 r (nI (bN (decide (p.1 0 = 1) = true))) (lkt p) 99 h := by
    unfold Steps_look
    rw [if_pos (isO_of HS), ec]
    simp only [Option.bind_some]
    have e16 : ∀ y, Steps_look_16 99 r (p.1 0) y h = Steps_look_30 99 r y (lkt p) 99 h := fun y => by
      unfold Steps_look_16 lkt
      by_cases q : p.1 0 = 0
      · rw [if_pos q, if_pos q, HR.g3]; rfl
      · rw [if_neg q, if_neg q]
    by_cases q : p.1 0 = 1
    · rw [if_pos q, e16, decide_eq_true q]; rfl
    · rw [if_neg q, e16, decide_eq_false q]; rfl
  have P1 := stp_put HS 0 (by decide) (lkt p) rfl
  have H1 : (h.set 99 (.inr (6, stpF (upd S 0 (lkt p)))))[99]? = some (.inr (6, stpF (upd S 0 (lkt p)))) := set_at HS
  have P2 := stp_put H1 1 (by decide) 0 rfl
  have H2 : ((h.set 99 (.inr (6, stpF (upd S 0 (lkt p))))).set 99 (.inr (6, stpF (upd (upd S 0 (lkt p)) 1 0))))[99]? = some (.inr (6, stpF (upd (upd S 0 (lkt p)) 1 0))) := set_at H1
  generalize hh2 : (h.set 99 (.inr (6, stpF (upd S 0 (lkt p))))).set 99 (.inr (6, stpF (upd (upd S 0 (lkt p)) 1 0))) = h2 at P2 H2
  have F2 : Fr (fun a => a = 99) h h2 := by rw [← hh2]; exact (Fr.set (P := fun a => a = 99) rfl).tr (Fr.set rfl)
  have T2 := HT.fr F2 (fun a _ _ z => by omega)
  have R2 := HR.fr F2 (by omega) (by omega)
  have g8 : gR h2 6 99 8 = some 3 := by unfold gR; rw [ob_of H2]; rfl
  have E2 : Steps_look_30 99 r (nI (bN (decide (p.1 0 = 1) = true))) (lkt p) 99 h = (Table_inForce 3 h2).bind fun x33 => if x33 = none then Steps_look_101 99 r (nI (bN (decide (p.1 0 = 1) = true))) h2 else (x33).bind fun x37 => (Steps_fillWords 99 r h2).bind fun h39 => (gR h39 6 99 9).bind fun x42 => (gI h39 6 99 0).bind fun x44 => (Text_latestOf x37 (0 : Int32) x42 x44 h39).bind fun r46 => (pV r46.2 6 99 0 (.int r46.1)).bind fun h49 => (gR h49 6 99 9).bind fun x52 => (Text_latestOf x37 (1 : Int32) x52 (0 : Int32) h49).bind fun r54 => (pV r54.2 6 99 1 (.int r54.1)).bind fun h57 => (gR h57 6 99 9).bind fun x60 => (Text_hasEnded x37 x60 (nI (bN (decide (p.1 0 = 1) = true))) h57).bind fun r62 => Steps_look_101 99 r r62.1 r62.2 := by
    unfold Steps_look_30
    rw [P1]
    simp only [Option.bind_some]
    rw [P2]
    simp only [Option.bind_some]
    rw [g8]
    rfl
  rw [E1, E2, Table_inForce_v T2 hf]
  rcases HL with ⟨q0, rfl, rfl, rfl⟩ | ⟨a, n1, c1, nC, nK, al, cf, kf, sf, tf, mf, Rr, q0, q1, q2, HA, HM, e1, e2, e3⟩
  · rw [if_pos q0]
    simp only [Option.bind_some]
    rw [if_pos trivial, Steps_look_101_v (tu := lkt p) (si := 0) _ H2 rfl rfl R2]
    exact ⟨h2, rfl, H2, ⟨⟨sk, (F2 98 (by decide)).trans HK⟩, wf, (F2 100 (by decide)).trans HW⟩, F2.mono (fun x hx => Or.inr (Or.inl hx))⟩
  · rw [if_neg q0, q1]
    simp only [Option.bind_some]
    rw [if_neg (by simp)]
    have K2 := (F2 98 (by decide)).trans HK
    have W2 := (F2 100 (by decide)).trans HW
    obtain ⟨wf2, ef, hwf⟩ := Steps_fillWords_v H2 W2 T2 R2 hp1 (by omega)
    rw [ef]
    simp only [Option.bind_some]
    have F3 : Fr (fun a => a = 100) h2 (hw h2 wf2) := hw_fr h2 wf2
    have H3 := (F3 99 (by decide)).trans H2
    have K3 := (F3 98 (by decide)).trans K2
    have W3 : (hw h2 wf2)[100]? = some (.inl (0, 8, .inl wf2)) := hw_at (len_of W2) wf2
    generalize hw h2 wf2 = h3 at F3 H3 K3 W3
    have A3 := (HA.fr F2 (fun x _ _ z => by omega)).fr F3 (fun x _ _ z => by omega)
    have g9 : gR h3 6 99 9 = some 100 := by unfold gR; rw [ob_of H3]; rfl
    have g0 : gI h3 6 99 0 = some (lkt p) := stp_g H3 rfl
    rw [g9, g0]
    simp only [Option.bind_some]
    have M3 := HM h3 a wf2 (wrd mo p) A3 (len_of K3) W3 hwf
    obtain ⟨f4, E4⟩ := Text_latestOf_v A3 0 (lkt p) (R := Rr (wrd mo p)) (wd := 100) (fun j hj => ⟨(M3 j hj).1, fun z => (M3 j hj).2 (by rw [z]; decide)⟩) sk
    rw [show stC h3 sk = h3 from set_self K3] at E4
    rw [E4, ← e1]
    simp only [Option.bind_some]
    have F4 := stC_fr h3 f4
    have H4 := (F4 99 (by decide)).trans H3
    have W4 := (F4 100 (by decide)).trans W3
    have K4 : (stC h3 f4)[98]? = some (.inl (0, 64, .inl f4)) := stC_at (len_of K3) f4
    generalize stC h3 f4 = h4 at F4 H4 W4 K4
    rw [stp_put H4 0 (by decide) tu rfl]
    simp only [Option.bind_some]
    have F5 : Fr (fun a => a = 99) h4 (h4.set 99 (.inr (6, stpF (upd (upd (upd S 0 (lkt p)) 1 0) 0 tu)))) := Fr.set rfl
    have H5 : (h4.set 99 (.inr (6, stpF (upd (upd (upd S 0 (lkt p)) 1 0) 0 tu))))[99]? = some (.inr (6, stpF (upd (upd (upd S 0 (lkt p)) 1 0) 0 tu))) := set_at H4
    have W5 := (F5 100 (by decide)).trans W4
    have K5 := (F5 98 (by decide)).trans K4
    generalize h4.set 99 (.inr (6, stpF (upd (upd (upd S 0 (lkt p)) 1 0) 0 tu))) = h5 at F5 H5 W5 K5
    have A5 := (A3.fr F4 (fun x _ _ z => by omega)).fr F5 (fun x _ _ z => by omega)
    have g9 : gR h5 6 99 9 = some 100 := by unfold gR; rw [ob_of H5]; rfl
    rw [g9]
    simp only [Option.bind_some]
    have M5 := HM h5 a wf2 (wrd mo p) A5 (len_of K5) W5 hwf
    obtain ⟨f6, E6⟩ := Text_latestOf_v A5 1 0 (R := Rr (wrd mo p)) (wd := 100) (fun j hj => ⟨(M5 j hj).1, fun z => (M5 j hj).2 (by rw [z]; decide)⟩) f4
    rw [show stC h5 f4 = h5 from set_self K5] at E6
    rw [E6, ← e2]
    simp only [Option.bind_some]
    have F6 := stC_fr h5 f6
    have H6 := (F6 99 (by decide)).trans H5
    have W6 := (F6 100 (by decide)).trans W5
    have K6 : (stC h5 f6)[98]? = some (.inl (0, 64, .inl f6)) := stC_at (len_of K5) f6
    generalize stC h5 f6 = h6 at F6 H6 W6 K6
    rw [stp_put H6 1 (by decide) si rfl]
    simp only [Option.bind_some]
    have F7 : Fr (fun a => a = 99) h6 (h6.set 99 (.inr (6, stpF (upd (upd (upd (upd S 0 (lkt p)) 1 0) 0 tu) 1 si)))) := Fr.set rfl
    have H7 : (h6.set 99 (.inr (6, stpF (upd (upd (upd (upd S 0 (lkt p)) 1 0) 0 tu) 1 si))))[99]? = some (.inr (6, stpF (upd (upd (upd (upd S 0 (lkt p)) 1 0) 0 tu) 1 si))) := set_at H6
    have W7 := (F7 100 (by decide)).trans W6
    have K7 := (F7 98 (by decide)).trans K6
    generalize h6.set 99 (.inr (6, stpF (upd (upd (upd (upd S 0 (lkt p)) 1 0) 0 tu) 1 si))) = h7 at F7 H7 W7 K7
    have A7 := (A5.fr F6 (fun x _ _ z => by omega)).fr F7 (fun x _ _ z => by omega)
    have g9 : gR h7 6 99 9 = some 100 := by unfold gR; rw [ob_of H7]; rfl
    rw [g9]
    simp only [Option.bind_some]
    have M7 := HM h7 a wf2 (wrd mo p) A7 (len_of K7) W7 hwf
    obtain ⟨f8, E8⟩ := Text_hasEnded_v A7 (decide (p.1 0 = 1)) (R := Rr (wrd mo p)) (wd := 100) (fun j hj => (M7 j hj).1) f6
    rw [show stC h7 f6 = h7 from set_self K7] at E8
    rw [E8, ← e3]
    simp only [Option.bind_some]
    have F8 := stC_fr h7 f8
    have H8 := (F8 99 (by decide)).trans H7
    have W8 := (F8 100 (by decide)).trans W7
    have K8 : (stC h7 f8)[98]? = some (.inl (0, 64, .inl f8)) := stC_at (len_of K7) f8
    generalize stC h7 f8 = h8 at F8 H8 W8 K8
    have FA : Fr lP h h8 := ((((((F2.mono (fun x hx => Or.inr (Or.inl hx))).tr (F3.mono (fun x hx => Or.inr (Or.inr hx)))).tr (F4.mono (fun x hx => Or.inl hx))).tr (F5.mono (fun x hx => Or.inr (Or.inl hx)))).tr (F6.mono (fun x hx => Or.inl hx))).tr (F7.mono (fun x hx => Or.inr (Or.inl hx)))).tr (F8.mono (fun x hx => Or.inl hx))
    have R8 := HR.fr FA (by show ¬ (_ ∨ _ ∨ _); omega) (by show ¬ (_ ∨ _ ∨ _); omega)
    have hS8 : upd (upd (upd (upd S 0 (lkt p)) 1 0) 0 tu) 1 si = upd (upd S 0 tu) 1 si := by
      funext i; unfold upd; by_cases q : i = 1
      · rw [if_pos q, if_pos q]
      · rw [if_neg q, if_neg q, if_neg q]
        by_cases q2 : i = 0
        · rw [if_pos q2, if_pos q2]
        · rw [if_neg q2, if_neg q2, if_neg q2]
    rw [Steps_look_101_v (tu := tu) (si := si) en H8 rfl rfl R8]
    rw [hS8] at H8
    exact ⟨h8, rfl, H8, ⟨⟨f8, K8⟩, wf2, W8⟩, FA⟩
end StepsP
