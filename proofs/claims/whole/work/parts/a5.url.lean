/-! ONE: the class's heaps and what it can undo, against what the reference keeps -/
def HpR (n : Nat) (C : Nat → Nat) (D : Nat → Po) (K : Nat → Int32) : Prop := K 96 = nI n ∧ ∀ j, j < n → okP (D j) ∧ K (16 * j) = nI (D j).2.1 ∧ (∀ i, i < (D j).2.1 → K (16 * j + 3 + i) = (D j).1 i) ∧ K (16 * j + 2) = (D j).2.2.1 ∧ (D j).2.2.2 = nI j ∧ K (16 * j + 1) = nI (C j) ∧ C j ≤ 9999
/-- the heaps before the latest e changes -/
def hsC (t : HSt) : Nat → (Nat → Nat) × (Nat → Po)
  | 0 => (t.C, t.D)
  | e + 1 => (up1 (hsC t e).1 (t.D2 ((t.x + 15 - e) % 16)).2.2.2.toInt.toNat (t.C2 ((t.x + 15 - e) % 16)), up1 (hsC t e).2 (t.D2 ((t.x + 15 - e) % 16)).2.2.2.toInt.toNat (t.D2 ((t.x + 15 - e) % 16)))
def slK (K l : Nat → Int32) (u : Nat) : Nat → Nat → Int32
  | 0 => K
  | e + 1 => fun i => l (98 * (u - 1 - e) + i)
def URel (n : Nat) (t : HSt) (K l : Nat → Int32) : Prop := n ≤ 6 ∧ t.u ≤ 16 ∧ t.x < 16 ∧ (∀ e, e ≤ t.u → HpR n (hsC t e).1 (hsC t e).2 (slK K l t.u e)) ∧ ∀ e, e < t.u → l (98 * (t.u - 1 - e) + 97) = t.kd ((t.x + 15 - e) % 16)
theorem HpR.cg {n : Nat} {C C2 : Nat → Nat} {D D2 : Nat → Po} {K K2 : Nat → Int32} (hn : n ≤ 6) (H : HpR n C D K) (hC : ∀ j, j < n → C2 j = C j) (hD : ∀ j, j < n → D2 j = D j) (hK : ∀ i, i < 97 → K2 i = K i) : HpR n C2 D2 K2 := by
  refine ⟨(hK 96 (by omega)).trans H.1, fun j hj => ?_⟩
  obtain ⟨a1, a2, a3, a4, a5, a6, a7⟩ := H.2 j hj
  have hm := a1.2.1
  rw [hC j hj, hD j hj]
  refine ⟨a1, (hK _ (by omega)).trans a2, fun i hi => (hK _ (by omega)).trans (a3 i hi), (hK _ (by omega)).trans a4, a5, (hK _ (by omega)).trans a6, a7⟩
theorem hsC_kp {t : HSt} {n j : Nat} {k : Int32} {c : Nat} {p : Po} (hx : t.x < 16) (hj : (t.D j).2.2.2 = nI j) (hj6 : j < 2 ^ 31) : ∀ (e : Nat), e ≤ 15 → ∀ i, (hsC (t.kp j k c p) (e + 1)).1 i = (hsC t e).1 i ∧ (hsC (t.kp j k c p) (e + 1)).2 i = (hsC t e).2 i
  | 0, _, i => by
    have ex : ((t.x + 1) % 16 + 15 - 0) % 16 = t.x := by omega
    have eD : (t.kp j k c p).D2 t.x = t.D j := if_pos rfl
    have eC : (t.kp j k c p).C2 t.x = t.C j := if_pos rfl
    have en : (t.D j).2.2.2.toInt.toNat = j := by rw [hj, tin hj6]; omega
    show up1 (up1 t.C j c) ((t.kp j k c p).D2 (((t.x + 1) % 16 + 15 - 0) % 16)).2.2.2.toInt.toNat ((t.kp j k c p).C2 (((t.x + 1) % 16 + 15 - 0) % 16)) i = t.C i ∧ up1 (up1 t.D j p) ((t.kp j k c p).D2 (((t.x + 1) % 16 + 15 - 0) % 16)).2.2.2.toInt.toNat ((t.kp j k c p).D2 (((t.x + 1) % 16 + 15 - 0) % 16)) i = t.D i
    rw [ex, eD, eC, en]
    unfold up1
    by_cases q : i = j
    · rw [if_pos q, if_pos q, q]; exact ⟨rfl, rfl⟩
    · rw [if_neg q, if_neg q, if_neg q, if_neg q]; exact ⟨rfl, rfl⟩
  | e + 1, he, i => by
    obtain ⟨i1, i2⟩ := hsC_kp (n := n) (k := k) (c := c) (p := p) hx hj hj6 e (by omega) i
    have ex : ((t.x + 1) % 16 + 15 - (e + 1)) % 16 = (t.x + 15 - e) % 16 := by omega
    have ne : ¬ (t.x + 15 - e) % 16 = t.x := by omega
    have eD : (t.kp j k c p).D2 ((t.x + 15 - e) % 16) = t.D2 ((t.x + 15 - e) % 16) := if_neg ne
    have eC : (t.kp j k c p).C2 ((t.x + 15 - e) % 16) = t.C2 ((t.x + 15 - e) % 16) := if_neg ne
    show up1 (hsC (t.kp j k c p) (e + 1)).1 ((t.kp j k c p).D2 (((t.x + 1) % 16 + 15 - (e + 1)) % 16)).2.2.2.toInt.toNat ((t.kp j k c p).C2 (((t.x + 1) % 16 + 15 - (e + 1)) % 16)) i = up1 (hsC t e).1 (t.D2 ((t.x + 15 - e) % 16)).2.2.2.toInt.toNat (t.C2 ((t.x + 15 - e) % 16)) i ∧ up1 (hsC (t.kp j k c p) (e + 1)).2 ((t.kp j k c p).D2 (((t.x + 1) % 16 + 15 - (e + 1)) % 16)).2.2.2.toInt.toNat ((t.kp j k c p).D2 (((t.x + 1) % 16 + 15 - (e + 1)) % 16)) i = up1 (hsC t e).2 (t.D2 ((t.x + 15 - e) % 16)).2.2.2.toInt.toNat (t.D2 ((t.x + 15 - e) % 16)) i
    rw [ex, eD, eC]
    unfold up1
    by_cases q : i = (t.D2 ((t.x + 15 - e) % 16)).2.2.2.toInt.toNat
    · rw [if_pos q, if_pos q, if_pos q, if_pos q]; exact ⟨rfl, rfl⟩
    · rw [if_neg q, if_neg q, if_neg q, if_neg q]; exact ⟨i1, i2⟩
/-- the row of what can be undone behind one change more -/
def lK (K l : Nat → Int32) (u : Nat) (x : Int32) : Nat → Int32 := upd (fill (kpl l u) (98 * kpu u) 97 K) (98 * kpu u + 97) x
theorem lK_at {K l : Nat → Int32} {u : Nat} {x : Int32} (hu : u ≤ 16) : (∀ i, i < 97 → lK K l u x (98 * kpu u + i) = K i) ∧ lK K l u x (98 * kpu u + 97) = x ∧ ∀ e i, 1 ≤ e → e ≤ kpu u → i < 98 → lK K l u x (98 * (kpu u - e) + i) = l (98 * (u - e) + i) := by
  unfold lK
  refine ⟨fun i hi => ?_, if_pos rfl, fun e i h1 h2 h3 => ?_⟩
  · rw [pk_un (by omega), fill_in (by omega) (by omega)]
    exact congrArg K (by omega)
  · have hk : kpu u ≤ 15 := by unfold kpu; split <;> omega
    rw [pk_un (by omega), fill_out (by omega)]
    unfold kpl
    by_cases q : u < 16
    · have ek : kpu u = u := if_pos q
      rw [if_pos q, ek]
    · have ek : kpu u = 15 := if_neg q
      rw [if_neg q, ek, fill_in (by omega) (by omega)]
      exact congrArg l (by omega)
theorem URel.kp {n : Nat} {t : HSt} {K l K2 : Nat → Int32} (H : URel n t K l) {j c : Nat} {k : Int32} {p : Po} (hj : j < n) (H2 : HpR n (up1 t.C j c) (up1 t.D j p) K2) : URel n (t.kp j k c p) K2 (lK K l t.u k) := by
  obtain ⟨hn, hu, hx, H0, Hk⟩ := H
  have hku : min (t.u + 1) 16 = kpu t.u + 1 := by unfold kpu; split <;> omega
  have hk15 : kpu t.u ≤ 15 := by unfold kpu; split <;> omega
  have hkle : kpu t.u ≤ t.u := by unfold kpu; split <;> omega
  have dj := ((H0 0 (Nat.zero_le _)).2 j hj).2.2.2.2.1
  obtain ⟨l1, l2, l3⟩ := lK_at (K := K) (l := l) (x := k) hu
  have eu : (t.kp j k c p).u = kpu t.u + 1 := hku
  refine ⟨hn, by rw [eu]; omega, Nat.mod_lt _ (by decide), fun e he => ?_, fun e he => ?_⟩
  · rw [eu] at he ⊢
    cases e with
    | zero => exact H2
    | succ e =>
      have kp := hsC_kp (n := n) (k := k) (c := c) (p := p) hx dj (by omega) e (by omega)
      refine (H0 e (by omega)).cg hn (fun i _ => (kp i).1) (fun i _ => (kp i).2) (fun i hi => ?_)
      show lK K l t.u k (98 * (kpu t.u + 1 - 1 - e) + i) = slK K l t.u e i
      rw [show kpu t.u + 1 - 1 - e = kpu t.u - e by omega]
      cases e with
      | zero => exact l1 i hi
      | succ e =>
        rw [l3 (e + 1) i (by omega) (by omega) (by omega)]
        show l (98 * (t.u - (e + 1)) + i) = l (98 * (t.u - 1 - e) + i)
        exact congrArg l (by omega)
  · rw [eu] at he ⊢
    have ex : (t.kp j k c p).x = (t.x + 1) % 16 := rfl
    rw [ex, show kpu t.u + 1 - 1 - e = kpu t.u - e by omega]
    cases e with
    | zero =>
      rw [show ((t.x + 1) % 16 + 15 - 0) % 16 = t.x by omega]
      exact l2.trans (show k = upd t.kd t.x k t.x from (if_pos rfl).symm)
    | succ e =>
      rw [l3 (e + 1) 97 (by omega) (by omega) (by omega), show ((t.x + 1) % 16 + 15 - (e + 1)) % 16 = (t.x + 15 - e) % 16 by omega]
      have := Hk e (by omega)
      rw [show t.u - (e + 1) = t.u - 1 - e by omega, this]
      exact (if_neg (show ¬ (t.x + 15 - e) % 16 = t.x by omega)).symm
/-- what is kept, heap j alone changed -/
theorem HpR.one {n : Nat} {C : Nat → Nat} {D : Nat → Po} {K K2 : Nat → Int32} (hn : n ≤ 6) (H : HpR n C D K) {j c : Nat} {p : Po} (hj : j < n) (ho : ∀ i, i < 97 → (i < 16 * j ∨ 16 * j + 16 ≤ i) → K2 i = K i) (hp : okP p) (h0 : K2 (16 * j) = nI p.2.1) (hc : ∀ i, i < p.2.1 → K2 (16 * j + 3 + i) = p.1 i) (hl : K2 (16 * j + 2) = p.2.2.1) (hnr : p.2.2.2 = nI j) (hcl : K2 (16 * j + 1) = nI c) (hc9 : c ≤ 9999) : HpR n (up1 C j c) (up1 D j p) K2 := by
  refine ⟨(ho 96 (by omega) (by omega)).trans H.1, fun q hq => ?_⟩
  unfold up1
  by_cases e : q = j
  · subst e
    rw [if_pos rfl, if_pos rfl]
    exact ⟨hp, h0, hc, hl, hnr, hcl, hc9⟩
  · rw [if_neg e, if_neg e]
    obtain ⟨a1, a2, a3, a4, a5, a6, a7⟩ := H.2 q hq
    have hm := a1.2.1
    exact ⟨a1, (ho _ (by omega) (by omega)).trans a2, fun i hi => (ho _ (by omega) (by omega)).trans (a3 i hi), (ho _ (by omega) (by omega)).trans a4, a5, (ho _ (by omega) (by omega)).trans a6, a7⟩
theorem HpR.eqm {n : Nat} {C : Nat → Nat} {D : Nat → Po} {K : Nat → Int32} (H : HpR n C D K) {j : Nat} (hj : j < n) : eqm (hpo K j (D j).2.1) (D j) := by
  obtain ⟨a1, a2, a3, a4, a5, a6, a7⟩ := H.2 j hj
  refine ⟨?_, fun i hi => a3 i hi⟩
  show ((D j).2.1, K (16 * j + 2), nI j) = (D j).2
  rw [a4, ← a5]
