/-! THE REFERENCE: what a heap says of itself, told by what is kept and by the cards alone -/
def Lk (F R : List Nat) (σ σ2 : am_S) : Prop := (∀ k, k ∉ F → σ2.1 k = σ.1 k) ∧ (∀ k, k ∉ R → σ2.2.1 k = σ.2.1 k) ∧ σ2.2.2 = σ.2.2
theorem Lk.rf {F R : List Nat} {σ : am_S} : Lk F R σ σ := ⟨fun _ _ => rfl, fun _ _ => rfl, rfl⟩
theorem Lk.tr {F R : List Nat} {σ σ1 σ2 : am_S} (p : Lk F R σ σ1) (q : Lk F R σ1 σ2) : Lk F R σ σ2 := ⟨fun k hk => (q.1 k hk).trans (p.1 k hk), fun k hk => (q.2.1 k hk).trans (p.2.1 k hk), q.2.2.trans p.2.2⟩
theorem Lk.mono {F R F2 R2 : List Nat} {σ σ1 : am_S} (p : Lk F R σ σ1) (hF : ∀ x ∈ F, x ∈ F2) (hR : ∀ x ∈ R, x ∈ R2) : Lk F2 R2 σ σ1 := ⟨fun k hk => p.1 k (fun z => hk (hF k z)), fun k hk => p.2.1 k (fun z => hk (hR k z)), p.2.2⟩
abbrev Po : Type := (Nat → Int32) × Nat × Int32 × Int32
def po (σ : am_S) (m : Nat) : Po := (σ.2.1 13, m, σ.1 32, σ.1 33)
def Ps (σ : am_S) (m : Nat) : Prop := σ.1 31 = nI m ∧ 1 ≤ m ∧ m ≤ 13 ∧ ∃ br : Bool, σ.1 23 = nI (bN (br = true))
def aq (K : Nat → Int32) (p : Po) : Nat → Int32 := fun i => ([if p.2.1 ≤ 1 then -1 else p.1 1, if p.2.1 ≤ 2 then -1 else p.1 2, p.1 (p.2.1 - 1), p.2.2.1, p.2.2.2, K 113, p.1 0, nI p.2.1] : List Int32).getD i 0
def cn (K q o : Nat → Int32) : Nat → Nat → Int32 := fun k => if k = 1 then K else if k = 11 then q else if k = 12 then o else fun _ => 0
def kN (K : Nat → Int32) (i : Nat) : Nat := (K i).toNatClampNeg
def sayv (K : Nat → Int32) (p : Po) (hd : Int32) (w : Int64) : Option (Int64 × Bool × Bool) :=
  if K 117 = -1 then some (w, false, false)
  else if K 117 = nI (kN K 117) ∧ kN K 117 < 6 ∧ K (118 + kN K 117) = nI (kN K (118 + kN K 117)) ∧ kN K (118 + kN K 117) ≤ 400 ∧ K 96 = nI (kN K 96) ∧ kN K 96 ≤ 6 then
    (match tellv (cn K (aq K p) (fun _ => 0)) (400 * kN K 117 + kN K (118 + kN K 117)) (kN K 96) hd w (400 * kN K 117) false with
    | none => none
    | some (v, hh, it, _, _) => some (v, hh, it))
  else none
/-- the law in force answers whatever lies there -/
def WK (K : Nat → Int32) : Prop := ∀ (p : Po) (hd : Int32) (w : Int64), 1 ≤ p.2.1 → p.2.1 ≤ 13 → ∃ x, sayv K p hd w = some x
def EqA (inO : Bool) (A A' : Nat → Nat → Int32) : Prop := A 1 = A' 1 ∧ (inO = false → ∀ i, i < 8 → A 11 i = A' 11 i) ∧ (inO = true → ∀ i, i < 3 → A 12 i = A' 12 i)
section Congr
variable {A A' : Nat → Nat → Int32} {ge n : Nat} {inO live : Bool}
theorem cdA_c (h : A 1 = A' 1) (k : Nat) : cdA A ge k = cdA A' ge k := by unfold cdA; rw [h]
theorem leafv_c (h : EqA inO A A') (g : Nat) (br : Bool) : leafv A ge n inO live g br = leafv A' ge n inO live g br := by
  have hc := fun k => cdA_c (ge := ge) h.1 k
  have hv : ∀ c k, hvl A n c k = hvl A' n c k := fun c k => by unfold hvl; rw [h.1]
  unfold leafv
  simp only [hc, hv, h.1]
  by_cases c1 : cdA A' ge g = nI 50
  · rw [if_pos c1, if_pos c1]
  · rw [if_neg c1, if_neg c1]
    by_cases c2 : inO = false
    · rw [if_pos c2, if_pos c2]
      by_cases c3 : cdA A' ge g = nI (cdA A' ge g).toNatClampNeg ∧ 8 ≤ (cdA A' ge g).toNatClampNeg ∧ (cdA A' ge g).toNatClampNeg ≤ 15
      · rw [if_pos c3, if_pos c3, h.2.1 c2 _ (by omega)]
      · rw [if_neg c3, if_neg c3]
    · rw [if_neg c2, if_neg c2]
      by_cases c3 : cdA A' ge g = nI (cdA A' ge g).toNatClampNeg ∧ 16 ≤ (cdA A' ge g).toNatClampNeg ∧ (cdA A' ge g).toNatClampNeg ≤ 18
      · rw [if_pos c3, if_pos c3, h.2.2 (by cases inO; exact absurd rfl c2; rfl) _ (by omega)]
      · rw [if_neg c3, if_neg c3]
theorem tlp_c {P : Nat → Bool → EvR} (h : A 1 = A' 1) : tlp P A ge live = tlp P A' ge live := by
  funext f
  induction f with
  | zero => rfl
  | succ f ih => funext v g br; simp only [tlp, cdA_c h, ih]
theorem tmv_c {P : Nat → Bool → EvR} (h : A 1 = A' 1) : tmv P A ge live = tmv P A' ge live := by
  funext g br; unfold tmv; rw [tlp_c h]
theorem slp_c {P : Nat → Bool → EvR} (h : A 1 = A' 1) : slp P A ge live = slp P A' ge live := by
  funext f
  induction f with
  | zero => rfl
  | succ f ih => funext v g br; simp only [slp, cdA_c h, ih, tmv_c h]
theorem smv_c {P : Nat → Bool → EvR} (h : A 1 = A' 1) : smv P A ge live = smv P A' ge live := by
  funext g br; unfold smv; rw [slp_c h, tmv_c h]
theorem ptv_c (h : EqA inO A A') : ptv A ge n inO live = ptv A' ge n inO live := by
  funext D
  induction D with
  | zero => funext g br; simp only [ptv, leafv_c h]
  | succ D ih => funext g br; simp only [ptv, leafv_c h, cdA_c h.1, ih, smv_c h.1]
theorem sumv_c (h : EqA inO A A') : sumv A ge n inO live = sumv A' ge n inO live := by
  show smv (ptv A ge n inO live 8) A ge live = smv (ptv A' ge n inO live 8) A' ge live
  rw [ptv_c h, smv_c h.1]
theorem blp_c {P : Bool → Nat → Bool → EvB} (h : A 1 = A' 1) : blp P A ge live = blp P A' ge live := by
  funext f
  induction f with
  | zero => rfl
  | succ f ih => funext v g br; simp only [blp, cdA_c h, ih]
theorem bov_c {P : Bool → Nat → Bool → EvB} (h : A 1 = A' 1) : bov P A ge = bov P A' ge := by
  funext live g br; unfold bov; rw [blp_c h]
theorem olp_c {P : Bool → Nat → Bool → EvB} (h : A 1 = A' 1) : olp P A ge live = olp P A' ge live := by
  funext f
  induction f with
  | zero => rfl
  | succ f ih => funext v g br; simp only [olp, cdA_c h, ih]
theorem tev_c {P : Bool → Nat → Bool → EvB} (h : A 1 = A' 1) : tev P A ge = tev P A' ge := by
  funext live g br; unfold tev; rw [olp_c h]
theorem nlp_c {P : Bool → Nat → Bool → EvB} (h : A 1 = A' 1) : nlp P A ge live = nlp P A' ge live := by
  funext f
  induction f with
  | zero => rfl
  | succ f ih => funext v g br; simp only [nlp, cdA_c h, ih]
theorem pov_c {T : Bool → Nat → Bool → EvB} {S : Bool → Nat → Bool → EvR} (h : A 1 = A' 1) : pov T S A ge = pov T S A' ge := by
  funext live g br; simp only [pov, cdA_c h]
theorem tsv_c {S : Bool → Nat → Bool → EvR} (h : A 1 = A' 1) (D : Nat) : tsv S A ge D = tsv S A' ge D := by
  induction D with
  | zero => rfl
  | succ D ih => simp only [tsv, ih, tev_c h, bov_c h, nlp_c h, pov_c h]
theorem clv_c {S : Nat → Bool → EvR} {T : Nat → Bool → EvB} (h : A 1 = A' 1) (g : Nat) : clv S T A ge g = clv S T A' ge g := by
  simp only [clv, cdA_c h]
theorem tlv_c {S : Nat → Bool → EvR} {T : Nat → Bool → EvB} {hd : Int32} (h : A 1 = A' 1) : tlv S T A ge hd = tlv S T A' ge hd := by
  funext f
  induction f with
  | zero => rfl
  | succ f ih => funext told hh it g br; simp only [tlv, cdA_c h, clv_c h, ih]
theorem tsumv_c (h : EqA false A A') : tsumv A ge n = tsumv A' ge n := by
  funext live; exact sumv_c h
theorem tellv_c {hd : Int32} {w : Int64} {g0 : Nat} {br : Bool} (h : EqA false A A') : tellv A ge n hd w g0 br = tellv A' ge n hd w g0 br := by
  unfold tellv; rw [tsumv_c h, tsv_c h.1, tlv_c h.1]
end Congr
theorem tlv_br {S : Nat → Bool → EvR} {T : Nat → Bool → EvB} {A : Nat → Nat → Int32} {ge : Nat} {hd : Int32} {f : Nat} {told : Int64} {hh it : Bool} {g : Nat} {br : Bool} {v : Int64} {h1 i1 : Bool} {g1 : Nat} {b1 : Bool} (h : tlv S T A ge hd f told hh it g br = some (v, h1, i1, g1, b1)) (br2 : Bool) : ∃ b2, tlv S T A ge hd f told hh it g br2 = some (v, h1, i1, g1, b2) := by
  cases f with
  | zero => cases h
  | succ f =>
    simp only [tlv] at h ⊢
    by_cases c1 : g < 4000
    · rw [if_pos c1] at h ⊢
      by_cases c2 : g < ge
      · rw [if_pos c2] at h ⊢
        exact ⟨b1, h⟩
      · rw [if_neg c2] at h ⊢
        cases h
        exact ⟨br2, rfl⟩
    · rw [if_neg c1] at h
      cases h
theorem Lk.ev {σ : am_S} {S : Nat → Int32} {g : Nat} {br hh it : Bool} {q : Nat → Int32} {ge : Nat} (hS : S = σ.1) : Lk [21, 22, 23, 24, 25, 26] [11] σ (evS (tS (upd (upd S 24 (nI 0)) 22 (nI ge), rs σ.2.1 11 q, σ.2.2) hh it) g br) := by
  subst hS
  refine ⟨fun k hk => ?_, fun k hk => ?_, rfl⟩
  · simp only [List.mem_cons, List.not_mem_nil, or_false, not_or] at hk
    simp [evS, tS, upd, hk]
  · exact rs_ne (fun z => hk (by simp [z]))
theorem askr_eq {σ : am_S} {m : Nat} {A : Nat → Nat → Int32} (hA : A = σ.2.1) (i : Nat) (hi : i < 8) : askr A m (σ.1 32) (σ.1 33) i = aq (σ.2.1 1) (po σ m) i := by
  subst hA
  match i, hi with
  | 0, _ => rfl
  | 1, _ => rfl
  | 2, _ => rfl
  | 3, _ => rfl
  | 4, _ => rfl
  | 5, _ => rfl
  | 6, _ => rfl
  | 7, _ => rfl
theorem EqA_ask {σ : am_S} {m : Nat} : EqA false (rs σ.2.1 11 (askr σ.2.1 m (σ.1 32) (σ.1 33))) (cn (σ.2.1 1) (aq (σ.2.1 1) (po σ m)) (fun _ => 0)) := by
  refine ⟨rs_ne (by decide), fun _ i hi => ?_, fun z => Bool.noConfusion z⟩
  rw [rs_at]
  exact askr_eq rfl i hi
set_option maxHeartbeats 400000 in
theorem e_tl {b : Nat} {h : am_H} {σ : am_S} {m : Nat} {hd : Int32} {w v : Int64} {hh it : Bool} (hp : Ps σ m) (hv : sayv (σ.2.1 1) (po σ m) hd w = some (v, hh, it)) (hm : Mo b h σ) : Ex 70 0 0 mX12_tells 0 (am_en [.ref b, .int hd, .long w] 11) [] h (fun r h2 => r = some (.long v) ∧ ∃ σ2, Mo b h2 σ2 ∧ Lk [21, 22, 23, 24, 25, 26] [11] σ σ2 ∧ Ps σ2 m ∧ σ2.1 25 = nI (bN (hh = true)) ∧ σ2.1 26 = nI (bN (it = true)) ∧ Same b h h2) := by
  obtain ⟨h31, hm1, hm13, br0, h23⟩ := hp
  unfold sayv at hv
  by_cases c1 : σ.2.1 1 117 = -1
  · rw [if_pos c1] at hv
    cases hv
    refine ((e_tells_none hd w c1 hm).widen (by omega) (by omega) (by omega)).mono (fun r h2 q => ⟨q.1, _, q.2.1, ⟨fun k hk => ?_, fun _ _ => rfl, rfl⟩, ⟨h31, hm1, hm13, br0, h23⟩, rfl, rfl, q.2.2⟩)
    simp only [List.mem_cons, List.not_mem_nil, or_false, not_or] at hk
    simp [upd, hk]
  · rw [if_neg c1] at hv
    generalize kN (σ.2.1 1) 117 = l at hv
    generalize kN (σ.2.1 1) (118 + l) = sz at hv
    generalize kN (σ.2.1 1) 96 = n at hv
    by_cases c2 : σ.2.1 1 117 = nI l ∧ l < 6 ∧ σ.2.1 1 (118 + l) = nI sz ∧ sz ≤ 400 ∧ σ.2.1 1 96 = nI n ∧ n ≤ 6
    · rw [if_pos c2] at hv
      obtain ⟨f1, f2, f3, f4, f5, f6⟩ := c2
      cases e : tellv (cn (σ.2.1 1) (aq (σ.2.1 1) (po σ m)) (fun _ => 0)) (400 * l + sz) n hd w (400 * l) false with
      | none => rw [e] at hv; cases hv
      | some x =>
        obtain ⟨v1, h1, i1, g1, b1⟩ := x
        rw [e] at hv
        cases hv
        have e0 : tellv (rs σ.2.1 11 (askr σ.2.1 m (σ.1 32) (σ.1 33))) (400 * l + sz) n hd w (400 * l) false = some (v, hh, it, g1, b1) := (tellv_c EqA_ask).trans e
        obtain ⟨b2, e2⟩ := tlv_br e0 br0
        refine (e_tells f1 f2 f3 f4 h31 hm1 hm13 h23 f5 f6 e2 hm).mono (fun r h2 q => ⟨q.1, _, q.2.1, Lk.ev rfl, ⟨h31, hm1, hm13, b2, rfl⟩, rfl, rfl, q.2.2⟩)
    · rw [if_neg c2] at hv
      cases hv
