/-! Put and take out, as one function for both sides; put and remove. -/
noncomputable def plM (M : AM) (key v : Nat) : AM := gt (has M key) (setV M (les M key) v) (gt (M.1 < 40) (placeM M key v) M)
noncomputable def toM (M : AM) (key : Nat) : AM := gt (has M key) (outM M (les M key)) M
noncomputable def ifI (P : Prop) : Int32 := gt P 1 0
theorem ifI_z (P : Prop) : zOk (ifI P) := by
  unfold ifI
  by_cases h : P
  · rw [gt_t h]; exact Or.inr rfl
  · rw [gt_f h]; exact Or.inl rfl
def can (M : AM) (key : Nat) : Prop := M.1 < 40 ∨ has M key
theorem Inv.pl {M : AM} (h : Inv M) {key v : Nat} (hk : key < 100) (hv : v < 1000000) : Inv (plM M key v) := by
  unfold plM
  by_cases h1 : has M key
  · rw [gt_t h1]
    exact h.setV hv
  · rw [gt_f h1]
    by_cases h2 : M.1 < 40
    · rw [gt_t h2]
      exact h.place hk hv h2 h1
    · rw [gt_f h2]
      exact h
theorem Inv.to {M : AM} (h : Inv M) (key : Nat) : Inv (toM M key) := by
  unfold toM
  by_cases h1 : has M key
  · rw [gt_t h1]
    exact h.out h1.1
  · rw [gt_f h1]
    exact h
section OP
variable {σ : Hp} {j mb : Nat} {M : AM}
theorem ev_pl (hI : isI σ j M) (hV : Inv M) {key v : Nat} (hk : key < 100) (hv : v < 1000000) : Ev 11 [rI j, .inl (nI key), .inl (nI v)] σ (fun r σ' => r = some (.inl (ifI (can M key))) ∧ isI σ' j (plM M key v) ∧ frI j σ σ') := by
  refine (ev_place hI hV.1 hV.low hk hv).mono ?_
  unfold plM ifI can
  rintro r σ' (⟨h1, h2, rfl, rfl⟩ | ⟨h1, rfl, h3, h4⟩ | ⟨h1, h2, rfl, h3, h4⟩)
  · rw [gt_f (fun q => q.elim (fun e => by omega) h1), gt_f h1, gt_f (by omega)]
    exact ⟨rfl, hI, frI.rf _ _⟩
  · rw [gt_t (Or.inr h1), gt_t h1]
    exact ⟨rfl, h3, h4⟩
  · rw [gt_t (Or.inl h2), gt_f h1, gt_t h2]
    exact ⟨rfl, h3, h4⟩
theorem ev_to (hI : isI σ j M) (hV : Inv M) {key : Nat} (hk : key < 100) : Ev 19 [rI j, .inl (nI key)] σ (fun r σ' => r = some (.inl (ifI (has M key))) ∧ isI σ' j (toM M key) ∧ frI j σ σ') := by
  refine (ev_takeOut hI hV.1 hV.low hk).mono ?_
  unfold toM ifI
  rintro r σ' (⟨h1, rfl, rfl⟩ | ⟨h1, rfl, h3, h4⟩)
  · rw [gt_f h1, gt_f h1]
    exact ⟨rfl, hI, frI.rf _ _⟩
  · rw [gt_t h1, gt_t h1]
    exact ⟨rfl, h3, h4⟩
theorem ev_ppl_21 (hI : isP σ 21 mb M) (hV : Inv M) (hm : mb + 121 ≤ 242) {key v : Nat} (hk : key < 100) : Ev 102 [rMo, rP 21, .inl (nI mb), .inl (nI key), .inl (nI v)] σ (fun r σ' => r = some (.inl (ifI (can M key))) ∧ isP σ' 21 mb (plM M key v) ∧ frP 21 mb σ σ') := by
  refine (ev_goPut_21 hI hV.1 hV.low hm hk).mono ?_
  unfold plM ifI can
  rintro r σ' (⟨h1, h2, rfl, rfl⟩ | ⟨h1, rfl, h3, h4⟩ | ⟨h1, h2, rfl, h3, h4⟩)
  · rw [gt_f (fun q => q.elim (fun e => by omega) h1), gt_f h1, gt_f (by omega)]
    exact ⟨rfl, hI, frP.rf _ _ _⟩
  · rw [gt_t (Or.inr h1), gt_t h1]
    exact ⟨rfl, h3, h4⟩
  · rw [gt_t (Or.inl h2), gt_f h1, gt_t h2]
    exact ⟨rfl, h3, h4⟩
theorem ev_ppl_22 (hI : isP σ 22 mb M) (hV : Inv M) (hm : mb + 121 ≤ 242) {key v : Nat} (hk : key < 100) : Ev 102 [rMo, rP 22, .inl (nI mb), .inl (nI key), .inl (nI v)] σ (fun r σ' => r = some (.inl (ifI (can M key))) ∧ isP σ' 22 mb (plM M key v) ∧ frP 22 mb σ σ') := by
  refine (ev_goPut_22 hI hV.1 hV.low hm hk).mono ?_
  unfold plM ifI can
  rintro r σ' (⟨h1, h2, rfl, rfl⟩ | ⟨h1, rfl, h3, h4⟩ | ⟨h1, h2, rfl, h3, h4⟩)
  · rw [gt_f (fun q => q.elim (fun e => by omega) h1), gt_f h1, gt_f (by omega)]
    exact ⟨rfl, hI, frP.rf _ _ _⟩
  · rw [gt_t (Or.inr h1), gt_t h1]
    exact ⟨rfl, h3, h4⟩
  · rw [gt_t (Or.inl h2), gt_f h1, gt_t h2]
    exact ⟨rfl, h3, h4⟩
theorem no9 {n : Nat} (hn : n < 2147483648) : ¬ nI n = -9 := fun e => by
  have h1 := congrArg Int32.toInt e
  rw [nI_toInt (by omega)] at h1
  have h2 : (-9 : Int32).toInt = -9 := rfl
  omega
theorem ev_removes (hI : isP σ 22 mb M) (hV : Inv M) (hm : mb + 121 ≤ 242) {key : Nat} (hk : key < 100) : Ev 136 [rMo, .inl (nI mb), .inl (nI key)] σ (fun r σ' => r = some (.inl (ifI (has M key))) ∧ isP σ' 22 mb (toM M key) ∧ frP 22 mb σ σ') := by
  have hn := hV.1.1
  unfold toM ifI
  refine G_call rfl (ev_find_22 hI hV.1 hm (key := key) (by omega)) ?_
  rintro r1 σ1 ⟨rfl, ⟨hh, rfl⟩ | ⟨hh, rfl⟩⟩
  · have hlt := hh.1
    rw [gt_t hh, gt_t hh]
    refine G_if rfl (fun q => absurd q (no9 (by omega))) (fun q => ?_)
    refine G_call rfl (ev_goRemove_22 hI hV hm hlt) ?_
    rintro r1 σ2 ⟨rfl, f2, i2⟩
    refine G_if rfl (fun q => absurd q (no9 (by omega))) (fun q => ?_)
    exact G_retZ rfl (Or.inr rfl) ⟨rfl, i2, f2⟩
  · rw [gt_f hh, gt_f hh]
    refine G_if rfl (fun q => ?_) (fun q => absurd rfl q)
    refine G_if rfl (fun q => ?_) (fun q => absurd rfl q)
    exact G_retZ rfl (Or.inl rfl) ⟨rfl, hI, frP.rf _ _ _⟩
end OP
def upB (B : BM) (m : Nat) (M : AM) : BM := match m with
  | 0 => (M, B.2)
  | _ => (B.1, M)
theorem isB.up {σ σ' : Hp} {b m : Nat} {B : BM} {M : AM} (hB : isB σ b B) (hm : m < 2) (hI : isI σ' (2 * b + m) M) (hf : frI (2 * b + m) σ σ') : isB σ' b (upB B m M) := by
  match m, hm with
  | 0, _ => exact ⟨hI, hf.is (by omega) hB.2⟩
  | 1, _ => exact ⟨hf.is (by omega) hB.1, hI⟩
theorem isPB.up {σ σ' : Hp} {P mb m : Nat} {B : BM} {M : AM} (hB : isPB σ P mb B) (hs : szB B) (hm : m < 2) (hI : isP σ' P (mb + 121 * m) M) (hf : frP P (mb + 121 * m) σ σ') : isPB σ' P mb (upB B m M) := by
  match m, hm with
  | 0, _ => exact ⟨hI, hf.is (by omega) hs.2 hB.2⟩
  | 1, _ => exact ⟨hf.is (by omega) hs.1 hB.1, hI⟩
theorem InvB.up {B : BM} {m : Nat} {M : AM} (hB : InvB B) (hm : m < 2) (hV : Inv M) : InvB (upB B m M) := by
  match m, hm with
  | 0, _ => exact ⟨hV, hB.2⟩
  | 1, _ => exact ⟨hB.1, hV⟩
theorem mp_up {B : BM} {m : Nat} {M : AM} (hm : m < 2) : mp (upB B m M) m = M := by
  match m, hm with
  | 0, _ => rfl
  | 1, _ => rfl
theorem MS.now {σ σ' : Hp} {S : SS} {B : BM} {mb : Nat} (h : MS σ S) (hf : frP 21 mb σ σ') (hB : isPB σ' 21 0 B) : MS σ' (B, S.2) := by
  have e : ∀ k, k ≠ 6 → k ≠ 21 → σ'.1 k = σ.1 k := fun k q1 q2 => funext (fun i => hf.1 k i q1 (fun q => q2 q.1))
  refine ⟨hB, ?_⟩
  have h := h.2
  unfold mAct mSlt mTxt mSgt isPB isP at h ⊢
  rw [hf.2.1 11 (by decide), hf.2.1 2 (by decide), hf.2.1 14 (by decide), e 18 (by decide) (by decide), e 23 (by decide) (by decide), e 24 (by decide) (by decide), e 25 (by decide) (by decide), e 26 (by decide) (by decide), e 27 (by decide) (by decide), e 28 (by decide) (by decide), hf.2.2.1]
  exact h
def okVl (v : Int32) : Prop := ∃ k, k ≤ 999999 ∧ v = nI k
noncomputable def fPut (S : SS) (x k v : Int32) : Int32 := gt (okM x ∧ okK k) (gt (okVl v) (gt (can (mp S.1 x.toNatClampNeg) k.toNatClampNeg) (nI (plM (mp S.1 x.toNatClampNeg) k.toNatClampNeg v.toNatClampNeg).1) (-4)) (-2)) (-1)
noncomputable def nPut (S : SS) (x k v : Int32) : SS := gt (okM x ∧ okK k) (gt (okVl v) (gt (can (mp S.1 x.toNatClampNeg) k.toNatClampNeg) (upB S.1 x.toNatClampNeg (plM (mp S.1 x.toNatClampNeg) k.toNatClampNeg v.toNatClampNeg), pushH S.2.1 S.1, S.2.2) S) S) S
noncomputable def fRem (S : SS) (x k : Int32) : Int32 := gt (okM x ∧ okK k) (gt (has (mp S.1 x.toNatClampNeg) k.toNatClampNeg) (nI ((mp S.1 x.toNatClampNeg).2.2.1 (les (mp S.1 x.toNatClampNeg) k.toNatClampNeg))) (-3)) (-1)
noncomputable def nRem (S : SS) (x k : Int32) : SS := gt (okM x ∧ okK k) (gt (has (mp S.1 x.toNatClampNeg) k.toNatClampNeg) (upB S.1 x.toNatClampNeg (toM (mp S.1 x.toNatClampNeg) k.toNatClampNeg), pushH S.2.1 S.1, S.2.2) S) S
theorem SI.put {S : SS} (hS : SI S) (x k v : Int32) : SI (nPut S x k v) := by
  unfold nPut
  by_cases h : okM x ∧ okK k
  · rw [gt_t h]
    by_cases h2 : okVl v
    · rw [gt_t h2]
      by_cases h3 : can (mp S.1 x.toNatClampNeg) k.toNatClampNeg
      · rw [gt_t h3]
        obtain ⟨h0, key, hk, rfl⟩ := h
        obtain ⟨m, hm, rfl⟩ := okM_nat h0
        obtain ⟨w, hw, rfl⟩ := h2
        rw [nI_clamp (by omega), nI_clamp (by omega), nI_clamp (by omega)]
        exact hS.push.now (hS.1.up hm ((hS.1.at hm).pl hk (by omega)))
      · rw [gt_f h3]; exact hS
    · rw [gt_f h2]; exact hS
  · rw [gt_f h]; exact hS
theorem SI.rem {S : SS} (hS : SI S) (x k : Int32) : SI (nRem S x k) := by
  unfold nRem
  by_cases h : okM x ∧ okK k
  · rw [gt_t h]
    by_cases h3 : has (mp S.1 x.toNatClampNeg) k.toNatClampNeg
    · rw [gt_t h3]
      obtain ⟨h0, key, hk, rfl⟩ := h
      obtain ⟨m, hm, rfl⟩ := okM_nat h0
      rw [nI_clamp (by omega), nI_clamp (by omega)]
      exact hS.push.now (hS.1.up hm ((hS.1.at hm).to key))
    · rw [gt_f h3]; exact hS
  · rw [gt_f h]; exact hS
