/-! Public calls, first lot: what only reads. -/
def CSpec (y : Nat) (vs : List PV) (S : SS) (r : PV) (S' : SS) : Prop := ∀ σ, CS σ S → Ev y (rT :: vs) σ (fun q σ' => q = some r ∧ CS σ' S' ∧ mEq σ σ')
def MSpec (y : Nat) (vs : List PV) (S : SS) (r : PV) (S' : SS) : Prop := ∀ σ, MS σ S → Ev y (rMo :: vs) σ (fun q σ' => q = some r ∧ MS σ' S' ∧ cEq σ σ')
noncomputable def gt {α : Type} (P : Prop) (a b : α) : α := @ite _ P (Classical.propDecidable P) a b
theorem gt_t {α : Type} {P : Prop} {a b : α} (h : P) : gt P a b = a := by
  unfold gt
  exact if_pos h
theorem gt_f {α : Type} {P : Prop} {a b : α} (h : ¬ P) : gt P a b = b := by
  unfold gt
  exact if_neg h
def okM (x : Int32) : Prop := x = 0 ∨ x = 1
theorem MS.scr {σ σ' : Hp} {S : SS} (h : MS σ S) (hf : frS σ σ') : MS σ' S := by
  have e : ∀ k, k ≠ 6 → σ'.1 k = σ.1 k := fun k q => funext (fun i => hf.1 k i q)
  unfold MS mAct mSlt mTxt mSgt isPB isP at h ⊢
  rw [hf.2.1 11 (by decide), hf.2.1 2 (by decide), hf.2.1 14 (by decide), e 18 (by decide), e 21 (by decide), e 23 (by decide), e 24 (by decide), e 25 (by decide), e 26 (by decide), e 27 (by decide), e 28 (by decide), hf.2.2]
  exact h
theorem frS.th (σ : Hp) : frS σ (hset σ.1 6 0 0 0, σ.2) := (frS.rf σ).st (by decide)
theorem mb121 (m : Nat) : (121 : Int32) * nI m = nI (0 + 121 * m) := by
  rw [show (121 : Int32) = nI 121 from rfl, pk_mul, Nat.zero_add]
noncomputable def fRank (S : SS) (x k : Int32) : Int32 := gt (okM x ∧ okK k) (nI (les (mp S.1 x.toNatClampNeg) k.toNatClampNeg)) (-1)
noncomputable def fGet (S : SS) (x k : Int32) : Int32 := gt (okM x ∧ okK k) (gt (has (mp S.1 x.toNatClampNeg) k.toNatClampNeg) (nI ((mp S.1 x.toNatClampNeg).2.2.1 (les (mp S.1 x.toNatClampNeg) k.toNatClampNeg))) (-9)) (-1)
noncomputable def fLooks (S : SS) (x k : Int32) : Int32 := gt (okM x ∧ okK k) (nI (looksF (mp S.1 x.toNatClampNeg) k.toNatClampNeg).2) (-1)
noncomputable def fSum (S : SS) (x a b : Int32) : Int32 := gt (okM x ∧ okK a ∧ okK b) (gt (a ≤ b) (nI (vwF (mp S.1 x.toNatClampNeg).2.1 (mp S.1 x.toNatClampNeg).2.2.1 a.toNatClampNeg b.toNatClampNeg (mp S.1 x.toNatClampNeg).1 0 0)) (-2)) (-1)
theorem c_rank {S : SS} (hS : SI S) (x k : Int32) : CSpec 56 [.inl x, .inl k] S (.inl (fRank S x k)) S := by
  intro σ hC
  unfold fRank
  refine G_call rfl (ev_isMap x σ) ?_
  rintro r1 σ1 ⟨rfl, ⟨h1, rfl⟩ | ⟨h1, rfl⟩⟩
  · refine G_if rfl (fun q => ?_) (fun q => ?_)
    · exact absurd q (by decide)
    · refine G_call rfl (ev_isKey k σ1) ?_
      rintro r1 σ2 ⟨rfl, ⟨h2, rfl⟩ | ⟨h2, rfl⟩⟩
      · refine G_if rfl (fun q => ?_) (fun q => ?_)
        · rw [gt_t ⟨h1, h2⟩]
          obtain ⟨m, hm, rfl⟩ := okM_nat h1
          obtain ⟨key, hk, rfl⟩ := h2
          have hI := hC.1.at hm
          have hV := hS.1.at hm
          rw [nI_clamp (by omega), nI_clamp (by omega)]
          refine G_call rfl (ev_of 0 hm σ2) ?_
          rintro r1 σ3 ⟨rfl, rfl⟩
          refine G_call rfl (ev_lesser hI hV.1 (by omega)) ?_
          rintro r1 σ4 ⟨rfl, rfl⟩
          exact G_ret rfl ⟨rfl, hC, mEq.rf _⟩
        · exact absurd (by decide) q
      · refine G_if rfl (fun q => ?_) (fun q => ?_)
        · exact absurd rfl q
        · rw [gt_f (fun q => h2 q.2)]
          exact G_ret rfl ⟨rfl, hC, mEq.rf _⟩
  · refine G_if rfl (fun q => ?_) (fun q => ?_)
    · rw [gt_f (fun q => h1 q.1)]
      exact G_ret rfl ⟨rfl, hC, mEq.rf _⟩
    · exact absurd rfl q
theorem c_looks {S : SS} (hS : SI S) (x k : Int32) : CSpec 58 [.inl x, .inl k] S (.inl (fLooks S x k)) S := by
  intro σ hC
  unfold fLooks
  refine G_call rfl (ev_isMap x σ) ?_
  rintro r1 σ1 ⟨rfl, ⟨h1, rfl⟩ | ⟨h1, rfl⟩⟩
  · refine G_if rfl (fun q => ?_) (fun q => ?_)
    · exact absurd q (by decide)
    · refine G_call rfl (ev_isKey k σ1) ?_
      rintro r1 σ2 ⟨rfl, ⟨h2, rfl⟩ | ⟨h2, rfl⟩⟩
      · refine G_if rfl (fun q => ?_) (fun q => ?_)
        · rw [gt_t ⟨h1, h2⟩]
          obtain ⟨m, hm, rfl⟩ := okM_nat h1
          obtain ⟨key, hk, rfl⟩ := h2
          have hI := hC.1.at hm
          have hV := hS.1.at hm
          rw [nI_clamp (by omega), nI_clamp (by omega)]
          refine G_call rfl (ev_of 0 hm σ2) ?_
          rintro r1 σ3 ⟨rfl, rfl⟩
          refine G_call rfl (ev_looksFor hI hV.1 hk) ?_
          rintro r1 σ4 ⟨rfl, rfl⟩
          exact G_ret rfl ⟨rfl, hC, mEq.rf _⟩
        · exact absurd (by decide) q
      · refine G_if rfl (fun q => ?_) (fun q => ?_)
        · exact absurd rfl q
        · rw [gt_f (fun q => h2 q.2)]
          exact G_ret rfl ⟨rfl, hC, mEq.rf _⟩
  · refine G_if rfl (fun q => ?_) (fun q => ?_)
    · rw [gt_f (fun q => h1 q.1)]
      exact G_ret rfl ⟨rfl, hC, mEq.rf _⟩
    · exact absurd rfl q
theorem c_get {S : SS} (hS : SI S) (x k : Int32) : CSpec 54 [.inl x, .inl k] S (.inl (fGet S x k)) S := by
  intro σ hC
  unfold fGet
  refine G_call rfl (ev_isMap x σ) ?_
  rintro r1 σ1 ⟨rfl, ⟨h1, rfl⟩ | ⟨h1, rfl⟩⟩
  · refine G_if rfl (fun q => ?_) (fun q => ?_)
    · exact absurd q (by decide)
    · refine G_call rfl (ev_isKey k σ1) ?_
      rintro r1 σ2 ⟨rfl, ⟨h2, rfl⟩ | ⟨h2, rfl⟩⟩
      · refine G_if rfl (fun q => ?_) (fun q => ?_)
        · rw [gt_t ⟨h1, h2⟩]
          obtain ⟨m, hm, rfl⟩ := okM_nat h1
          obtain ⟨key, hk, rfl⟩ := h2
          have hI := hC.1.at hm
          have hV := hS.1.at hm
          have hn := hV.1.1
          rw [nI_clamp (by omega), nI_clamp (by omega)]
          refine G_call rfl (ev_of 0 hm σ2) ?_
          rintro r1 σ3 ⟨rfl, rfl⟩
          refine G_call rfl (ev_indexOf hI hV.1 (by omega)) ?_
          rintro r1 σ4 ⟨rfl, ⟨hh, rfl⟩ | ⟨hh, rfl⟩⟩
          · have hlt := hh.1
            rw [gt_t hh]
            refine G_if rfl (fun q2 => ?_) (fun q2 => ?_)
            · refine G_ald rfl (les (mp S.1 m) key) rfl (by omega) (by decide) ?_
              rw [show (2 * 0 + m) = 2 * 0 + m from rfl, (hI.2 _ hlt).2.1]
              exact G_ret rfl ⟨rfl, hC, mEq.rf _⟩
            · exact absurd (nI_pos' (by omega)) q2
          · rw [gt_f hh]
            refine G_if rfl (fun q2 => ?_) (fun q2 => ?_)
            · exact absurd q2 (by decide)
            · exact G_ret rfl ⟨rfl, hC, mEq.rf _⟩
        · exact absurd (by decide) q
      · refine G_if rfl (fun q => ?_) (fun q => ?_)
        · exact absurd rfl q
        · rw [gt_f (fun q => h2 q.2)]
          exact G_ret rfl ⟨rfl, hC, mEq.rf _⟩
  · refine G_if rfl (fun q => ?_) (fun q => ?_)
    · rw [gt_f (fun q => h1 q.1)]
      exact G_ret rfl ⟨rfl, hC, mEq.rf _⟩
    · exact absurd rfl q
theorem c_sum {S : SS} (hS : SI S) (x a b : Int32) : CSpec 59 [.inl x, .inl a, .inl b] S (.inl (fSum S x a b)) S := by
  intro σ hC
  unfold fSum
  refine G_call rfl (ev_isMap x σ) ?_
  rintro r1 σ1 ⟨rfl, ⟨h1, rfl⟩ | ⟨h1, rfl⟩⟩
  · refine G_if rfl (fun q => ?_) (fun q => ?_)
    · exact absurd q (by decide)
    · refine G_call rfl (ev_isKey a σ1) ?_
      rintro r1 σ2 ⟨rfl, ⟨h2, rfl⟩ | ⟨h2, rfl⟩⟩
      · refine G_if rfl (fun q => ?_) (fun q => ?_)
        · exact absurd q (by decide)
        · refine G_call rfl (ev_isKey b σ2) ?_
          rintro r1 σ3 ⟨rfl, ⟨h3, rfl⟩ | ⟨h3, rfl⟩⟩
          · refine G_if rfl (fun q => ?_) (fun q => ?_)
            · rw [gt_t ⟨h1, h2, h3⟩]
              refine G_if rfl (fun q2 => ?_) (fun q2 => ?_)
              · rw [gt_t q2]
                obtain ⟨m, hm, rfl⟩ := okM_nat h1
                obtain ⟨ka, hka, rfl⟩ := h2
                obtain ⟨kb, hkb, rfl⟩ := h3
                have hI := hC.1.at hm
                have hV := hS.1.at hm
                rw [nI_clamp (by omega), nI_clamp (by omega), nI_clamp (by omega)]
                refine G_call rfl (ev_of 0 hm σ3) ?_
                rintro r1 σ4 ⟨rfl, rfl⟩
                refine G_call rfl (ev_valuesWithin hI hV.1 hka hkb) ?_
                rintro r1 σ5 ⟨rfl, rfl⟩
                exact G_ret rfl ⟨rfl, hC, mEq.rf _⟩
              · rw [gt_f q2]
                exact G_ret rfl ⟨rfl, hC, mEq.rf _⟩
            · exact absurd (by decide) q
          · refine G_if rfl (fun q => ?_) (fun q => ?_)
            · exact absurd rfl q
            · rw [gt_f (fun q => h3 q.2.2)]
              exact G_ret rfl ⟨rfl, hC, mEq.rf _⟩
      · refine G_if rfl (fun q => ?_) (fun q => ?_)
        · rw [gt_f (fun q => h2 q.2.1)]
          exact G_ret rfl ⟨rfl, hC, mEq.rf _⟩
        · exact absurd rfl q
  · refine G_if rfl (fun q => ?_) (fun q => ?_)
    · rw [gt_f (fun q => h1 q.1)]
      exact G_ret rfl ⟨rfl, hC, mEq.rf _⟩
    · exact absurd rfl q
theorem m_rank {S : SS} (hS : SI S) (x k : Int32) : MSpec 124 [.inl x, .inl k] S (.inl (fRank S x k)) S := by
  intro σ hM
  unfold fRank
  have hM0 := hM.scr (frS.th σ)
  have hc0 := (frS.th σ).c
  refine G_call rfl (ev_noMap x _) ?_
  rintro r1 σ1 ⟨rfl, ⟨a1, a2, rfl⟩ | ⟨h1, rfl⟩⟩
  · have h1 : okM x := i01'.mp ⟨a1, a2⟩
    refine G_if rfl (fun q => ?_) (fun q => ?_)
    · exact absurd rfl q
    · refine G_call rfl (ev_noKey k _) ?_
      rintro r1 σ2 ⟨rfl, ⟨b1, b2, rfl⟩ | ⟨h2, rfl⟩⟩
      · have h2 : okK k := i100'.mp ⟨b1, b2⟩
        refine G_if rfl (fun q => ?_) (fun q => ?_)
        · rw [gt_t ⟨h1, h2⟩]
          obtain ⟨m, hm, rfl⟩ := okM_nat h1
          obtain ⟨key, hk, rfl⟩ := h2
          have hI := hM0.1.at hm
          have hV := hS.1.at hm
          rw [nI_clamp (by omega), nI_clamp (by omega)]
          refine G_callv rfl (by rw [mb121]) (ev_plesser_21 hI hV.1 (by omega) (by omega)) ?_
          rintro r1 σ4 ⟨rfl, rfl⟩
          exact G_ret rfl ⟨rfl, hM0, hc0⟩
        · exact absurd rfl q
      · refine G_if rfl (fun q => ?_) (fun q => ?_)
        · exact absurd q (by decide)
        · rw [gt_f (fun q => h2 (i100'.mpr q.2))]
          exact G_ret rfl ⟨rfl, hM0, hc0⟩
  · refine G_if rfl (fun q => ?_) (fun q => ?_)
    · rw [gt_f (fun q => h1 (i01'.mpr q.1))]
      exact G_ret rfl ⟨rfl, hM0, hc0⟩
    · exact absurd (by decide) q
