/-! cut: the calls. Laid by wip/whole/mk51.py. -/
def frG (σ σ' : Hp) : Prop := (∀ k i, k ≠ 6 → k ≠ 21 → σ'.1 k i = σ.1 k i) ∧ (∀ s, s = 2 ∨ s = 11 ∨ s = 14 ∨ 23 ≤ s → σ'.1 6 0 s = σ.1 6 0 s) ∧ σ'.2 = σ.2
theorem frG.rf (σ : Hp) : frG σ σ := ⟨fun _ _ _ _ => rfl, fun _ _ => rfl, rfl⟩
theorem frG.tr {σ σ1 σ2 : Hp} (h : frG σ σ1) (h2 : frG σ1 σ2) : frG σ σ2 := ⟨fun k i q1 q2 => (h2.1 k i q1 q2).trans (h.1 k i q1 q2), fun s q => (h2.2.1 s q).trans (h.2.1 s q), h2.2.2.trans h.2.2⟩
theorem frP.g {mb : Nat} {σ σ' : Hp} (h : frP 21 mb σ σ') : frG σ σ' := ⟨fun k i q1 q2 => h.1 k i q1 (fun e => q2 e.1), h.2.1, h.2.2.1⟩
theorem frG.c {σ σ' : Hp} (h : frG σ σ') : cEq σ σ' := ⟨fun k q => funext (fun i => h.1 k i (by omega) (by omega)), by rw [h.2.2], by rw [h.2.2]⟩
theorem MS.nowG {σ σ' : Hp} {S : SS} {B : BM} (h : MS σ S) (hf : frG σ σ') (hB : isPB σ' 21 0 B) : MS σ' (B, S.2) := by
  have e : ∀ k, k ≠ 6 → k ≠ 21 → σ'.1 k = σ.1 k := fun k q1 q2 => funext (fun i => hf.1 k i q1 q2)
  refine ⟨hB, ?_⟩
  have h := h.2
  unfold mAct mSlt mTxt mSgt isPB isP at h ⊢
  rw [hf.2.1 11 (by decide), hf.2.1 2 (by decide), hf.2.1 14 (by decide), e 18 (by decide) (by decide), e 23 (by decide) (by decide), e 24 (by decide) (by decide), e 25 (by decide) (by decide), e 26 (by decide) (by decide), e 27 (by decide) (by decide), e 28 (by decide) (by decide), hf.2.2]
  exact h
theorem c_cut {S : SS} (hS : SI S) (x a b : Int32) : CSpec 50 [.inl x, .inl a, .inl b] S (.inl (fCut S x a b)) (nCut S x a b) := by
  intro σ hC
  unfold fCut nCut
  refine G_call rfl (ev_isMap x _) ?_
  rintro r1 σ1 ⟨rfl, ⟨h1, rfl⟩ | ⟨h1, rfl⟩⟩
  · refine G_if rfl (fun q => ?_) (fun q => ?_)
    · exact absurd q (by decide)
    · refine G_call rfl (ev_isKey a _) ?_
      rintro r1 σ2 ⟨rfl, ⟨h2, rfl⟩ | ⟨h2, rfl⟩⟩
      · refine G_if rfl (fun q => ?_) (fun q => ?_)
        · exact absurd q (by decide)
        · refine G_call rfl (ev_isKey b _) ?_
          rintro r1 σ3 ⟨rfl, ⟨h3, rfl⟩ | ⟨h3, rfl⟩⟩
          · refine G_if rfl (fun q => ?_) (fun q => ?_)
            · have hg : okM x ∧ okK a ∧ okK b := ⟨h1, h2, h3⟩
              rw [gt_t hg, gt_t hg]
              refine G_if rfl (fun q1 => ?_) (fun q1 => ?_)
              · rw [gt_t q1, gt_t q1]
                obtain ⟨m, hm, rfl⟩ := okM_nat h1
                obtain ⟨ka, hka, rfl⟩ := h2
                obtain ⟨kb, hkb, rfl⟩ := h3
                have q1 := ile q1 (by omega) (by omega)
                rw [nI_clamp (by omega), nI_clamp (by omega), nI_clamp (by omega)]
                unfold fCutN nCutN
                have hm2 : 1 - m < 2 := by omega
                have hI := hC.1.at hm
                have hI2 := hC.1.at hm2
                have hV := hS.1.at hm
                have hV2 := hS.1.at hm2
                have hn := hV.1.1
                have hn2 := hV2.1.1
                have hnw := nwF_le (mp S.1 (1 - m)) (mp S.1 m).2.1 ka kb (mp S.1 m).1 0 0
                refine G_call rfl (ev_of 0 hm σ3) ?_
                rintro r1 σ4 ⟨rfl, rfl⟩
                refine G_callv rfl (by rw [show (1 : Int32) = nI 1 from rfl, pk_sub (by omega)]) (ev_of 0 hm2 σ4) ?_
                rintro r1 σ5 ⟨rfl, rfl⟩
                refine G_call rfl (ev_newTo hI hV.1 hI2 hV2.1 hka hkb) ?_
                rintro r1 σ6 ⟨rfl, rfl⟩
                refine G_if rfl (fun q3 => ?_) (fun q3 => ?_)
                · rw [hI2.1, nI_add] at q3
                  have q3 : roomF (mp S.1 m) (mp S.1 (1 - m)) ka kb ≤ 40 := by
                    have q3 := ile (b := 40) q3 (by omega) (by decide)
                    exact q3
                  rw [gt_t q3, gt_t q3]
                  refine G_call rfl (ev_remember hC hS) ?_
                  rintro r1 σ7 ⟨rfl, hC7, m7⟩
                  refine G_call rfl (ev_moveTo (by omega) (by omega) (hC7.1.at hm) hV (hC7.1.at hm2) hV2 hkb q1) ?_
                  rintro r1 σ8 ⟨rfl, i8, j8, f8⟩
                  exact G_ret rfl ⟨rfl, hC7.now f8 (isB.cut hm i8 j8), m7.tr f8.m⟩
                · rw [hI2.1, nI_add] at q3
                  have q3 : ¬ roomF (mp S.1 m) (mp S.1 (1 - m)) ka kb ≤ 40 := fun e => q3 (nI_le (b := 40) e (by decide))
                  rw [gt_f q3, gt_f q3]
                  exact G_ret rfl ⟨rfl, hC, mEq.rf _⟩
              · rw [gt_f q1, gt_f q1]
                exact G_ret rfl ⟨rfl, hC, mEq.rf _⟩
            · exact absurd (by decide) q
          · refine G_if rfl (fun q => ?_) (fun q => ?_)
            · exact absurd rfl q
            · have hg : ¬ (okM x ∧ okK a ∧ okK b) := fun q => h3 q.2.2
              rw [gt_f hg, gt_f hg]
              exact G_ret rfl ⟨rfl, hC, mEq.rf _⟩
      · refine G_if rfl (fun q => ?_) (fun q => ?_)
        · have hg : ¬ (okM x ∧ okK a ∧ okK b) := fun q => h2 q.2.1
          rw [gt_f hg, gt_f hg]
          exact G_ret rfl ⟨rfl, hC, mEq.rf _⟩
        · exact absurd rfl q
  · refine G_if rfl (fun q => ?_) (fun q => ?_)
    · have hg : ¬ (okM x ∧ okK a ∧ okK b) := fun q => h1 q.1
      rw [gt_f hg, gt_f hg]
      exact G_ret rfl ⟨rfl, hC, mEq.rf _⟩
    · exact absurd rfl q
theorem m_cut {S : SS} (hS : SI S) (x a b : Int32) : MSpec 113 [.inl x, .inl a, .inl b] S (.inl (fCut S x a b)) (nCut S x a b) := by
  intro σ hM
  unfold fCut nCut
  have hM0 := hM.scr (frS.th σ)
  have hc0 := (frS.th σ).c
  refine G_call rfl (ev_noMap x _) ?_
  rintro r1 σ1 ⟨rfl, ⟨a1, a2, rfl⟩ | ⟨h1, rfl⟩⟩
  · have h1 : okM x := i01'.mp ⟨a1, a2⟩
    refine G_if rfl (fun q => ?_) (fun q => ?_)
    · exact absurd rfl q
    · refine G_call rfl (ev_noKey a _) ?_
      rintro r1 σ2 ⟨rfl, ⟨a1, a2, rfl⟩ | ⟨h2, rfl⟩⟩
      · have h2 : okK a := i100'.mp ⟨a1, a2⟩
        refine G_if rfl (fun q => ?_) (fun q => ?_)
        · exact absurd rfl q
        · refine G_call rfl (ev_noKey b _) ?_
          rintro r1 σ3 ⟨rfl, ⟨a1, a2, rfl⟩ | ⟨h3, rfl⟩⟩
          · have h3 : okK b := i100'.mp ⟨a1, a2⟩
            refine G_if rfl (fun q => ?_) (fun q => ?_)
            · have hg : okM x ∧ okK a ∧ okK b := ⟨h1, h2, h3⟩
              rw [gt_t hg, gt_t hg]
              refine G_if rfl (fun q1 => ?_) (fun q1 => ?_)
              · rw [gt_t q1, gt_t q1]
                obtain ⟨m, hm, rfl⟩ := okM_nat h1
                obtain ⟨ka, hka, rfl⟩ := h2
                obtain ⟨kb, hkb, rfl⟩ := h3
                have q1 := ile q1 (by omega) (by omega)
                rw [nI_clamp (by omega), nI_clamp (by omega), nI_clamp (by omega)]
                unfold fCutN nCutN
                have hm2 : 1 - m < 2 := by omega
                have hI := hM0.1.at hm
                have hI2 := hM0.1.at hm2
                have hV := hS.1.at hm
                have hV2 := hS.1.at hm2
                have hn := hV.1.1
                have hn2 := hV2.1.1
                have hnw := nwF_le (mp S.1 (1 - m)) (mp S.1 m).2.1 ka kb (mp S.1 m).1 0 0
                have e4 : (121 : Int32) * nI m = nI (0 + 121 * m) := mb121 m
                have e5 : (121 : Int32) - nI (0 + 121 * m) = nI (0 + 121 * (1 - m)) := by
                  rw [show (121 : Int32) = nI 121 from rfl, pk_sub (by omega)]
                  congr 1
                  omega
                refine G_ald rfl (0 + 121 * (1 - m)) (by rw [e4, e5]) (by omega) (by decide) ?_
                rw [e4, e5]
                refine G_call rfl (ev_inRangeT hI hV.1 (by omega) hI2 hV2.1 (by omega) hka hkb) ?_
                rintro r1 σ6 ⟨rfl, rfl⟩
                refine G_if rfl (fun q3 => ?_) (fun q3 => ?_)
                · rw [hI2.1, nI_add] at q3
                  have q3 : roomF (mp S.1 m) (mp S.1 (1 - m)) ka kb ≤ 40 := by
                    have q3 := ile (b := 40) q3 (by omega) (by decide)
                    exact q3
                  rw [gt_t q3, gt_t q3]
                  refine G_call rfl (ev_note hM0 hS) ?_
                  rintro r1 σ7 ⟨rfl, hM7, m7⟩
                  refine G_call rfl (ev_inRangeF (hM7.1.at hm) hV.1 (by omega) hka hkb q1) ?_
                  rintro r1 σ8 ⟨rfl, rfl⟩
                  have loop : ∀ (n key : Nat) (Mc M2c : AM) (σc : Hp) (x6 x7 : Int32) (l8 : Option PV), x7 = nI key → key + n = kb + 1 → isP σc 21 (0 + 121 * m) Mc → Inv Mc → isP σc 21 (0 + 121 * (1 - m)) M2c → Inv M2c → frG σ8 σc → RR 113 96 [some rMo, some (.inl (nI m)), some (.inl (nI ka)), some (.inl (nI kb)), some (.inl (nI (0 + 121 * m))), some (.inl (nI (0 + 121 * (1 - m)))), some (.inl x6), some (.inl x7), l8] [] σc (fun r σ' => r = some (.inl x6) ∧ isP σ' 21 (0 + 121 * m) (mvF n key Mc M2c).1 ∧ isP σ' 21 (0 + 121 * (1 - m)) (mvF n key Mc M2c).2 ∧ frG σ8 σ') := by
                    intro n
                    induction n with
                    | zero =>
                      intro key Mc M2c σc x6 x7 l8 hx7 hk i1 v1 i2 v2 f1
                      refine G_if rfl (fun q => ?_) (fun q => ?_)
                      · exact G_ret rfl ⟨rfl, i1, i2, f1⟩
                      · rw [hx7] at q
                        have := nlt q (by omega) (by omega)
                        omega
                    | succ n ih =>
                      intro key Mc M2c σc x6 x7 l8 hx7 hk i1 v1 i2 v2 f1
                      have hnc := v1.1.1
                      have hnc2 := v2.1.1
                      refine G_if rfl (fun q => ?_) (fun q => ?_)
                      · rw [hx7] at q
                        have := ilt q (by omega) (by omega)
                        omega
                      · refine G_callv rfl (by rw [hx7]) (ev_find_21 i1 v1.1 (by omega) (key := key) (by omega)) ?_
                        rintro r1 σ9 ⟨rfl, ⟨hh, rfl⟩ | ⟨hh, rfl⟩⟩
                        · have hlt := hh.1
                          refine G_if rfl (fun q2 => absurd q2 (no9 (by omega))) (fun q2 => ?_)
                          refine G_call rfl (ev_goRemove_21 i1 v1 (by omega) hlt) ?_
                          rintro r1 σ10 ⟨rfl, f3, i3⟩
                          have i3 : isP σ10 21 (0 + 121 * m) (toM Mc key) := by
                            unfold toM
                            rw [gt_t hh]
                            exact i3
                          have hv := (v1.1.2.1 _ hlt).2.1
                          refine G_callv rfl (by rw [hx7]) (ev_ppl_21 (f3.is (by omega) hnc2 i2) v2 (by omega) (key := key) (v := Mc.2.2.1 (les Mc key)) (by omega)) ?_
                          rintro r1 σ11 ⟨rfl, i4, f4⟩
                          refine G_to [96] rfl ?_
                          rw [mvF_t hh]
                          exact ih (key + 1) _ _ σ11 _ _ _ (by rw [hx7, nI_1]) (by omega) (f4.is (by omega) (v1.to _).1.1 i3) (v1.to _) i4 (v2.pl (by omega) hv) (f1.tr (f3.g.tr f4.g))
                        · refine G_if rfl (fun q2 => ?_) (fun q2 => absurd rfl q2)
                          refine G_to [96] rfl ?_
                          rw [mvF_f hh]
                          exact ih (key + 1) _ _ _ _ _ _ (by rw [hx7, nI_1]) (by omega) i1 v1 i2 v2 f1
                  refine G_to [96] rfl ?_
                  refine (loop (kb + 1 - ka) ka _ _ σ8 _ _ none rfl (by omega) (hM7.1.at hm) hV (hM7.1.at hm2) hV2 (frG.rf _)).mono ?_
                  rintro r σ' ⟨rfl, i8, j8, f8⟩
                  exact ⟨rfl, hM7.nowG f8 (isPB.cut hm i8 j8), (hc0.tr m7).tr f8.c⟩
                · rw [hI2.1, nI_add] at q3
                  have q3 : ¬ roomF (mp S.1 m) (mp S.1 (1 - m)) ka kb ≤ 40 := fun e => q3 (nI_le (b := 40) e (by decide))
                  rw [gt_f q3, gt_f q3]
                  exact G_ret rfl ⟨rfl, hM0, hc0⟩
              · rw [gt_f q1, gt_f q1]
                exact G_ret rfl ⟨rfl, hM0, hc0⟩
            · exact absurd rfl q
          · have h3 : ¬ okK b := fun q => h3 (i100'.mpr q)
            refine G_if rfl (fun q => ?_) (fun q => ?_)
            · exact absurd q (by decide)
            · have hg : ¬ (okM x ∧ okK a ∧ okK b) := fun q => h3 q.2.2
              rw [gt_f hg, gt_f hg]
              exact G_ret rfl ⟨rfl, hM0, hc0⟩
      · have h2 : ¬ okK a := fun q => h2 (i100'.mpr q)
        refine G_if rfl (fun q => ?_) (fun q => ?_)
        · have hg : ¬ (okM x ∧ okK a ∧ okK b) := fun q => h2 q.2.1
          rw [gt_f hg, gt_f hg]
          exact G_ret rfl ⟨rfl, hM0, hc0⟩
        · exact absurd (by decide) q
  · have h1 : ¬ okM x := fun q => h1 (i01'.mpr q)
    refine G_if rfl (fun q => ?_) (fun q => ?_)
    · have hg : ¬ (okM x ∧ okK a ∧ okK b) := fun q => h1 q.1
      rw [gt_f hg, gt_f hg]
      exact G_ret rfl ⟨rfl, hM0, hc0⟩
    · exact absurd (by decide) q
