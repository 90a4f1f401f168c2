/-! put and remove. Laid by wip/whole/mk49.py. -/
theorem c_put {S : SS} (hS : SI S) (x k v : Int32) : CSpec 47 [.inl x, .inl k, .inl v] S (.inl (fPut S x k v)) (nPut S x k v) := by
  intro σ hC
  unfold fPut nPut
  refine G_call rfl (ev_isMap x _) ?_
  rintro r1 σ1 ⟨rfl, ⟨h1, rfl⟩ | ⟨h1, rfl⟩⟩
  · refine G_if rfl (fun q => ?_) (fun q => ?_)
    · exact absurd q (by decide)
    · refine G_call rfl (ev_isKey k _) ?_
      rintro r1 σ2 ⟨rfl, ⟨h2, rfl⟩ | ⟨h2, rfl⟩⟩
      · refine G_if rfl (fun q => ?_) (fun q => ?_)
        · have hg : okM x ∧ okK k := ⟨h1, h2⟩
          rw [gt_t hg, gt_t hg]
          have bad : ¬ okVl v → RR 47 26 [some rT, some (.inl x), some (.inl k), some (.inl v), none] [] σ2 (fun q σ' => q = some (.inl (gt (okVl v) (gt (can (mp S.1 x.toNatClampNeg) k.toNatClampNeg) (nI (plM (mp S.1 x.toNatClampNeg) k.toNatClampNeg v.toNatClampNeg).1) (-4)) (-2))) ∧ CS σ' (gt (okVl v) (gt (can (mp S.1 x.toNatClampNeg) k.toNatClampNeg) (upB S.1 x.toNatClampNeg (plM (mp S.1 x.toNatClampNeg) k.toNatClampNeg v.toNatClampNeg), pushH S.2.1 S.1, S.2.2) S) S) ∧ mEq σ2 σ') := by
            intro h
            rw [gt_f h, gt_f h]
            exact G_ret rfl ⟨rfl, hC, mEq.rf _⟩
          refine G_if rfl (fun q1 => ?_) (fun q1 => ?_)
          · exact bad (fun e => absurd q1 (Int32.not_lt.mpr ((irng (n := 999999) (by decide)).mpr e).1))
          refine G_if rfl (fun q2 => ?_) (fun q2 => ?_)
          · have h3 : okVl v := (irng (n := 999999) (by decide)).mp ⟨Int32.not_lt.mp q1, q2⟩
            rw [gt_t h3, gt_t h3]
            obtain ⟨m, hm, rfl⟩ := okM_nat h1
            obtain ⟨key, hk, rfl⟩ := h2
            obtain ⟨w, hw, rfl⟩ := h3
            rw [nI_clamp (by omega), nI_clamp (by omega), nI_clamp (by omega)]
            have hI := hC.1.at hm
            have hV := hS.1.at hm
            refine G_call rfl (ev_of 0 hm σ2) ?_
            rintro r1 σ3 ⟨rfl, rfl⟩
            refine G_call rfl (ev_canTake hI hV.1 (key := key) (by omega)) ?_
            rintro r1 σ4 ⟨rfl, ⟨hh, rfl⟩ | ⟨hh, rfl⟩⟩
            · refine G_if rfl (fun q3 => ?_) (fun q3 => absurd (by decide) q3)
              have hh : can (mp S.1 m) key := hh
              rw [gt_t hh, gt_t hh]
              refine G_call rfl (ev_remember hC hS) ?_
              rintro r1 σ5 ⟨rfl, hC5, m5⟩
              refine G_call rfl (ev_pl (hC5.1.at hm) hV hk (v := w) (by omega)) ?_
              rintro r1 σ6 ⟨rfl, i6, f6⟩
              exact G_ret rfl ⟨by rw [i6.1], hC5.now (f6.n (by omega)) (hC5.1.up hm i6 f6), m5.tr f6.m⟩
            · refine G_if rfl (fun q3 => absurd rfl q3) (fun q3 => ?_)
              have hh : ¬ can (mp S.1 m) key := hh
              rw [gt_f hh, gt_f hh]
              exact G_ret rfl ⟨rfl, hC, mEq.rf _⟩
          · exact bad (fun e => absurd ((irng (n := 999999) (by decide)).mpr e).2 q2)
        · exact absurd (by decide) q
      · refine G_if rfl (fun q => ?_) (fun q => ?_)
        · exact absurd rfl q
        · have hg : ¬ (okM x ∧ okK k) := fun q => h2 q.2
          rw [gt_f hg, gt_f hg]
          exact G_ret rfl ⟨rfl, hC, mEq.rf _⟩
  · refine G_if rfl (fun q => ?_) (fun q => ?_)
    · have hg : ¬ (okM x ∧ okK k) := fun q => h1 q.1
      rw [gt_f hg, gt_f hg]
      exact G_ret rfl ⟨rfl, hC, mEq.rf _⟩
    · exact absurd rfl q
theorem c_remove {S : SS} (hS : SI S) (x k : Int32) : CSpec 49 [.inl x, .inl k] S (.inl (fRem S x k)) (nRem S x k) := by
  intro σ hC
  unfold fRem nRem
  refine G_call rfl (ev_isMap x _) ?_
  rintro r1 σ1 ⟨rfl, ⟨h1, rfl⟩ | ⟨h1, rfl⟩⟩
  · refine G_if rfl (fun q => ?_) (fun q => ?_)
    · exact absurd q (by decide)
    · refine G_call rfl (ev_isKey k _) ?_
      rintro r1 σ2 ⟨rfl, ⟨h2, rfl⟩ | ⟨h2, rfl⟩⟩
      · refine G_if rfl (fun q => ?_) (fun q => ?_)
        · have hg : okM x ∧ okK k := ⟨h1, h2⟩
          rw [gt_t hg, gt_t hg]
          obtain ⟨m, hm, rfl⟩ := okM_nat h1
          obtain ⟨key, hk, rfl⟩ := h2
          rw [nI_clamp (by omega), nI_clamp (by omega)]
          have hI := hC.1.at hm
          have hV := hS.1.at hm
          have hn := hV.1.1
          refine G_call rfl (ev_of 0 hm σ2) ?_
          rintro r1 σ3 ⟨rfl, rfl⟩
          refine G_call rfl (ev_indexOf hI hV.1 (key := key) (by omega)) ?_
          rintro r1 σ4 ⟨rfl, ⟨hh, rfl⟩ | ⟨hh, rfl⟩⟩
          · have hlt := hh.1
            refine G_if rfl (fun q3 => ?_) (fun q3 => absurd (nI_pos' (by omega)) q3)
            rw [gt_t hh, gt_t hh]
            refine G_ald rfl (les (mp S.1 m) key) rfl (by omega) (by decide) ?_
            rw [(hI.2 _ hlt).2.1]
            refine G_call rfl (ev_remember hC hS) ?_
            rintro r1 σ5 ⟨rfl, hC5, m5⟩
            refine G_call rfl (ev_to (hC5.1.at hm) hV hk) ?_
            rintro r1 σ6 ⟨rfl, i6, f6⟩
            exact G_ret rfl ⟨rfl, hC5.now (f6.n (by omega)) (hC5.1.up hm i6 f6), m5.tr f6.m⟩
          · refine G_if rfl (fun q3 => absurd q3 (by decide)) (fun q3 => ?_)
            rw [gt_f hh, gt_f hh]
            exact G_ret rfl ⟨rfl, hC, mEq.rf _⟩
        · exact absurd (by decide) q
      · refine G_if rfl (fun q => ?_) (fun q => ?_)
        · exact absurd rfl q
        · have hg : ¬ (okM x ∧ okK k) := fun q => h2 q.2
          rw [gt_f hg, gt_f hg]
          exact G_ret rfl ⟨rfl, hC, mEq.rf _⟩
  · refine G_if rfl (fun q => ?_) (fun q => ?_)
    · have hg : ¬ (okM x ∧ okK k) := fun q => h1 q.1
      rw [gt_f hg, gt_f hg]
      exact G_ret rfl ⟨rfl, hC, mEq.rf _⟩
    · exact absurd rfl q
theorem m_put {S : SS} (hS : SI S) (x k v : Int32) : MSpec 99 [.inl x, .inl k, .inl v] S (.inl (fPut S x k v)) (nPut S x k v) := by
  intro σ hM
  unfold fPut nPut
  have hM0 := hM.scr (frS.th σ)
  have hc0 := (frS.th σ).c
  refine G_call rfl (ev_noMap x _) ?_
  rintro r1 σ1 ⟨rfl, ⟨a1, a2, rfl⟩ | ⟨h1, rfl⟩⟩
  · have h1 : okM x := i01'.mp ⟨a1, a2⟩
    refine G_if rfl (fun q => ?_) (fun q => ?_)
    · exact absurd rfl q
    · refine G_call rfl (ev_noKey k _) ?_
      rintro r1 σ2 ⟨rfl, ⟨a1, a2, rfl⟩ | ⟨h2, rfl⟩⟩
      · have h2 : okK k := i100'.mp ⟨a1, a2⟩
        refine G_if rfl (fun q => ?_) (fun q => ?_)
        · have hg : okM x ∧ okK k := ⟨h1, h2⟩
          rw [gt_t hg, gt_t hg]
          refine G_call rfl (ev_inI v 0 999999 _) ?_
          rintro r1 σ3 ⟨rfl, ⟨h3, rfl⟩ | ⟨h3, rfl⟩⟩
          · have h3 : okVl v := (irng (n := 999999) (by decide)).mp h3
            refine G_if rfl (fun q3 => ?_) (fun q3 => absurd (by decide) q3)
            rw [gt_t h3, gt_t h3]
            obtain ⟨m, hm, rfl⟩ := okM_nat h1
            obtain ⟨key, hk, rfl⟩ := h2
            obtain ⟨w, hw, rfl⟩ := h3
            rw [nI_clamp (by omega), nI_clamp (by omega), nI_clamp (by omega)]
            have hI := hM0.1.at hm
            have hV := hS.1.at hm
            have hn := hV.1.1
            have go : can (mp S.1 m) key → RR 99 70 [some rMo, some (.inl (nI m)), some (.inl (nI key)), some (.inl (nI w))] [] (hset σ.1 6 0 0 0, σ.2) (fun q σ' => q = some (.inl (nI (plM (mp S.1 m) key w).1)) ∧ MS σ' (upB S.1 m (plM (mp S.1 m) key w), pushH S.2.1 S.1, S.2.2) ∧ cEq σ σ') := by
              intro hh
              refine G_call rfl (ev_note hM0 hS) ?_
              rintro r1 σ5 ⟨rfl, hM5, m5⟩
              refine G_callv rfl (by rw [mb121]) (ev_ppl_21 (hM5.1.at hm) hV (by omega) hk (v := w)) ?_
              rintro r1 σ6 ⟨rfl, i6, f6⟩
              refine G_ald rfl (0 + 121 * m) (mb121 m) (by omega) (by decide) ?_
              exact G_ret rfl ⟨by rw [i6.1], hM5.now f6 (hM5.1.up hS.1.sz hm i6 f6), (hc0.tr m5).tr (f6.c (by decide))⟩
            refine G_callv rfl (by rw [mb121]) (ev_find_21 hI hV.1 (by omega) (key := key) (by omega)) ?_
            rintro r1 σ4 ⟨rfl, ⟨hh, rfl⟩ | ⟨hh, rfl⟩⟩
            · have hlt := hh.1
              refine G_if rfl (fun q4 => ?_) (fun q4 => absurd (Classical.not_not.mp q4) (no9 (by omega)))
              have hc : can (mp S.1 m) key := Or.inr hh
              rw [gt_t hc, gt_t hc]
              exact go hc
            · refine G_if rfl (fun q4 => absurd rfl q4) (fun q4 => ?_)
              refine G_ald rfl (0 + 121 * m) (mb121 m) (by omega) (by decide) ?_
              rw [hI.1]
              refine G_if rfl (fun q5 => ?_) (fun q5 => ?_)
              · have hc : can (mp S.1 m) key := Or.inl (Nat.lt_of_le_of_ne hn (fun e => q5 (by rw [e]; rfl)))
                rw [gt_t hc, gt_t hc]
                exact go hc
              · have hc : ¬ can (mp S.1 m) key := by
                  have := ieq (b := 40) (Classical.not_not.mp q5) (by omega) (by decide)
                  rintro (e | e)
                  · omega
                  · exact hh e
                rw [gt_f hc, gt_f hc]
                exact G_ret rfl ⟨rfl, hM0, hc0⟩
          · have h3 : ¬ okVl v := fun e => h3 ((irng (n := 999999) (by decide)).mpr e)
            refine G_if rfl (fun q3 => absurd rfl q3) (fun q3 => ?_)
            rw [gt_f h3, gt_f h3]
            exact G_ret rfl ⟨rfl, hM0, hc0⟩
        · exact absurd rfl q
      · have h2 : ¬ okK k := fun q => h2 (i100'.mpr q)
        refine G_if rfl (fun q => ?_) (fun q => ?_)
        · exact absurd q (by decide)
        · have hg : ¬ (okM x ∧ okK k) := fun q => h2 q.2
          rw [gt_f hg, gt_f hg]
          exact G_ret rfl ⟨rfl, hM0, hc0⟩
  · have h1 : ¬ okM x := fun q => h1 (i01'.mpr q)
    refine G_if rfl (fun q => ?_) (fun q => ?_)
    · have hg : ¬ (okM x ∧ okK k) := fun q => h1 q.1
      rw [gt_f hg, gt_f hg]
      exact G_ret rfl ⟨rfl, hM0, hc0⟩
    · exact absurd (by decide) q
theorem m_remove {S : SS} (hS : SI S) (x k : Int32) : MSpec 110 [.inl x, .inl k] S (.inl (fRem S x k)) (nRem S x k) := by
  intro σ hM
  unfold fRem nRem
  have hM0 := hM.scr (frS.th σ)
  have hc0 := (frS.th σ).c
  refine G_call rfl (ev_noMap x _) ?_
  rintro r1 σ1 ⟨rfl, ⟨a1, a2, rfl⟩ | ⟨h1, rfl⟩⟩
  · have h1 : okM x := i01'.mp ⟨a1, a2⟩
    refine G_if rfl (fun q => ?_) (fun q => ?_)
    · exact absurd rfl q
    · refine G_call rfl (ev_noKey k _) ?_
      rintro r1 σ2 ⟨rfl, ⟨a1, a2, rfl⟩ | ⟨h2, rfl⟩⟩
      · have h2 : okK k := i100'.mp ⟨a1, a2⟩
        refine G_if rfl (fun q => ?_) (fun q => ?_)
        · have hg : okM x ∧ okK k := ⟨h1, h2⟩
          rw [gt_t hg, gt_t hg]
          obtain ⟨m, hm, rfl⟩ := okM_nat h1
          obtain ⟨key, hk, rfl⟩ := h2
          rw [nI_clamp (by omega), nI_clamp (by omega)]
          have hI := hM0.1.at hm
          have hV := hS.1.at hm
          have hn := hV.1.1
          refine G_callv rfl (by rw [mb121]) (ev_find_21 hI hV.1 (by omega) (key := key) (by omega)) ?_
          rintro r1 σ4 ⟨rfl, ⟨hh, rfl⟩ | ⟨hh, rfl⟩⟩
          · have hlt := hh.1
            refine G_if rfl (fun q4 => ?_) (fun q4 => absurd (Classical.not_not.mp q4) (no9 (by omega)))
            rw [gt_t hh, gt_t hh]
            refine G_call rfl (ev_note hM0 hS) ?_
            rintro r1 σ5 ⟨rfl, hM5, m5⟩
            refine G_callv rfl (by rw [mb121]) (ev_goRemove_21 (hM5.1.at hm) hV (by omega) hlt) ?_
            rintro r1 σ6 ⟨rfl, f6, i6⟩
            have i6 : isP σ6 21 (0 + 121 * m) (toM (mp S.1 m) key) := by
              unfold toM
              rw [gt_t hh]
              exact i6
            exact G_ret rfl ⟨rfl, hM5.now f6 (hM5.1.up hS.1.sz hm i6 f6), (hc0.tr m5).tr (f6.c (by decide))⟩
          · refine G_if rfl (fun q4 => absurd rfl q4) (fun q4 => ?_)
            rw [gt_f hh, gt_f hh]
            exact G_ret rfl ⟨rfl, hM0, hc0⟩
        · exact absurd rfl q
      · have h2 : ¬ okK k := fun q => h2 (i100'.mpr q)
        refine G_if rfl (fun q => ?_) (fun q => ?_)
        · exact absurd q (by decide)
        · have hg : ¬ (okM x ∧ okK k) := fun q => h2 q.2
          rw [gt_f hg, gt_f hg]
          exact G_ret rfl ⟨rfl, hM0, hc0⟩
  · have h1 : ¬ okM x := fun q => h1 (i01'.mpr q)
    refine G_if rfl (fun q => ?_) (fun q => ?_)
    · have hg : ¬ (okM x ∧ okK k) := fun q => h1 q.1
      rw [gt_f hg, gt_f hg]
      exact G_ret rfl ⟨rfl, hM0, hc0⟩
    · exact absurd (by decide) q
