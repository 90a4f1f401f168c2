/-! Public calls, second lot. Laid by wip/whole/mk41.py. -/
theorem m_get {S : SS} (hS : SI S) (x k : Int32) : MSpec 122 [.inl x, .inl k] S (.inl (fGet S x k)) S := by
  intro σ hM
  unfold fGet
  have hM0 := hM.scr (frS.th σ)
  have hc0 := (frS.th σ).c
  refine G_call rfl (ev_noMap x _) ?_
  rintro r1 σ1 ⟨rfl, ⟨a1, a2, rfl⟩ | ⟨h1, rfl⟩⟩
  · have h1 : okM x := i01'.mp ⟨a1, a2⟩
    refine G_if rfl (fun q => ?_) (fun q => ?_)
    · exact absurd rfl q
    · refine G_call rfl (ev_noKey k _) ?_
      rintro r1 σ2 ⟨rfl, ⟨a1, a2, rfl⟩ | ⟨h2, rfl⟩⟩
      · have h2 : okK k := i100'.mp ⟨a1, a2⟩
        refine G_if rfl (fun q => ?_) (fun q => ?_)
        · rw [gt_t ⟨h1, h2⟩]
          obtain ⟨m, hm, rfl⟩ := okM_nat h1
          obtain ⟨key, hk, rfl⟩ := h2
          have hI := hM0.1.at hm
          have hV := hS.1.at hm
          have hn := hV.1.1
          rw [nI_clamp (by omega), nI_clamp (by omega)]
          refine G_callv rfl (by rw [mb121]) (ev_find_21 hI hV.1 (by omega) (by omega)) ?_
          rintro r1 σ4 ⟨rfl, ⟨hh, rfl⟩ | ⟨hh, rfl⟩⟩
          · have hlt := hh.1
            rw [gt_t hh]
            refine G_if rfl (fun q2 => ?_) (fun q2 => ?_)
            · refine G_ald rfl (0 + 121 * m + 41 + les (mp S.1 m) key) (by rw [mb121]; exact ix41 _ _) (by omega) (by decide) ?_
              rw [(hI.2 _ hlt).2.1]
              exact G_ret rfl ⟨rfl, hM0, hc0⟩
            · exact absurd (Classical.not_not.mp q2) (fun e => by
                have h1 := congrArg Int32.toInt e
                rw [nI_toInt (by omega)] at h1
                have h2 : (-9 : Int32).toInt = -9 := rfl
                omega)
          · rw [gt_f hh]
            refine G_if rfl (fun q2 => ?_) (fun q2 => ?_)
            · exact absurd rfl q2
            · exact G_ret rfl ⟨rfl, hM0, hc0⟩
        · exact absurd rfl q
      · have h2 : ¬ okK k := fun q => h2 (i100'.mpr q)
        refine G_if rfl (fun q => ?_) (fun q => ?_)
        · exact absurd q (by decide)
        · rw [gt_f (fun q => h2 q.2)]
          exact G_ret rfl ⟨rfl, hM0, hc0⟩
  · have h1 : ¬ okM x := fun q => h1 (i01'.mpr q)
    refine G_if rfl (fun q => ?_) (fun q => ?_)
    · rw [gt_f (fun q => h1 q.1)]
      exact G_ret rfl ⟨rfl, hM0, hc0⟩
    · exact absurd (by decide) q
theorem m_looks {S : SS} (hS : SI S) (x k : Int32) : MSpec 126 [.inl x, .inl k] S (.inl (fLooks S x k)) S := by
  intro σ hM
  unfold fLooks
  have hM0 := hM.scr (frS.th σ)
  have hc0 := (frS.th σ).c
  refine G_call rfl (ev_noMap x _) ?_
  rintro r1 σ1 ⟨rfl, ⟨a1, a2, rfl⟩ | ⟨h1, rfl⟩⟩
  · have h1 : okM x := i01'.mp ⟨a1, a2⟩
    refine G_if rfl (fun q => ?_) (fun q => ?_)
    · exact absurd rfl q
    · refine G_call rfl (ev_noKey k _) ?_
      rintro r1 σ2 ⟨rfl, ⟨a1, a2, rfl⟩ | ⟨h2, rfl⟩⟩
      · have h2 : okK k := i100'.mp ⟨a1, a2⟩
        refine G_if rfl (fun q => ?_) (fun q => ?_)
        · rw [gt_t ⟨h1, h2⟩]
          obtain ⟨m, hm, rfl⟩ := okM_nat h1
          obtain ⟨key, hk, rfl⟩ := h2
          have hI := hM0.1.at hm
          have hV := hS.1.at hm
          rw [nI_clamp (by omega), nI_clamp (by omega)]
          refine G_callv rfl (by rw [mb121]) (ev_search_21 hI hV.1 (by omega) (by omega)) ?_
          rintro r1 σ4 ⟨rfl, hf, -⟩
          exact G_ret rfl ⟨rfl, hM0.scr hf, hc0.tr hf.c⟩
        · exact absurd rfl q
      · have h2 : ¬ okK k := fun q => h2 (i100'.mpr q)
        refine G_if rfl (fun q => ?_) (fun q => ?_)
        · exact absurd q (by decide)
        · rw [gt_f (fun q => h2 q.2)]
          exact G_ret rfl ⟨rfl, hM0, hc0⟩
  · have h1 : ¬ okM x := fun q => h1 (i01'.mpr q)
    refine G_if rfl (fun q => ?_) (fun q => ?_)
    · rw [gt_f (fun q => h1 q.1)]
      exact G_ret rfl ⟨rfl, hM0, hc0⟩
    · exact absurd (by decide) q
theorem m_sum {S : SS} (hS : SI S) (x a b : Int32) : MSpec 127 [.inl x, .inl a, .inl b] S (.inl (fSum S x a b)) S := by
  intro σ hM
  unfold fSum
  have hM0 := hM.scr (frS.th σ)
  have hc0 := (frS.th σ).c
  have loop : ∀ (m : Nat), m < 2 → ∀ (ka kb : Nat), ka < 100 → kb < 100 → ∀ (n i s : Nat) (x5 x6 : Int32), x5 = nI s → x6 = nI i → i + n = (mp S.1 m).1 → RR 127 48 [some rMo, some (.inl (nI m)), some (.inl (nI ka)), some (.inl (nI kb)), some (.inl (nI (0 + 121 * m))), some (.inl x5), some (.inl x6)] [] (hset σ.1 6 0 0 0, σ.2) (fun q σ' => q = some (.inl (nI (vwF (mp S.1 m).2.1 (mp S.1 m).2.2.1 ka kb n i s))) ∧ MS σ' S ∧ cEq σ σ') := by
    intro m hm ka kb hka hkb
    have hI := hM0.1.at hm
    have hV := hS.1.at hm
    have hn := hV.1.1
    intro n
    induction n with
    | zero =>
      intro i s x5 x6 hx5 hx6 hi
      refine G_ald rfl (0 + 121 * m) rfl (by omega) (by decide) ?_
      rw [hI.1]
      refine G_if rfl (fun h => ?_) (fun h => ?_)
      · exact G_ret rfl ⟨by rw [hx5]; rfl, hM0, hc0⟩
      · rw [hx6] at h
        exact absurd (nle h (by omega) (by omega)) (by omega)
    | succ n ih =>
      intro i s x5 x6 hx5 hx6 hi
      have hK := (hV.1.2.1 i (by omega)).1
      refine G_ald rfl (0 + 121 * m) rfl (by omega) (by decide) ?_
      rw [hI.1]
      refine G_if rfl (fun h => ?_) (fun h => ?_)
      · rw [hx6] at h
        exact absurd (ile h (by omega) (by omega)) (by omega)
      · refine G_ald rfl (0 + 121 * m + 1 + i) (by rw [hx6]; exact ix1 _ _) (by omega) (by decide) ?_
        rw [(hI.2 i (by omega)).1, vwF]
        refine G_call rfl (ev_in _ _ _ _) ?_
        rintro r1 σ1 ⟨rfl, ⟨a1, a2, rfl⟩ | ⟨a1, rfl⟩⟩
        · rw [i64_le] at a1 a2
          have a1 := ile a1 (by omega) (by omega)
          have a2 := ile a2 (by omega) (by omega)
          rw [if_pos ⟨a1, a2⟩]
          refine G_if rfl (fun q => ?_) (fun q => ?_)
          · exact absurd q (by decide)
          · refine G_ald rfl (0 + 121 * m + 41 + i) (by rw [hx6]; exact ix41 _ _) (by omega) (by decide) ?_
            rw [(hI.2 i (by omega)).2.1]
            refine G_to [48] rfl ?_
            exact ih (i + 1) _ _ _ (by rw [hx5, nI_add]) (by rw [hx6]; exact nI_1 i) (by omega)
        · rw [i64_le, i64_le, nI_leI (by omega) (by omega), nI_leI (by omega) (by omega)] at a1
          rw [if_neg a1]
          refine G_if rfl (fun q => ?_) (fun q => ?_)
          · refine G_to [48] rfl ?_
            exact ih (i + 1) s _ _ (by rw [hx5, show (0 : Int32) = nI 0 from rfl, nI_add, Nat.add_zero]) (by rw [hx6]; exact nI_1 i) (by omega)
          · exact absurd rfl q
  refine G_call rfl (ev_noMap x _) ?_
  rintro r1 σ1 ⟨rfl, ⟨a1, a2, rfl⟩ | ⟨h1, rfl⟩⟩
  · have h1 : okM x := i01'.mp ⟨a1, a2⟩
    refine G_if rfl (fun q => ?_) (fun q => ?_)
    · exact absurd rfl q
    · refine G_call rfl (ev_noKey a _) ?_
      rintro r1 σ2 ⟨rfl, ⟨a1, a2, rfl⟩ | ⟨h2, rfl⟩⟩
      · have h2 : okK a := i100'.mp ⟨a1, a2⟩
        refine G_if rfl (fun q => ?_) (fun q => ?_)
        · exact absurd rfl q
        · refine G_call rfl (ev_noKey b _) ?_
          rintro r1 σ3 ⟨rfl, ⟨a1, a2, rfl⟩ | ⟨h3, rfl⟩⟩
          · have h3 : okK b := i100'.mp ⟨a1, a2⟩
            refine G_if rfl (fun q => ?_) (fun q => ?_)
            · rw [gt_t ⟨h1, h2, h3⟩]
              refine G_if rfl (fun q2 => ?_) (fun q2 => ?_)
              · rw [gt_t q2]
                obtain ⟨m, hm, rfl⟩ := okM_nat h1
                obtain ⟨ka, hka, rfl⟩ := h2
                obtain ⟨kb, hkb, rfl⟩ := h3
                rw [nI_clamp (by omega), nI_clamp (by omega), nI_clamp (by omega)]
                refine G_to [48] rfl ?_
                rw [mb121]
                exact loop m hm ka kb hka hkb _ 0 0 _ _ nI_0.symm nI_0.symm (by omega)
              · rw [gt_f q2]
                exact G_ret rfl ⟨rfl, hM0, hc0⟩
            · exact absurd rfl q
          · have h3 : ¬ okK b := fun q => h3 (i100'.mpr q)
            refine G_if rfl (fun q => ?_) (fun q => ?_)
            · exact absurd q (by decide)
            · rw [gt_f (fun q => h3 q.2.2)]
              exact G_ret rfl ⟨rfl, hM0, hc0⟩
      · have h2 : ¬ okK a := fun q => h2 (i100'.mpr q)
        refine G_if rfl (fun q => ?_) (fun q => ?_)
        · rw [gt_f (fun q => h2 q.2.1)]
          exact G_ret rfl ⟨rfl, hM0, hc0⟩
        · exact absurd (by decide) q
  · have h1 : ¬ okM x := fun q => h1 (i01'.mpr q)
    refine G_if rfl (fun q => ?_) (fun q => ?_)
    · rw [gt_f (fun q => h1 q.1)]
      exact G_ret rfl ⟨rfl, hM0, hc0⟩
    · exact absurd (by decide) q
/-- the seed -/
theorem c_seed (S : SS) (v : Int64) : CSpec 82 [.inr (.inl v)] S (.inr (.inl S.2.2.2.2.2)) (S.1, S.2.1, S.2.2.1, S.2.2.2.1, S.2.2.2.2.1, v) := by
  intro σ hC
  refine G_ret rfl ⟨by rw [hC.2.2.2.2.2], ⟨hC.1, hC.2.1, hC.2.2.1, hC.2.2.2.1, hC.2.2.2.2.1, ?_⟩, ⟨fun _ _ => rfl, ?_, rfl⟩⟩
  · show lset σ.2.1 5 v 5 = v
    simp [lset]
  · show lset σ.2.1 5 v 6 = _
    simp [lset]
theorem m_seed (S : SS) (v : Int64) : MSpec 153 [.inr (.inl v)] S (.inr (.inl S.2.2.2.2.2)) (S.1, S.2.1, S.2.2.1, S.2.2.2.1, S.2.2.2.2.1, v) := by
  intro σ hM
  have hM0 := hM.scr (frS.th σ)
  have hc0 := (frS.th σ).c
  refine G_ret rfl ⟨?_, ⟨hM0.1, hM0.2.1, hM0.2.2.1, hM0.2.2.2.1, hM0.2.2.2.2.1, ?_⟩, ⟨hc0.1, ?_, hc0.2.2⟩⟩
  · show some (Sum.inr (Sum.inl (σ.2.1 6))) = _
    rw [hM.2.2.2.2.2]
  · show lset σ.2.1 6 v 6 = v
    simp [lset]
  · show lset σ.2.1 6 v 5 = _
    simp [lset]
/-- the text wiped -/
theorem c_wipe (S : SS) : CSpec 43 [] S (.inl (nI S.2.2.2.1.1)) (S.1, S.2.1, S.2.2.1, (0, S.2.2.2.1.2), S.2.2.2.2) := by
  intro σ hC
  obtain ⟨h1, h2, h3, h4, h5, h6⟩ := hC
  refine G_ret rfl ⟨?_, ⟨?_, ?_, ?_, ⟨?_, fun i hi => by cases hi⟩, ?_, h6⟩, (mEq.rf σ).st (by decide)⟩
  · rw [h4.1]
  · simpa [isB, isI, hset] using h1
  · obtain ⟨nx, a1, a2, a3, a4⟩ := h2
    refine ⟨nx, a1, by simpa [hset] using a2, by simpa [hset] using a3, fun h hh => ?_⟩
    have := a4 h hh
    simpa [isB, isI, hset] using this
  · intro k hk
    obtain ⟨b1, b2⟩ := h3 k hk
    refine ⟨by simpa [hset] using b1, fun B hB => ?_⟩
    have := b2 B hB
    simpa [isB, isI, hset] using this
  · show hset σ.1 4 0 2 0 4 0 2 = _
    simp [hset]
    rfl
  · simpa [cSgt, hset] using h5

