/-! The model: a search, all looks. -/
theorem lkI_skip (K T : Nat → Nat) (key l : Nat) : ∀ (m i hr c : Nat), lkI K T key l m i hr c = (if scn (fun i => decide (T i < l)) m i = i + m then (false, hr, c) else if K (scn (fun i => decide (T i < l)) m i) = key then (true, hr, c + 1) else if key < K (scn (fun i => decide (T i < l)) m i) then (false, hr, c + 1) else lkI K T key l (i + m - (scn (fun i => decide (T i < l)) m i + 1)) (scn (fun i => decide (T i < l)) m i + 1) (scn (fun i => decide (T i < l)) m i + 1) (c + 1))
  | 0, i, hr, c => by simp [lkI, scn]
  | m + 1, i, hr, c => by
    by_cases hT : T i < l
    · rw [scn_t (by simpa using hT), show i + (m + 1) = i + 1 + m by omega, ← lkI_skip K T key l m (i + 1) hr c, lkI, if_pos hT]
    · rw [scn_f (by simpa using hT), if_neg (by omega), lkI, if_neg hT, show i + (m + 1) - (i + 1) = m by omega]
def slF (M : AM) : Nat → Nat → Nat → Nat
  | 0, _, s => s
  | m + 1, i, s => slF M m (i + 1) (s + (looksF M (M.2.1 i)).2)
def b2i (b : Bool) : Int32 := match b with
  | true => 1
  | false => 0
section MO
variable {σ : Hp} {mb : Nat} {M : AM}
theorem ev_search_21 (hI : isP σ 21 mb M) (hw : wfM M) (hm : mb + 121 ≤ 242) {key : Nat} (hk : key < 2147483648) : Ev 119 [rMo, rP 21, .inl (nI mb), .inl (nI key)] σ (fun r σ' => r = some (.inl (nI (looksF M key).2)) ∧ frS σ σ' ∧ σ'.1 6 0 20 = b2i (looksF M key).1) := by
  have hn := hw.1
  have htop : topF M.2.2.2 M.1 ≤ 64 := topF_le _ hw.t.2
  have loop : ∀ (N lv hr c : Nat) (x4 x5 x6 : Int32) (x7 x8 : Option PV) (σ1 : Hp), lv * 41 + (M.1 - hr) < N → lv ≤ 64 → hr ≤ M.1 → x4 = nI c → x5 = nI hr - 1 → x6 = nI lv - 1 → σ1.1 6 0 20 = 0 → frS σ σ1 →
      RR 119 20 [some rMo, some (rP 21), some (.inl (nI mb)), some (.inl (nI key)), some (.inl x4), some (.inl x5), some (.inl x6), x7, x8] [] σ1 (fun r σ' => r = some (.inl (nI (lkO M.2.1 M.2.2.2 M.1 key lv hr c).2)) ∧ frS σ σ' ∧ σ'.1 6 0 20 = b2i (lkO M.2.1 M.2.2.2 M.1 key lv hr c).1) := by
    intro N
    induction N with
    | zero =>
      intro lv hr c x4 x5 x6 x7 x8 σ1 h0
      omega
    | succ N ih =>
      intro lv hr c x4 x5 x6 x7 x8 σ1 hN hlv hhr hx4 hx5 hx6 h20 hf
      have hI1 := hf.is (by decide) hI
      cases lv with
      | zero =>
        refine G_if rfl (fun q => ?_) (fun q => ?_)
        · exact G_ret rfl ⟨by rw [hx4]; rfl, hf, by rw [h20]; rfl⟩
        · rw [hx6] at q
          exact absurd ((im1_lt (by omega)).mpr rfl) q
      | succ l =>
        have hb := bhF_le M.2.2.2 l hhr
        have hsk := lkI_skip M.2.1 M.2.2.2 key l (M.1 - hr) hr hr c
        rw [show hr + (M.1 - hr) = M.1 by omega] at hsk
        change _ = (if bhF M.1 M.2.2.2 l hr = M.1 then _ else if M.2.1 (bhF M.1 M.2.2.2 l hr) = key then _ else if key < M.2.1 (bhF M.1 M.2.2.2 l hr) then _ else lkI M.2.1 M.2.2.2 key l (M.1 - (bhF M.1 M.2.2.2 l hr + 1)) (bhF M.1 M.2.2.2 l hr + 1) (bhF M.1 M.2.2.2 l hr + 1) (c + 1)) at hsk
        refine G_if rfl (fun q => ?_) (fun q => ?_)
        · rw [hx6] at q
          exact absurd ((im1_lt (by omega)).mp q) (by omega)
        · refine G_if rfl (fun q2 => ?_) (fun q2 => ?_)
          · exact absurd h20 q2
          · refine G_callv rfl (by rw [hx5, im1_add, hx6, nI_pred]) (ev_nextOn_21 hI1 hw.t hm (f := hr) (l := l) hhr (by omega)) ?_
            rintro r1 σ2 ⟨rfl, rfl⟩
            refine G_ald rfl mb rfl (by omega) (by decide) ?_
            rw [hI1.1]
            have hx6' : x6 + -1 = nI l - 1 := by rw [hx6]; exact im1_dec l
            generalize hbe : bhF M.1 M.2.2.2 l hr = b at *
            refine G_if rfl (fun q3 => ?_) (fun q3 => ?_)
            · have q3 := ile q3 (by omega) (by omega)
              refine G_if rfl (fun q4 => ?_) (fun q4 => ?_)
              · refine G_if rfl (fun q5 => ?_) (fun q5 => ?_)
                · refine G_if rfl (fun q6 => ?_) (fun q6 => ?_)
                  · refine G_to [20] rfl ?_
                    rw [lkO, hsk, if_pos (by omega)]
                    exact ih l hr c _ _ _ _ _ _ (by omega) (by omega) hhr (by rw [hx4, show (0 : Int32) = nI 0 from rfl, nI_add, Nat.add_zero]) hx5 hx6' (by simp [hset]) (hf.st (by decide))
                  · exact absurd rfl q6
                · exact absurd rfl q5
              · exact absurd rfl q4
            · have q3 := nle q3 (by omega) (by omega)
              have hK := (hw.2.1 b q3).1
              refine G_if rfl (fun q4 => ?_) (fun q4 => ?_)
              · exact absurd q4 (by decide)
              · refine G_if rfl (fun q5 => ?_) (fun q5 => ?_)
                · exact absurd q5 (by decide)
                · refine G_ald rfl (mb + 1 + b) (ix1 mb b) (by omega) (by decide) ?_
                  rw [(hI1.2 b q3).1]
                  refine G_if rfl (fun q6 => ?_) (fun q6 => ?_)
                  · have q6 : ¬ M.2.1 b = key := fun e => q6 (by rw [e])
                    refine G_if rfl (fun q7 => ?_) (fun q7 => ?_)
                    · exact absurd q7 (by decide)
                    · have hf3 : frS σ (hset σ2.1 6 0 20 0, σ2.2) := hf.st (by decide)
                      have h203 : (hset σ2.1 6 0 20 0, σ2.2).1 6 0 20 = 0 := by simp [hset]
                      have hI3 := hf3.is (by decide) hI
                      generalize (hset σ2.1 6 0 20 0, σ2.2) = σ3 at hf3 h203 hI3 ⊢
                      refine G_ald rfl (mb + 1 + b) (ix1 mb b) (by omega) (by decide) ?_
                      rw [(hI3.2 b q3).1]
                      refine G_if rfl (fun q8 => ?_) (fun q8 => ?_)
                      · have q8 := ile q8 hk (by omega)
                        refine G_to [20] rfl ?_
                        rw [lkO, hsk, if_neg (by omega), if_neg q6, if_pos (by omega)]
                        exact ih l hr (c + 1) _ _ _ _ _ _ (by omega) (by omega) hhr (by rw [hx4]; exact nI_1 c) hx5 hx6' h203 hf3
                      · have q8 := nle q8 hk (by omega)
                        refine G_to [20] rfl ?_
                        have e : lkO M.2.1 M.2.2.2 M.1 key (l + 1) hr c = lkO M.2.1 M.2.2.2 M.1 key (l + 1) (b + 1) (c + 1) := by
                          rw [lkO, lkO, hsk, if_neg (by omega), if_neg q6, if_neg (by omega)]
                        rw [e]
                        exact ih (l + 1) (b + 1) (c + 1) _ _ _ _ _ _ (by omega) (by omega) (by omega) (by rw [hx4]; exact nI_1 c) (nI_pred b).symm hx6 h203 hf3
                  · have q6 := ieq (Classical.not_not.mp q6) (by omega) hk
                    refine G_if rfl (fun q7 => ?_) (fun q7 => ?_)
                    · exact absurd q7 (by decide)
                    · have hf3 : frS σ (hset σ2.1 6 0 20 1, σ2.2) := hf.st (by decide)
                      have h203 : (hset σ2.1 6 0 20 1, σ2.2).1 6 0 20 = 1 := by simp [hset]
                      have hI3 := hf3.is (by decide) hI
                      generalize (hset σ2.1 6 0 20 1, σ2.2) = σ3 at hf3 h203 hI3 ⊢
                      refine G_ald rfl (mb + 1 + b) (ix1 mb b) (by omega) (by decide) ?_
                      rw [(hI3.2 b q3).1]
                      refine G_if rfl (fun q8 => ?_) (fun q8 => ?_)
                      · have eO : lkO M.2.1 M.2.2.2 M.1 key (l + 1) hr c = (true, c + 1) := by
                          rw [lkO, hsk, if_neg (by omega), if_pos q6]
                        rw [eO]
                        refine G_to [20] rfl ?_
                        refine G_if rfl (fun q9 => ?_) (fun q9 => ?_)
                        · exact G_ret rfl ⟨by rw [hx4, nI_1], hf3, h203⟩
                        · refine G_if rfl (fun q10 => ?_) (fun q10 => ?_)
                          · exact G_ret rfl ⟨by rw [hx4, nI_1], hf3, h203⟩
                          · rw [h203] at q10
                            exact absurd (by decide) q10
                      · exact absurd (by rw [q6]; exact nI_le (Nat.le_refl _) hk) q8
  refine G_call rfl (ev_ptop_21 hI hw.t hm) ?_
  rintro r1 σ1 ⟨rfl, rfl⟩
  refine G_to [20] rfl ?_
  exact loop (topF M.2.2.2 M.1 * 41 + (M.1 - 0) + 1) _ 0 0 _ _ _ _ _ _ (by omega) htop (Nat.zero_le _) nI_0.symm im1_neg.symm rfl (by simp [hset]) ((frS.rf _).st (by decide))
theorem ev_pallLooks_21 (hI : isP σ 21 mb M) (hw : wfM M) (hm : mb + 121 ≤ 242) : Ev 118 [rMo, rP 21, .inl (nI mb)] σ (fun r σ' => r = some (.inl (nI (slF M M.1 0 0))) ∧ frS σ σ') := by
  have hn := hw.1
  have loop : ∀ (m i s : Nat) (x3 x4 : Int32) (σ1 : Hp), x4 = nI i → i + m = M.1 → x3 = nI s → frS σ σ1 → RR 118 5 [some rMo, some (rP 21), some (.inl (nI mb)), some (.inl x3), some (.inl x4)] [] σ1 (fun r σ' => r = some (.inl (nI (slF M m i s))) ∧ frS σ σ') := by
    intro m
    induction m with
    | zero =>
      intro i s x3 x4 σ1 hx4 hi hx3 hf
      have hI1 := hf.is (by decide) hI
      refine G_ald rfl mb rfl (by omega) (by decide) ?_
      rw [hI1.1]
      refine G_if rfl (fun h => ?_) (fun h => ?_)
      · exact G_ret rfl ⟨by rw [hx3]; rfl, hf⟩
      · rw [hx4] at h
        exact absurd (nle h (by omega) (by omega)) (by omega)
    | succ m ih =>
      intro i s x3 x4 σ1 hx4 hi hx3 hf
      have hI1 := hf.is (by decide) hI
      have hK := (hw.2.1 i (by omega)).1
      refine G_ald rfl mb rfl (by omega) (by decide) ?_
      rw [hI1.1]
      refine G_if rfl (fun h => ?_) (fun h => ?_)
      · rw [hx4] at h
        exact absurd (ile h (by omega) (by omega)) (by omega)
      · refine G_ald rfl (mb + 1 + i) (by rw [hx4]; exact ix1 mb i) (by omega) (by decide) ?_
        rw [(hI1.2 i (by omega)).1]
        refine G_call rfl (ev_search_21 hI1 hw hm (key := M.2.1 i) (by omega)) ?_
        rintro r1 σ2 ⟨rfl, hf2, -⟩
        refine G_to [5] rfl ?_
        exact ih (i + 1) _ _ _ σ2 (by rw [hx4]; exact nI_1 i) (by omega) (by rw [hx3, nI_add]) (hf.tr hf2)
  refine G_to [5] rfl ?_
  exact loop M.1 0 0 _ _ σ nI_0.symm (by omega) nI_0.symm (frS.rf σ)
theorem ev_search_22 (hI : isP σ 22 mb M) (hw : wfM M) (hm : mb + 121 ≤ 242) {key : Nat} (hk : key < 2147483648) : Ev 119 [rMo, rP 22, .inl (nI mb), .inl (nI key)] σ (fun r σ' => r = some (.inl (nI (looksF M key).2)) ∧ frS σ σ' ∧ σ'.1 6 0 20 = b2i (looksF M key).1) := by
  have hn := hw.1
  have htop : topF M.2.2.2 M.1 ≤ 64 := topF_le _ hw.t.2
  have loop : ∀ (N lv hr c : Nat) (x4 x5 x6 : Int32) (x7 x8 : Option PV) (σ1 : Hp), lv * 41 + (M.1 - hr) < N → lv ≤ 64 → hr ≤ M.1 → x4 = nI c → x5 = nI hr - 1 → x6 = nI lv - 1 → σ1.1 6 0 20 = 0 → frS σ σ1 →
      RR 119 20 [some rMo, some (rP 22), some (.inl (nI mb)), some (.inl (nI key)), some (.inl x4), some (.inl x5), some (.inl x6), x7, x8] [] σ1 (fun r σ' => r = some (.inl (nI (lkO M.2.1 M.2.2.2 M.1 key lv hr c).2)) ∧ frS σ σ' ∧ σ'.1 6 0 20 = b2i (lkO M.2.1 M.2.2.2 M.1 key lv hr c).1) := by
    intro N
    induction N with
    | zero =>
      intro lv hr c x4 x5 x6 x7 x8 σ1 h0
      omega
    | succ N ih =>
      intro lv hr c x4 x5 x6 x7 x8 σ1 hN hlv hhr hx4 hx5 hx6 h20 hf
      have hI1 := hf.is (by decide) hI
      cases lv with
      | zero =>
        refine G_if rfl (fun q => ?_) (fun q => ?_)
        · exact G_ret rfl ⟨by rw [hx4]; rfl, hf, by rw [h20]; rfl⟩
        · rw [hx6] at q
          exact absurd ((im1_lt (by omega)).mpr rfl) q
      | succ l =>
        have hb := bhF_le M.2.2.2 l hhr
        have hsk := lkI_skip M.2.1 M.2.2.2 key l (M.1 - hr) hr hr c
        rw [show hr + (M.1 - hr) = M.1 by omega] at hsk
        change _ = (if bhF M.1 M.2.2.2 l hr = M.1 then _ else if M.2.1 (bhF M.1 M.2.2.2 l hr) = key then _ else if key < M.2.1 (bhF M.1 M.2.2.2 l hr) then _ else lkI M.2.1 M.2.2.2 key l (M.1 - (bhF M.1 M.2.2.2 l hr + 1)) (bhF M.1 M.2.2.2 l hr + 1) (bhF M.1 M.2.2.2 l hr + 1) (c + 1)) at hsk
        refine G_if rfl (fun q => ?_) (fun q => ?_)
        · rw [hx6] at q
          exact absurd ((im1_lt (by omega)).mp q) (by omega)
        · refine G_if rfl (fun q2 => ?_) (fun q2 => ?_)
          · exact absurd h20 q2
          · refine G_callv rfl (by rw [hx5, im1_add, hx6, nI_pred]) (ev_nextOn_22 hI1 hw.t hm (f := hr) (l := l) hhr (by omega)) ?_
            rintro r1 σ2 ⟨rfl, rfl⟩
            refine G_ald rfl mb rfl (by omega) (by decide) ?_
            rw [hI1.1]
            have hx6' : x6 + -1 = nI l - 1 := by rw [hx6]; exact im1_dec l
            generalize hbe : bhF M.1 M.2.2.2 l hr = b at *
            refine G_if rfl (fun q3 => ?_) (fun q3 => ?_)
            · have q3 := ile q3 (by omega) (by omega)
              refine G_if rfl (fun q4 => ?_) (fun q4 => ?_)
              · refine G_if rfl (fun q5 => ?_) (fun q5 => ?_)
                · refine G_if rfl (fun q6 => ?_) (fun q6 => ?_)
                  · refine G_to [20] rfl ?_
                    rw [lkO, hsk, if_pos (by omega)]
                    exact ih l hr c _ _ _ _ _ _ (by omega) (by omega) hhr (by rw [hx4, show (0 : Int32) = nI 0 from rfl, nI_add, Nat.add_zero]) hx5 hx6' (by simp [hset]) (hf.st (by decide))
                  · exact absurd rfl q6
                · exact absurd rfl q5
              · exact absurd rfl q4
            · have q3 := nle q3 (by omega) (by omega)
              have hK := (hw.2.1 b q3).1
              refine G_if rfl (fun q4 => ?_) (fun q4 => ?_)
              · exact absurd q4 (by decide)
              · refine G_if rfl (fun q5 => ?_) (fun q5 => ?_)
                · exact absurd q5 (by decide)
                · refine G_ald rfl (mb + 1 + b) (ix1 mb b) (by omega) (by decide) ?_
                  rw [(hI1.2 b q3).1]
                  refine G_if rfl (fun q6 => ?_) (fun q6 => ?_)
                  · have q6 : ¬ M.2.1 b = key := fun e => q6 (by rw [e])
                    refine G_if rfl (fun q7 => ?_) (fun q7 => ?_)
                    · exact absurd q7 (by decide)
                    · have hf3 : frS σ (hset σ2.1 6 0 20 0, σ2.2) := hf.st (by decide)
                      have h203 : (hset σ2.1 6 0 20 0, σ2.2).1 6 0 20 = 0 := by simp [hset]
                      have hI3 := hf3.is (by decide) hI
                      generalize (hset σ2.1 6 0 20 0, σ2.2) = σ3 at hf3 h203 hI3 ⊢
                      refine G_ald rfl (mb + 1 + b) (ix1 mb b) (by omega) (by decide) ?_
                      rw [(hI3.2 b q3).1]
                      refine G_if rfl (fun q8 => ?_) (fun q8 => ?_)
                      · have q8 := ile q8 hk (by omega)
                        refine G_to [20] rfl ?_
                        rw [lkO, hsk, if_neg (by omega), if_neg q6, if_pos (by omega)]
                        exact ih l hr (c + 1) _ _ _ _ _ _ (by omega) (by omega) hhr (by rw [hx4]; exact nI_1 c) hx5 hx6' h203 hf3
                      · have q8 := nle q8 hk (by omega)
                        refine G_to [20] rfl ?_
                        have e : lkO M.2.1 M.2.2.2 M.1 key (l + 1) hr c = lkO M.2.1 M.2.2.2 M.1 key (l + 1) (b + 1) (c + 1) := by
                          rw [lkO, lkO, hsk, if_neg (by omega), if_neg q6, if_neg (by omega)]
                        rw [e]
                        exact ih (l + 1) (b + 1) (c + 1) _ _ _ _ _ _ (by omega) (by omega) (by omega) (by rw [hx4]; exact nI_1 c) (nI_pred b).symm hx6 h203 hf3
                  · have q6 := ieq (Classical.not_not.mp q6) (by omega) hk
                    refine G_if rfl (fun q7 => ?_) (fun q7 => ?_)
                    · exact absurd q7 (by decide)
                    · have hf3 : frS σ (hset σ2.1 6 0 20 1, σ2.2) := hf.st (by decide)
                      have h203 : (hset σ2.1 6 0 20 1, σ2.2).1 6 0 20 = 1 := by simp [hset]
                      have hI3 := hf3.is (by decide) hI
                      generalize (hset σ2.1 6 0 20 1, σ2.2) = σ3 at hf3 h203 hI3 ⊢
                      refine G_ald rfl (mb + 1 + b) (ix1 mb b) (by omega) (by decide) ?_
                      rw [(hI3.2 b q3).1]
                      refine G_if rfl (fun q8 => ?_) (fun q8 => ?_)
                      · have eO : lkO M.2.1 M.2.2.2 M.1 key (l + 1) hr c = (true, c + 1) := by
                          rw [lkO, hsk, if_neg (by omega), if_pos q6]
                        rw [eO]
                        refine G_to [20] rfl ?_
                        refine G_if rfl (fun q9 => ?_) (fun q9 => ?_)
                        · exact G_ret rfl ⟨by rw [hx4, nI_1], hf3, h203⟩
                        · refine G_if rfl (fun q10 => ?_) (fun q10 => ?_)
                          · exact G_ret rfl ⟨by rw [hx4, nI_1], hf3, h203⟩
                          · rw [h203] at q10
                            exact absurd (by decide) q10
                      · exact absurd (by rw [q6]; exact nI_le (Nat.le_refl _) hk) q8
  refine G_call rfl (ev_ptop_22 hI hw.t hm) ?_
  rintro r1 σ1 ⟨rfl, rfl⟩
  refine G_to [20] rfl ?_
  exact loop (topF M.2.2.2 M.1 * 41 + (M.1 - 0) + 1) _ 0 0 _ _ _ _ _ _ (by omega) htop (Nat.zero_le _) nI_0.symm im1_neg.symm rfl (by simp [hset]) ((frS.rf _).st (by decide))
theorem ev_pallLooks_22 (hI : isP σ 22 mb M) (hw : wfM M) (hm : mb + 121 ≤ 242) : Ev 118 [rMo, rP 22, .inl (nI mb)] σ (fun r σ' => r = some (.inl (nI (slF M M.1 0 0))) ∧ frS σ σ') := by
  have hn := hw.1
  have loop : ∀ (m i s : Nat) (x3 x4 : Int32) (σ1 : Hp), x4 = nI i → i + m = M.1 → x3 = nI s → frS σ σ1 → RR 118 5 [some rMo, some (rP 22), some (.inl (nI mb)), some (.inl x3), some (.inl x4)] [] σ1 (fun r σ' => r = some (.inl (nI (slF M m i s))) ∧ frS σ σ') := by
    intro m
    induction m with
    | zero =>
      intro i s x3 x4 σ1 hx4 hi hx3 hf
      have hI1 := hf.is (by decide) hI
      refine G_ald rfl mb rfl (by omega) (by decide) ?_
      rw [hI1.1]
      refine G_if rfl (fun h => ?_) (fun h => ?_)
      · exact G_ret rfl ⟨by rw [hx3]; rfl, hf⟩
      · rw [hx4] at h
        exact absurd (nle h (by omega) (by omega)) (by omega)
    | succ m ih =>
      intro i s x3 x4 σ1 hx4 hi hx3 hf
      have hI1 := hf.is (by decide) hI
      have hK := (hw.2.1 i (by omega)).1
      refine G_ald rfl mb rfl (by omega) (by decide) ?_
      rw [hI1.1]
      refine G_if rfl (fun h => ?_) (fun h => ?_)
      · rw [hx4] at h
        exact absurd (ile h (by omega) (by omega)) (by omega)
      · refine G_ald rfl (mb + 1 + i) (by rw [hx4]; exact ix1 mb i) (by omega) (by decide) ?_
        rw [(hI1.2 i (by omega)).1]
        refine G_call rfl (ev_search_22 hI1 hw hm (key := M.2.1 i) (by omega)) ?_
        rintro r1 σ2 ⟨rfl, hf2, -⟩
        refine G_to [5] rfl ?_
        exact ih (i + 1) _ _ _ σ2 (by rw [hx4]; exact nI_1 i) (by omega) (by rw [hx3, nI_add]) (hf.tr hf2)
  refine G_to [5] rfl ?_
  exact loop M.1 0 0 _ _ σ nI_0.symm (by omega) nI_0.symm (frS.rf σ)
end MO
