/-! Items: what it reads. -/
section IT
variable {σ : Hp} {j : Nat} {M : AM}
theorem ev_lesser (hI : isI σ j M) (hw : wfM M) {key : Nat} (hk : key < 2147483648) : Ev 10 [rI j, .inl (nI key)] σ (fun r σ' => r = some (.inl (nI (les M key))) ∧ σ' = σ) := by
  have hn := hw.1
  have loop : ∀ (m i : Nat) (x : Int32), x = nI i → i + m = M.1 → RR 10 2 [some (rI j), some (.inl (nI key)), some (.inl x)] [] σ (fun r σ' => r = some (.inl (nI (scn (fun i => decide (M.2.1 i < key)) m i))) ∧ σ' = σ) := by
    intro m
    induction m with
    | zero =>
      intro i x hx hi
      refine G_if rfl (fun h => ?_) (fun h => ?_)
      · exact G_ret rfl ⟨by rw [hx]; rfl, rfl⟩
      · rw [hI.1, hx] at h
        exact absurd (nle h (by omega) (by omega)) (by omega)
    | succ m ih =>
      intro i x hx hi
      have hiM : i < M.1 := by omega
      refine G_if rfl (fun h => ?_) (fun h => ?_)
      · rw [hI.1, hx] at h
        exact absurd (ile h (by omega) (by omega)) (by omega)
      · refine G_ald rfl i hx (by omega) (by decide) ?_
        rw [(hI.2 i hiM).1]
        have hKi := (hw.2.1 i hiM).1
        refine G_if rfl (fun h => ?_) (fun h => ?_)
        · have h := ile h hk (by omega)
          rw [scn_f (by simpa using h)]
          exact G_ret rfl ⟨by rw [hx], rfl⟩
        · have h := nle h hk (by omega)
          rw [scn_t (by simpa using h)]
          refine G_to [2] rfl ?_
          exact ih (i + 1) _ (by rw [hx]; exact nI_1 i) (by omega)
  refine G_to [2] rfl ?_
  exact loop M.1 0 0 nI_0.symm (by omega)
theorem ev_indexOf (hI : isI σ j M) (hw : wfM M) {key : Nat} (hk : key < 2147483648) : Ev 9 [rI j, .inl (nI key)] σ (fun r σ' => σ' = σ ∧ ((has M key ∧ r = some (.inl (nI (les M key)))) ∨ (¬ has M key ∧ r = some (.inl (-1))))) := by
  have hn := hw.1
  have hle := les_le M key
  refine G_call rfl (ev_lesser hI hw hk) ?_
  rintro r1 σ1 ⟨rfl, rfl⟩
  refine G_if rfl (fun h => ?_) (fun h => ?_)
  · rw [hI.1] at h
    have h := ile h (by omega) (by omega)
    exact G_ret rfl ⟨rfl, Or.inr ⟨fun q => by have := q.1; omega, rfl⟩⟩
  · rw [hI.1] at h
    have h := nle h (by omega) (by omega)
    refine G_ald rfl (les M key) rfl (by omega) (by decide) ?_
    have hKi := (hw.2.1 _ h).1
    rw [(hI.2 _ h).1]
    refine G_if rfl (fun h2 => ?_) (fun h2 => ?_)
    · exact G_ret rfl ⟨rfl, Or.inr ⟨fun q => h2 (by rw [q.2]), rfl⟩⟩
    · have h3 := ieq (Classical.not_not.mp h2) (by omega) hk
      exact G_ret rfl ⟨rfl, Or.inl ⟨⟨h, h3⟩, rfl⟩⟩
theorem ev_top (hI : isI σ j M) (hw : wfT M) : Ev 12 [rI j] σ (fun r σ' => r = some (.inl (nI (topF M.2.2.2 M.1))) ∧ σ' = σ) := by
  have hn := hw.1
  have htop : ∀ i, i ≤ M.1 → topF M.2.2.2 i ≤ 64 := fun i hi => topF_le i (fun k hk => hw.2 k (by omega))
  have loop : ∀ (m i : Nat) (x1 x2 : Int32), x1 = nI (topF M.2.2.2 i) → x2 = nI i → i + m = M.1 → RR 12 4 [some (rI j), some (.inl x1), some (.inl x2)] [] σ (fun r σ' => r = some (.inl (nI (topF M.2.2.2 M.1))) ∧ σ' = σ) := by
    intro m
    induction m with
    | zero =>
      intro i x1 x2 hx1 hx2 hi
      refine G_if rfl (fun h => ?_) (fun h => ?_)
      · have : i = M.1 := by omega
        subst this
        exact G_ret rfl ⟨by rw [hx1], rfl⟩
      · rw [hI.1, hx2] at h
        exact absurd (nle h (by omega) (by omega)) (by omega)
    | succ m ih =>
      intro i x1 x2 hx1 hx2 hi
      have hiM : i < M.1 := by omega
      refine G_if rfl (fun h => ?_) (fun h => ?_)
      · rw [hI.1, hx2] at h
        exact absurd (ile h (by omega) (by omega)) (by omega)
      · refine G_ald rfl i hx2 (by omega) (by decide) ?_
        rw [(hI.2 i hiM).2.2]
        have hTi := hw.2 i hiM
        have := htop i (by omega)
        refine G_to [4] rfl ?_
        exact ih (i + 1) _ _ (by rw [hx1, nI_1, imax (by omega) (by omega)]; rfl) (by rw [hx2]; exact nI_1 i) (by omega)
  refine G_to [4] rfl ?_
  exact loop M.1 0 0 0 nI_0.symm nI_0.symm (by omega)
theorem ev_ahead (hI : isI σ j M) (hw : wfT M) {p l : Nat} (hp : p ≤ M.1) (hl : l < 2147483648) : Ev 14 [rI j, .inl (nI p), .inl (nI l)] σ (fun r σ' => r = some (.inl (nI (ahF M.2.2.2 l p) - 1)) ∧ σ' = σ) := by
  have hn := hw.1
  have loop : ∀ (q : Nat) (x : Int32), x = nI q - 1 → q ≤ M.1 → RR 14 11 [some (rI j), some (.inl (nI p)), some (.inl (nI l)), some (.inl x)] [] σ (fun r σ' => r = some (.inl (nI (ahF M.2.2.2 l q) - 1)) ∧ σ' = σ) := by
    intro q
    induction q with
    | zero =>
      intro x hx hq
      refine G_if rfl (fun h => ?_) (fun h => ?_)
      · exact G_ret rfl ⟨by rw [hx]; rfl, rfl⟩
      · rw [hx] at h
        exact absurd ((im1_lt (by omega)).mpr rfl) h
    | succ q ih =>
      intro x hx hq
      refine G_if rfl (fun h => ?_) (fun h => ?_)
      · rw [hx] at h
        exact absurd ((im1_lt (by omega)).mp h) (by omega)
      · refine G_ald rfl q (by rw [hx]; exact nI_pred q) (by omega) (by decide) ?_
        rw [(hI.2 q (by omega)).2.2]
        have hT := hw.2 q (by omega)
        refine G_if rfl (fun h2 => ?_) (fun h2 => ?_)
        · have h2 := ile h2 hl (by omega)
          refine G_ret rfl ⟨?_, rfl⟩
          rw [hx, ahF, if_neg (by omega)]
        · have h2 := nle h2 hl (by omega)
          refine G_to [11] rfl ?_
          rw [ahF, if_pos h2]
          exact ih _ (by rw [hx]; exact im1_dec q) (by omega)
  refine G_to [11] rfl ?_
  refine loop p _ ?_ hp
  rw [hI.1, imin (by omega) (by omega), Nat.min_eq_left hp]
theorem ev_behind (hI : isI σ j M) (hw : wfT M) {p l : Nat} (hp : p ≤ M.1) (hl : l < 2147483648) : Ev 15 [rI j, .inl (nI p), .inl (nI l)] σ (fun r σ' => r = some (.inl (nI (bhF M.1 M.2.2.2 l p))) ∧ σ' = σ) := by
  have hn := hw.1
  have loop : ∀ (m i : Nat) (x : Int32), x = nI i → i + m = M.1 → RR 15 6 [some (rI j), some (.inl (nI p)), some (.inl (nI l)), some (.inl x)] [] σ (fun r σ' => r = some (.inl (nI (scn (fun i => decide (M.2.2.2 i < l)) m i))) ∧ σ' = σ) := by
    intro m
    induction m with
    | zero =>
      intro i x hx hi
      refine G_if rfl (fun h => ?_) (fun h => ?_)
      · refine G_ret rfl ⟨?_, rfl⟩
        rw [hx, hI.1, imin (by omega) (by omega), Nat.min_eq_left (by omega)]
        rfl
      · rw [hI.1, hx] at h
        exact absurd (nle h (by omega) (by omega)) (by omega)
    | succ m ih =>
      intro i x hx hi
      have hiM : i < M.1 := by omega
      refine G_if rfl (fun h => ?_) (fun h => ?_)
      · rw [hI.1, hx] at h
        exact absurd (ile h (by omega) (by omega)) (by omega)
      · refine G_ald rfl i hx (by omega) (by decide) ?_
        rw [(hI.2 i hiM).2.2]
        have hTi := hw.2 i hiM
        refine G_if rfl (fun h => ?_) (fun h => ?_)
        · have h := ile h hl (by omega)
          rw [scn_f (by simpa using h)]
          refine G_ret rfl ⟨?_, rfl⟩
          rw [hx, hI.1, imin (by omega) (by omega), Nat.min_eq_left (by omega)]
        · have h := nle h hl (by omega)
          rw [scn_t (by simpa using h)]
          refine G_to [6] rfl ?_
          exact ih (i + 1) _ (by rw [hx]; exact nI_1 i) (by omega)
  refine G_to [6] rfl ?_
  refine loop (M.1 - p) p _ ?_ (by omega)
  rw [← nI_0, imax (by omega) (by omega), Nat.max_eq_left (Nat.zero_le _)]
theorem ev_countOf (hI : isI σ j M) (hw : wfT M) {h f t : Nat} (hh : h < 2147483648) (hf : f ≤ M.1) (ht : t ≤ M.1) : Ev 16 [rI j, .inl (nI h), .inl (nI f), .inl (nI t)] σ (fun r σ' => r = some (.inl (nI (cntF M.2.2.2 h (t - f) f))) ∧ σ' = σ) := by
  have hn := hw.1
  have loop : ∀ (m i c : Nat) (x4 x5 : Int32), x4 = nI c → x5 = nI i → i + m = max t i → i ≤ M.1 → RR 16 10 [some (rI j), some (.inl (nI h)), some (.inl (nI f)), some (.inl (nI t)), some (.inl x4), some (.inl x5)] [] σ (fun r σ' => r = some (.inl (nI (c + cntF M.2.2.2 h m i))) ∧ σ' = σ) := by
    intro m
    induction m with
    | zero =>
      intro i c x4 x5 hx4 hx5 hi hiM
      refine G_if rfl (fun q => ?_) (fun q => ?_)
      · exact G_ret rfl ⟨by rw [hx4]; rfl, rfl⟩
      · rw [hx5] at q
        exact absurd (nle q (by omega) (by omega)) (by omega)
    | succ m ih =>
      intro i c x4 x5 hx4 hx5 hi hiM
      have hit : i < t := by omega
      refine G_if rfl (fun q => ?_) (fun q => ?_)
      · rw [hx5] at q
        exact absurd (ile q (by omega) (by omega)) (by omega)
      · refine G_if rfl (fun q => ?_) (fun q => ?_)
        · rw [hI.1, hx5] at q
          exact absurd (ile q (by omega) (by omega)) (by omega)
        · refine G_ald rfl i hx5 (by omega) (by decide) ?_
          rw [(hI.2 i (by omega)).2.2]
          have hTi := hw.2 i (by omega)
          refine G_if rfl (fun q => ?_) (fun q => ?_)
          · refine G_to [10] rfl ?_
            rw [cntF, if_neg (fun e => q (by rw [e])), Nat.zero_add]
            exact ih (i + 1) c _ _ hx4 (by rw [hx5]; exact nI_1 i) (by omega) (by omega)
          · have q := ieq (Classical.not_not.mp q) (by omega) hh
            refine G_to [10] rfl ?_
            rw [cntF, if_pos q, ← Nat.add_assoc]
            exact ih (i + 1) (c + 1) _ _ (by rw [hx4]; exact nI_1 c) (by rw [hx5]; exact nI_1 i) (by omega) (by omega)
  refine G_to [10] rfl ?_
  have := loop (t - f) f 0 0 (if nI f < 0 then 0 else nI f) nI_0.symm (by rw [← nI_0, imax (by omega) (by omega), Nat.max_eq_left (Nat.zero_le _)]) (by omega) hf
  rw [Nat.zero_add] at this
  exact this
theorem ev_nth (hI : isI σ j M) (hw : wfT M) {k h f t : Nat} (hh : h < 2147483648) (hf : f ≤ t) (ht : t ≤ M.1) (hk1 : 1 ≤ k) (hk : k ≤ cntF M.2.2.2 h (t - f) f) : Ev 17 [rI j, .inl (nI k), .inl (nI h), .inl (nI f), .inl (nI t)] σ (fun r σ' => r = some (.inl (nI (nthF M.2.2.2 h (t - f) f k))) ∧ σ' = σ) := by
  have hn := hw.1
  have hk2 := cntF_le M.2.2.2 h (t - f) f
  have loop : ∀ (m i c k' : Nat) (x5 x6 : Int32), x5 = nI c → x6 = nI i → i + m = t → c + k' = k → 1 ≤ k' → k' ≤ cntF M.2.2.2 h m i → RR 17 10 [some (rI j), some (.inl (nI k)), some (.inl (nI h)), some (.inl (nI f)), some (.inl (nI t)), some (.inl x5), some (.inl x6)] [] σ (fun r σ' => r = some (.inl (nI (nthF M.2.2.2 h m i k'))) ∧ σ' = σ) := by
    intro m
    induction m with
    | zero =>
      intro i c k' x5 x6 hx5 hx6 hi hc h1 h2
      simp [cntF] at h2
      omega
    | succ m ih =>
      intro i c k' x5 x6 hx5 hx6 hi hc h1 h2
      refine G_if rfl (fun q => ?_) (fun q => ?_)
      · rw [hx6] at q
        exact absurd (ile q (by omega) (by omega)) (by omega)
      · refine G_if rfl (fun q => ?_) (fun q => ?_)
        · rw [hI.1, hx6] at q
          exact absurd (ile q (by omega) (by omega)) (by omega)
        · refine G_ald rfl i hx6 (by omega) (by decide) ?_
          rw [(hI.2 i (by omega)).2.2]
          have hTi := hw.2 i (by omega)
          rw [cntF] at h2
          refine G_if rfl (fun q => ?_) (fun q => ?_)
          · have q2 : ¬ M.2.2.2 i = h := fun e => q (by rw [e])
            refine G_to [10] rfl ?_
            rw [nthF, if_neg q2]
            rw [if_neg q2] at h2
            exact ih (i + 1) c k' _ _ hx5 (by rw [hx6]; exact nI_1 i) (by omega) hc h1 (by omega)
          · have q := ieq (Classical.not_not.mp q) (by omega) hh
            rw [if_pos q] at h2
            rw [nthF, if_pos q]
            refine G_if rfl (fun q2 => ?_) (fun q2 => ?_)
            · rw [hx5, nI_1] at q2
              have q2 : ¬ c + 1 = k := fun e => q2 (by rw [e])
              refine G_to [10] rfl ?_
              rw [if_neg (by omega)]
              exact ih (i + 1) (c + 1) (k' - 1) _ _ (by rw [hx5]; exact nI_1 c) (by rw [hx6]; exact nI_1 i) (by omega) (by omega) (by omega) (by omega)
            · rw [hx5, nI_1] at q2
              have q2 := ieq (Classical.not_not.mp q2) (by omega) (by omega)
              rw [if_pos (by omega)]
              exact G_ret rfl ⟨by rw [hx6], rfl⟩
  refine G_to [10] rfl ?_
  exact loop (t - f) f 0 k 0 _ nI_0.symm (by rw [← nI_0, imax (by omega) (by omega), Nat.max_eq_left (Nat.zero_le _)]) (by omega) (by omega) hk1 hk
end IT
