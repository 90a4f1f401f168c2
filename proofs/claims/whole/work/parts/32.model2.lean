/-! The model: gaps laid, a key put in. -/
def pU (σ : Hp) (P mb c n i : Nat) (f : Nat → Nat) : Prop := (∀ x, x < i → σ.1 P 0 (mb + c + x) = nI (f x)) ∧ ∀ x, i < x → x ≤ n → σ.1 P 0 (mb + c + x) = nI (f (x - 1))
def pD (σ : Hp) (P mb c n i p : Nat) (f : Nat → Nat) : Prop := (∀ x, x < i → σ.1 P 0 (mb + c + x) = nI (delF f p x)) ∧ ∀ x, i < x → x < n → σ.1 P 0 (mb + c + x) = nI (f x)
theorem isP_up {σ : Hp} {P mb q v : Nat} {M : AM} (hI : isP σ P mb M) (hn : M.1 ≤ 40) (hq : q < 40) : isP (hset σ.1 P 0 (mb + 81 + q) (nI v), σ.2) P mb (setT M (upN M.2.2.2 q v)) := by
  refine ⟨?_, fun i hi => ?_⟩
  · show hset σ.1 P 0 (mb + 81 + q) (nI v) P 0 mb = _
    unfold hset
    rw [if_neg (by omega)]
    exact hI.1
  · obtain ⟨h1, h2, h3⟩ := hI.2 i hi
    have hi : i < M.1 := hi
    refine ⟨?_, ?_, ?_⟩
    · show hset σ.1 P 0 (mb + 81 + q) (nI v) P 0 (mb + 1 + i) = _
      unfold hset
      rw [if_neg (by omega)]
      exact h1
    · show hset σ.1 P 0 (mb + 81 + q) (nI v) P 0 (mb + 41 + i) = _
      unfold hset
      rw [if_neg (by omega)]
      exact h2
    · show hset σ.1 P 0 (mb + 81 + q) (nI v) P 0 (mb + 81 + i) = nI (upN M.2.2.2 q v i)
      unfold hset upN
      by_cases hiq : i = q
      · rw [if_pos (by omega), if_pos hiq]
      · rw [if_neg (by omega), if_neg hiq]
        exact h3
section MO
variable {σ : Hp} {mb : Nat} {M : AM}
theorem ev_layGap_21 (hI : isP σ 21 mb M) (hw : wfT M) (hm : mb + 121 ≤ 242) {l q f : Nat} (hl : l < 2147483648) (hq : q ≤ M.1) (hf : f ≤ M.1) : Ev 106 [rMo, rP 21, .inl (nI mb), .inl (nI l), .inl (nI q - 1), .inl (nI f)] σ (fun r σ' => r = none ∧ frS σ σ' ∧ σ'.1 6 0 21 = nI (ahF M.2.2.2 l q) - 1 ∧ σ'.1 6 0 22 = nI (bhF M.1 M.2.2.2 l f)) := by
  have hn := hw.1
  have loop2 : ∀ (m i : Nat) (σ2 : Hp), i + m = M.1 → σ2.1 6 0 22 = nI i → σ2.1 6 0 21 = nI (ahF M.2.2.2 l q) - 1 → frS σ σ2 → RR 106 47 [some rMo, some (rP 21), some (.inl (nI mb)), some (.inl (nI l)), some (.inl (nI q - 1)), some (.inl (nI f))] [] σ2 (fun r σ' => r = none ∧ frS σ σ' ∧ σ'.1 6 0 21 = nI (ahF M.2.2.2 l q) - 1 ∧ σ'.1 6 0 22 = nI (scn (fun i => decide (M.2.2.2 i < l)) m i)) := by
    intro m
    induction m with
    | zero =>
      intro i σ2 hi h22 h21 hfr
      have hI2 := hfr.is (by decide) hI
      refine G_ald rfl mb rfl (by omega) (by decide) ?_
      rw [hI2.1]
      refine G_if rfl (fun h => ?_) (fun h => ?_)
      · exact G_ret rfl ⟨rfl, hfr, h21, h22⟩
      · rw [h22] at h
        exact absurd (nle h (by omega) (by omega)) (by omega)
    | succ m ih =>
      intro i σ2 hi h22 h21 hfr
      have hI2 := hfr.is (by decide) hI
      have hT := hw.2 i (by omega)
      refine G_ald rfl mb rfl (by omega) (by decide) ?_
      rw [hI2.1]
      refine G_if rfl (fun h => ?_) (fun h => ?_)
      · rw [h22] at h
        exact absurd (ile h (by omega) (by omega)) (by omega)
      · refine G_ald rfl (mb + 81 + i) (by rw [h22]; exact ix81 mb i) (by omega) (by decide) ?_
        rw [(hI2.2 i (by omega)).2.2]
        refine G_if rfl (fun h2 => ?_) (fun h2 => ?_)
        · have h2 := ile h2 hl (by omega)
          rw [scn_f (by simpa using h2)]
          exact G_ret rfl ⟨rfl, hfr, h21, h22⟩
        · have h2 := nle h2 hl (by omega)
          rw [scn_t (by simpa using h2)]
          refine G_to [47] rfl ?_
          refine ih (i + 1) _ (by omega) ?_ ?_ (hfr.st (by decide))
          · show hset σ2.1 6 0 22 (σ2.1 6 0 22 + 1) 6 0 22 = _
            unfold hset
            rw [if_pos ⟨rfl, rfl, rfl⟩, h22]
            exact nI_1 i
          · show hset σ2.1 6 0 22 (σ2.1 6 0 22 + 1) 6 0 21 = _
            unfold hset
            rw [if_neg (by omega)]
            exact h21
  have mid : ∀ (σ2 : Hp), σ2.1 6 0 21 = nI (ahF M.2.2.2 l q) - 1 → frS σ σ2 → RR 106 41 [some rMo, some (rP 21), some (.inl (nI mb)), some (.inl (nI l)), some (.inl (nI q - 1)), some (.inl (nI f))] [] σ2 (fun r σ' => r = none ∧ frS σ σ' ∧ σ'.1 6 0 21 = nI (ahF M.2.2.2 l q) - 1 ∧ σ'.1 6 0 22 = nI (bhF M.1 M.2.2.2 l f)) := by
    intro σ2 h21 hfr
    refine G_to [47] rfl ?_
    refine loop2 (M.1 - f) f _ (by omega) ?_ ?_ (hfr.st (by decide))
    · show hset σ2.1 6 0 22 (nI f) 6 0 22 = _
      unfold hset
      rw [if_pos ⟨rfl, rfl, rfl⟩]
    · show hset σ2.1 6 0 22 (nI f) 6 0 21 = _
      unfold hset
      rw [if_neg (by omega)]
      exact h21
  have loop1 : ∀ (q' : Nat) (σ2 : Hp), q' ≤ M.1 → σ2.1 6 0 21 = nI q' - 1 → ahF M.2.2.2 l q' = ahF M.2.2.2 l q → frS σ σ2 → RR 106 6 [some rMo, some (rP 21), some (.inl (nI mb)), some (.inl (nI l)), some (.inl (nI q - 1)), some (.inl (nI f))] [] σ2 (fun r σ' => r = none ∧ frS σ σ' ∧ σ'.1 6 0 21 = nI (ahF M.2.2.2 l q) - 1 ∧ σ'.1 6 0 22 = nI (bhF M.1 M.2.2.2 l f)) := by
    intro q'
    induction q' with
    | zero =>
      intro σ2 hq' h21 hah hfr
      refine G_if rfl (fun h => ?_) (fun h => ?_)
      · exact mid σ2 (by rw [h21, ← hah]; rfl) hfr
      · rw [h21] at h
        exact absurd ((im1_lt (by omega)).mpr rfl) h
    | succ q' ih =>
      intro σ2 hq' h21 hah hfr
      have hI2 := hfr.is (by decide) hI
      have hT := hw.2 q' (by omega)
      refine G_if rfl (fun h => ?_) (fun h => ?_)
      · rw [h21] at h
        exact absurd ((im1_lt (by omega)).mp h) (by omega)
      · refine G_ald rfl (mb + 81 + q') (by rw [h21, nI_pred]; exact ix81 mb q') (by omega) (by decide) ?_
        rw [(hI2.2 q' (by omega)).2.2]
        refine G_if rfl (fun h2 => ?_) (fun h2 => ?_)
        · have h2 := ile h2 hl (by omega)
          rw [ahF, if_neg (by omega)] at hah
          exact mid σ2 (by rw [h21, hah]) hfr
        · have h2 := nle h2 hl (by omega)
          rw [ahF, if_pos h2] at hah
          refine G_to [6] rfl ?_
          refine ih _ (by omega) ?_ hah (hfr.st (by decide))
          show hset σ2.1 6 0 21 (σ2.1 6 0 21 - 1) 6 0 21 = _
          unfold hset
          rw [if_pos ⟨rfl, rfl, rfl⟩, h21, nI_pred]
  refine G_to [6] rfl ?_
  refine loop1 q _ hq ?_ rfl ((frS.rf σ).st (by decide))
  show hset σ.1 6 0 21 (nI q - 1) 6 0 21 = _
  unfold hset
  rw [if_pos ⟨rfl, rfl, rfl⟩]
theorem ev_move_21 (hm : mb + 121 ≤ 242) {t f : Nat} (ht : t < 40) (hf : f < 40) : Ev 109 [rP 21, .inl (nI mb), .inl (nI t), .inl (nI f)] σ (fun r σ' => r = none ∧ frP 21 mb σ σ' ∧ σ'.1 21 0 mb = σ.1 21 0 mb ∧ ∀ x, x < 40 → (σ'.1 21 0 (mb + 1 + x) = if x = t then σ.1 21 0 (mb + 1 + f) else σ.1 21 0 (mb + 1 + x)) ∧ (σ'.1 21 0 (mb + 41 + x) = if x = t then σ.1 21 0 (mb + 41 + f) else σ.1 21 0 (mb + 41 + x)) ∧ (σ'.1 21 0 (mb + 81 + x) = if x = t then σ.1 21 0 (mb + 81 + f) else σ.1 21 0 (mb + 81 + x))) := by
  refine G_ald rfl (mb + 1 + f) (ix1 mb f) (by omega) (by decide) ?_
  refine G_ast rfl (mb + 1 + t) (ix1 mb t) (by omega) (by decide) ?_
  refine G_ald rfl (mb + 41 + f) (ix41 mb f) (by omega) (by decide) ?_
  refine G_ast rfl (mb + 41 + t) (ix41 mb t) (by omega) (by decide) ?_
  refine G_ald rfl (mb + 81 + f) (ix81 mb f) (by omega) (by decide) ?_
  refine G_ast rfl (mb + 81 + t) (ix81 mb t) (by omega) (by decide) ?_
  have e41 : hset σ.1 21 0 (mb + 1 + t) (σ.1 21 0 (mb + 1 + f)) 21 0 (mb + 41 + f) = σ.1 21 0 (mb + 41 + f) := by
    unfold hset
    rw [if_neg (by omega)]
  have e81 : hset (hset σ.1 21 0 (mb + 1 + t) (σ.1 21 0 (mb + 1 + f))) 21 0 (mb + 41 + t) (σ.1 21 0 (mb + 41 + f)) 21 0 (mb + 81 + f) = σ.1 21 0 (mb + 81 + f) := by
    unfold hset
    rw [if_neg (by omega), if_neg (by omega)]
  refine G_ret rfl ⟨rfl, ((((frP.rf 21 mb σ).st (by decide) (by omega)).st (by decide) (by omega)).st (by decide) (by omega)), ?_, fun x hx => ?_⟩
  · simp only [hset]
    rw [if_neg (by omega), if_neg (by omega), if_neg (by omega)]
  · dsimp only
    rw [e41, e81]
    refine ⟨?_, ?_, ?_⟩
    · unfold hset
      rw [if_neg (by omega), if_neg (by omega)]
      by_cases h : x = t
      · rw [if_pos (by omega), if_pos h]
      · rw [if_neg (by omega), if_neg h]
    · unfold hset
      rw [if_neg (by omega)]
      by_cases h : x = t
      · rw [if_pos (by omega), if_pos h]
      · rw [if_neg (by omega), if_neg (by omega), if_neg h]
    · unfold hset
      by_cases h : x = t
      · rw [if_pos (by omega), if_pos h]
      · rw [if_neg (by omega), if_neg (by omega), if_neg (by omega), if_neg h]
theorem ev_layGap_22 (hI : isP σ 22 mb M) (hw : wfT M) (hm : mb + 121 ≤ 242) {l q f : Nat} (hl : l < 2147483648) (hq : q ≤ M.1) (hf : f ≤ M.1) : Ev 106 [rMo, rP 22, .inl (nI mb), .inl (nI l), .inl (nI q - 1), .inl (nI f)] σ (fun r σ' => r = none ∧ frS σ σ' ∧ σ'.1 6 0 21 = nI (ahF M.2.2.2 l q) - 1 ∧ σ'.1 6 0 22 = nI (bhF M.1 M.2.2.2 l f)) := by
  have hn := hw.1
  have loop2 : ∀ (m i : Nat) (σ2 : Hp), i + m = M.1 → σ2.1 6 0 22 = nI i → σ2.1 6 0 21 = nI (ahF M.2.2.2 l q) - 1 → frS σ σ2 → RR 106 47 [some rMo, some (rP 22), some (.inl (nI mb)), some (.inl (nI l)), some (.inl (nI q - 1)), some (.inl (nI f))] [] σ2 (fun r σ' => r = none ∧ frS σ σ' ∧ σ'.1 6 0 21 = nI (ahF M.2.2.2 l q) - 1 ∧ σ'.1 6 0 22 = nI (scn (fun i => decide (M.2.2.2 i < l)) m i)) := by
    intro m
    induction m with
    | zero =>
      intro i σ2 hi h22 h21 hfr
      have hI2 := hfr.is (by decide) hI
      refine G_ald rfl mb rfl (by omega) (by decide) ?_
      rw [hI2.1]
      refine G_if rfl (fun h => ?_) (fun h => ?_)
      · exact G_ret rfl ⟨rfl, hfr, h21, h22⟩
      · rw [h22] at h
        exact absurd (nle h (by omega) (by omega)) (by omega)
    | succ m ih =>
      intro i σ2 hi h22 h21 hfr
      have hI2 := hfr.is (by decide) hI
      have hT := hw.2 i (by omega)
      refine G_ald rfl mb rfl (by omega) (by decide) ?_
      rw [hI2.1]
      refine G_if rfl (fun h => ?_) (fun h => ?_)
      · rw [h22] at h
        exact absurd (ile h (by omega) (by omega)) (by omega)
      · refine G_ald rfl (mb + 81 + i) (by rw [h22]; exact ix81 mb i) (by omega) (by decide) ?_
        rw [(hI2.2 i (by omega)).2.2]
        refine G_if rfl (fun h2 => ?_) (fun h2 => ?_)
        · have h2 := ile h2 hl (by omega)
          rw [scn_f (by simpa using h2)]
          exact G_ret rfl ⟨rfl, hfr, h21, h22⟩
        · have h2 := nle h2 hl (by omega)
          rw [scn_t (by simpa using h2)]
          refine G_to [47] rfl ?_
          refine ih (i + 1) _ (by omega) ?_ ?_ (hfr.st (by decide))
          · show hset σ2.1 6 0 22 (σ2.1 6 0 22 + 1) 6 0 22 = _
            unfold hset
            rw [if_pos ⟨rfl, rfl, rfl⟩, h22]
            exact nI_1 i
          · show hset σ2.1 6 0 22 (σ2.1 6 0 22 + 1) 6 0 21 = _
            unfold hset
            rw [if_neg (by omega)]
            exact h21
  have mid : ∀ (σ2 : Hp), σ2.1 6 0 21 = nI (ahF M.2.2.2 l q) - 1 → frS σ σ2 → RR 106 41 [some rMo, some (rP 22), some (.inl (nI mb)), some (.inl (nI l)), some (.inl (nI q - 1)), some (.inl (nI f))] [] σ2 (fun r σ' => r = none ∧ frS σ σ' ∧ σ'.1 6 0 21 = nI (ahF M.2.2.2 l q) - 1 ∧ σ'.1 6 0 22 = nI (bhF M.1 M.2.2.2 l f)) := by
    intro σ2 h21 hfr
    refine G_to [47] rfl ?_
    refine loop2 (M.1 - f) f _ (by omega) ?_ ?_ (hfr.st (by decide))
    · show hset σ2.1 6 0 22 (nI f) 6 0 22 = _
      unfold hset
      rw [if_pos ⟨rfl, rfl, rfl⟩]
    · show hset σ2.1 6 0 22 (nI f) 6 0 21 = _
      unfold hset
      rw [if_neg (by omega)]
      exact h21
  have loop1 : ∀ (q' : Nat) (σ2 : Hp), q' ≤ M.1 → σ2.1 6 0 21 = nI q' - 1 → ahF M.2.2.2 l q' = ahF M.2.2.2 l q → frS σ σ2 → RR 106 6 [some rMo, some (rP 22), some (.inl (nI mb)), some (.inl (nI l)), some (.inl (nI q - 1)), some (.inl (nI f))] [] σ2 (fun r σ' => r = none ∧ frS σ σ' ∧ σ'.1 6 0 21 = nI (ahF M.2.2.2 l q) - 1 ∧ σ'.1 6 0 22 = nI (bhF M.1 M.2.2.2 l f)) := by
    intro q'
    induction q' with
    | zero =>
      intro σ2 hq' h21 hah hfr
      refine G_if rfl (fun h => ?_) (fun h => ?_)
      · exact mid σ2 (by rw [h21, ← hah]; rfl) hfr
      · rw [h21] at h
        exact absurd ((im1_lt (by omega)).mpr rfl) h
    | succ q' ih =>
      intro σ2 hq' h21 hah hfr
      have hI2 := hfr.is (by decide) hI
      have hT := hw.2 q' (by omega)
      refine G_if rfl (fun h => ?_) (fun h => ?_)
      · rw [h21] at h
        exact absurd ((im1_lt (by omega)).mp h) (by omega)
      · refine G_ald rfl (mb + 81 + q') (by rw [h21, nI_pred]; exact ix81 mb q') (by omega) (by decide) ?_
        rw [(hI2.2 q' (by omega)).2.2]
        refine G_if rfl (fun h2 => ?_) (fun h2 => ?_)
        · have h2 := ile h2 hl (by omega)
          rw [ahF, if_neg (by omega)] at hah
          exact mid σ2 (by rw [h21, hah]) hfr
        · have h2 := nle h2 hl (by omega)
          rw [ahF, if_pos h2] at hah
          refine G_to [6] rfl ?_
          refine ih _ (by omega) ?_ hah (hfr.st (by decide))
          show hset σ2.1 6 0 21 (σ2.1 6 0 21 - 1) 6 0 21 = _
          unfold hset
          rw [if_pos ⟨rfl, rfl, rfl⟩, h21, nI_pred]
  refine G_to [6] rfl ?_
  refine loop1 q _ hq ?_ rfl ((frS.rf σ).st (by decide))
  show hset σ.1 6 0 21 (nI q - 1) 6 0 21 = _
  unfold hset
  rw [if_pos ⟨rfl, rfl, rfl⟩]
theorem ev_move_22 (hm : mb + 121 ≤ 242) {t f : Nat} (ht : t < 40) (hf : f < 40) : Ev 109 [rP 22, .inl (nI mb), .inl (nI t), .inl (nI f)] σ (fun r σ' => r = none ∧ frP 22 mb σ σ' ∧ σ'.1 22 0 mb = σ.1 22 0 mb ∧ ∀ x, x < 40 → (σ'.1 22 0 (mb + 1 + x) = if x = t then σ.1 22 0 (mb + 1 + f) else σ.1 22 0 (mb + 1 + x)) ∧ (σ'.1 22 0 (mb + 41 + x) = if x = t then σ.1 22 0 (mb + 41 + f) else σ.1 22 0 (mb + 41 + x)) ∧ (σ'.1 22 0 (mb + 81 + x) = if x = t then σ.1 22 0 (mb + 81 + f) else σ.1 22 0 (mb + 81 + x))) := by
  refine G_ald rfl (mb + 1 + f) (ix1 mb f) (by omega) (by decide) ?_
  refine G_ast rfl (mb + 1 + t) (ix1 mb t) (by omega) (by decide) ?_
  refine G_ald rfl (mb + 41 + f) (ix41 mb f) (by omega) (by decide) ?_
  refine G_ast rfl (mb + 41 + t) (ix41 mb t) (by omega) (by decide) ?_
  refine G_ald rfl (mb + 81 + f) (ix81 mb f) (by omega) (by decide) ?_
  refine G_ast rfl (mb + 81 + t) (ix81 mb t) (by omega) (by decide) ?_
  have e41 : hset σ.1 22 0 (mb + 1 + t) (σ.1 22 0 (mb + 1 + f)) 22 0 (mb + 41 + f) = σ.1 22 0 (mb + 41 + f) := by
    unfold hset
    rw [if_neg (by omega)]
  have e81 : hset (hset σ.1 22 0 (mb + 1 + t) (σ.1 22 0 (mb + 1 + f))) 22 0 (mb + 41 + t) (σ.1 22 0 (mb + 41 + f)) 22 0 (mb + 81 + f) = σ.1 22 0 (mb + 81 + f) := by
    unfold hset
    rw [if_neg (by omega), if_neg (by omega)]
  refine G_ret rfl ⟨rfl, ((((frP.rf 22 mb σ).st (by decide) (by omega)).st (by decide) (by omega)).st (by decide) (by omega)), ?_, fun x hx => ?_⟩
  · simp only [hset]
    rw [if_neg (by omega), if_neg (by omega), if_neg (by omega)]
  · dsimp only
    rw [e41, e81]
    refine ⟨?_, ?_, ?_⟩
    · unfold hset
      rw [if_neg (by omega), if_neg (by omega)]
      by_cases h : x = t
      · rw [if_pos (by omega), if_pos h]
      · rw [if_neg (by omega), if_neg h]
    · unfold hset
      rw [if_neg (by omega)]
      by_cases h : x = t
      · rw [if_pos (by omega), if_pos h]
      · rw [if_neg (by omega), if_neg (by omega), if_neg h]
    · unfold hset
      by_cases h : x = t
      · rw [if_pos (by omega), if_pos h]
      · rw [if_neg (by omega), if_neg (by omega), if_neg (by omega), if_neg h]
end MO
