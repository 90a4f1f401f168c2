/-! Items: poor gaps are helped; a key put in, taken out. -/
def hB1 (n : Nat) (T : Nat → Nat) (l f : Nat) : Nat → Nat :=
  if 2 ≤ cntF T (l - 1) (bhF n T l (f + 1) - (f + 1)) (f + 1) then upN T (nthF T (l - 1) (bhF n T l (f + 1) - (f + 1)) (f + 1) 1) (T (nthF T (l - 1) (bhF n T l (f + 1) - (f + 1)) (f + 1) 1) + 1) else T
def helpB (n : Nat) (T : Nat → Nat) (l f : Nat) : Nat → Nat := upN (hB1 n T l f) f (hB1 n T l f f - 1)
def hA1 (T : Nat → Nat) (l f : Nat) : Nat → Nat :=
  if 2 ≤ cntF T (l - 1) (f - ahF T l f) (ahF T l f) then upN T (nthF T (l - 1) (f - ahF T l f) (ahF T l f) (cntF T (l - 1) (f - ahF T l f) (ahF T l f))) (T (nthF T (l - 1) (f - ahF T l f) (ahF T l f) (cntF T (l - 1) (f - ahF T l f) (ahF T l f))) + 1) else T
def helpA (T : Nat → Nat) (l f : Nat) : Nat → Nat := upN (hA1 T l f) f (hA1 T l f f - 1)
def helpF (n : Nat) (T : Nat → Nat) (l p : Nat) : Nat → Nat :=
  if cntF T (l - 1) (bhF n T l p - ahF T l p) (ahF T l p) = 1 then
    (if bhF n T l p < n ∧ T (bhF n T l p) = l then helpB n T l (bhF n T l p) else if 0 < ahF T l p then helpA T l (ahF T l p - 1) else T)
  else T
theorem ahF_at (T : Nat → Nat) (l : Nat) : ∀ p q, ahF T l p = q + 1 → l ≤ T q
  | 0, q, h => by simp [ahF] at h
  | p + 1, q, h => by
    unfold ahF at h
    split at h
    · exact ahF_at T l p q h
    · have : p = q := by omega
      subst this
      omega
theorem lm1 {l : Nat} (h : 1 ≤ l) : nI l - 1 = nI (l - 1) := by
  obtain ⟨l', rfl⟩ : ∃ l', l = l' + 1 := ⟨l - 1, by omega⟩
  exact nI_pred l'
section IT
variable {σ : Hp} {j : Nat} {M : AM}
theorem ev_helpFromBehind (hI : isI σ j M) (hw : wfT M) {l f : Nat} (hl : 1 ≤ l) (hl2 : l < 63) (hf : f < M.1) (hTf : l ≤ M.2.2.2 f) : Ev 22 [rI j, .inl (nI l), .inl (nI f)] σ (fun r σ' => r = none ∧ isI σ' j (setT M (helpB M.1 M.2.2.2 l f)) ∧ frI j σ σ') := by
  have hn := hw.1
  have hb := bhF_le M.2.2.2 l (show f + 1 ≤ M.1 by omega)
  have hc := cntF_le M.2.2.2 (l - 1) (bhF M.1 M.2.2.2 l (f + 1) - (f + 1)) (f + 1)
  refine G_callv rfl (by rw [nI_1]) (ev_behind hI hw (p := f + 1) (l := l) (by omega) (by omega)) ?_
  rintro r1 σ1 ⟨rfl, rfl⟩
  refine G_callv rfl (by rw [nI_1, lm1 hl]) (ev_countOf hI hw (h := l - 1) (f := f + 1) (t := bhF M.1 M.2.2.2 l (f + 1)) (by omega) (by omega) (by omega)) ?_
  rintro r1 σ1 ⟨rfl, rfl⟩
  have fin : ∀ (σ2 : Hp) (T1 : Nat → Nat), isI σ2 j (setT M T1) → (∀ i, i < M.1 → T1 i < 64) → T1 f = M.2.2.2 f → frI j σ1 σ2 → ∀ (x3 : Int32), RR 22 40 [some (rI j), some (.inl (nI l)), some (.inl (nI f)), some (.inl x3)] [] σ2 (fun r σ' => r = none ∧ isI σ' j (setT M (upN T1 f (T1 f - 1))) ∧ frI j σ1 σ') := by
    intro σ2 T1 hI2 hT1 hT1f hfr x3
    refine G_ald rfl f rfl (by omega) (by decide) ?_
    refine G_ast rfl f rfl (by omega) (by decide) ?_
    refine G_ret rfl ⟨rfl, ?_, hfr.st (by decide)⟩
    rw [(hI2.2 f hf).2.2]
    show isI (hset σ2.1 9 j f (nI (T1 f) - 1), σ2.2) j _
    rw [lm1 (by omega)]
    exact isI_up hI2
  refine G_if rfl (fun h => ?_) (fun h => ?_)
  · have h := ilt (b := 2) h (by omega) (by decide)
    have := fin σ1 M.2.2.2 hI (fun i hi => hw.2 i hi) rfl (frI.rf j σ1) (nI (bhF M.1 M.2.2.2 l (f + 1)))
    unfold helpB hB1
    simp only [if_neg (show ¬ 2 ≤ cntF M.2.2.2 (l - 1) (bhF M.1 M.2.2.2 l (f + 1) - (f + 1)) (f + 1) by omega)]
    exact this
  · have h := nlt (b := 2) h (by omega) (by decide)
    obtain ⟨n1, n2, n3⟩ := nthF_in M.2.2.2 (l - 1) (bhF M.1 M.2.2.2 l (f + 1) - (f + 1)) (f + 1) 1 (by decide) (by omega)
    refine G_callv rfl (by rw [nI_1, lm1 hl]; rfl) (ev_nth hI hw (k := 1) (h := l - 1) (f := f + 1) (t := bhF M.1 M.2.2.2 l (f + 1)) (by omega) (by omega) (by omega) (by decide) (by omega)) ?_
    rintro r1 σ2 ⟨rfl, rfl⟩
    refine G_call rfl (ev_raise hI hw (by omega)) ?_
    rintro r1 σ3 ⟨rfl, h3, h4⟩
    have := fin σ3 _ h3 (fun i hi => by
      have := hw.2 i hi
      unfold upN
      split <;> omega) (by unfold upN; rw [if_neg (by omega)]) h4 (nI (bhF M.1 M.2.2.2 l (f + 1)))
    unfold helpB hB1
    simp only [if_pos h]
    exact this
theorem ev_helpFromAhead (hI : isI σ j M) (hw : wfT M) {l f : Nat} (hl : 1 ≤ l) (hl2 : l < 63) (hf : f < M.1) (hTf : l ≤ M.2.2.2 f) : Ev 23 [rI j, .inl (nI l), .inl (nI f)] σ (fun r σ' => r = none ∧ isI σ' j (setT M (helpA M.2.2.2 l f)) ∧ frI j σ σ') := by
  have hn := hw.1
  have hb := ahF_le M.2.2.2 l f
  have hc := cntF_le M.2.2.2 (l - 1) (f - ahF M.2.2.2 l f) (ahF M.2.2.2 l f)
  refine G_call rfl (ev_ahead hI hw (p := f) (l := l) (by omega) (by omega)) ?_
  rintro r1 σ1 ⟨rfl, rfl⟩
  refine G_callv rfl (by rw [im1_add, lm1 hl]) (ev_countOf hI hw (h := l - 1) (f := ahF M.2.2.2 l f) (t := f) (by omega) (by omega) (by omega)) ?_
  rintro r1 σ1 ⟨rfl, rfl⟩
  have fin : ∀ (σ2 : Hp) (T1 : Nat → Nat), isI σ2 j (setT M T1) → (∀ i, i < M.1 → T1 i < 64) → T1 f = M.2.2.2 f → frI j σ1 σ2 → ∀ (x3 x4 : Int32), RR 23 41 [some (rI j), some (.inl (nI l)), some (.inl (nI f)), some (.inl x3), some (.inl x4)] [] σ2 (fun r σ' => r = none ∧ isI σ' j (setT M (upN T1 f (T1 f - 1))) ∧ frI j σ1 σ') := by
    intro σ2 T1 hI2 hT1 hT1f hfr x3 x4
    refine G_ald rfl f rfl (by omega) (by decide) ?_
    refine G_ast rfl f rfl (by omega) (by decide) ?_
    refine G_ret rfl ⟨rfl, ?_, hfr.st (by decide)⟩
    rw [(hI2.2 f hf).2.2]
    show isI (hset σ2.1 9 j f (nI (T1 f) - 1), σ2.2) j _
    rw [lm1 (by omega)]
    exact isI_up hI2
  refine G_if rfl (fun h => ?_) (fun h => ?_)
  · have h := ilt (b := 2) h (by omega) (by decide)
    have := fin σ1 M.2.2.2 hI (fun i hi => hw.2 i hi) rfl (frI.rf j σ1) (nI (ahF M.2.2.2 l f) - 1 + 1) (nI (cntF M.2.2.2 (l - 1) (f - ahF M.2.2.2 l f) (ahF M.2.2.2 l f)))
    unfold helpA hA1
    simp only [if_neg (show ¬ 2 ≤ cntF M.2.2.2 (l - 1) (f - ahF M.2.2.2 l f) (ahF M.2.2.2 l f) by omega)]
    exact this
  · have h := nlt (b := 2) h (by omega) (by decide)
    obtain ⟨n1, n2, n3⟩ := nthF_in M.2.2.2 (l - 1) (f - ahF M.2.2.2 l f) (ahF M.2.2.2 l f) (cntF M.2.2.2 (l - 1) (f - ahF M.2.2.2 l f) (ahF M.2.2.2 l f)) (by omega) (by omega)
    refine G_callv rfl (by rw [im1_add, lm1 hl]) (ev_nth hI hw (k := cntF M.2.2.2 (l - 1) (f - ahF M.2.2.2 l f) (ahF M.2.2.2 l f)) (h := l - 1) (f := ahF M.2.2.2 l f) (t := f) (by omega) (by omega) (by omega) (by omega) (by omega)) ?_
    rintro r1 σ2 ⟨rfl, rfl⟩
    refine G_call rfl (ev_raise hI hw (by omega)) ?_
    rintro r1 σ3 ⟨rfl, h3, h4⟩
    have := fin σ3 _ h3 (fun i hi => by
      have := hw.2 i hi
      unfold upN
      split <;> omega) (by unfold upN; rw [if_neg (by omega)]) h4 (nI (ahF M.2.2.2 l f) - 1 + 1) (nI (cntF M.2.2.2 (l - 1) (f - ahF M.2.2.2 l f) (ahF M.2.2.2 l f)))
    unfold helpA hA1
    simp only [if_pos h]
    exact this
theorem ev_helpIfPoor (hI : isI σ j M) (hw : wfT M) {l p : Nat} (hl : 1 ≤ l) (hl2 : l < 63) (hp : p ≤ M.1) : Ev 21 [rI j, .inl (nI l), .inl (nI p)] σ (fun r σ' => r = none ∧ isI σ' j (setT M (helpF M.1 M.2.2.2 l p)) ∧ frI j σ σ') := by
  have hn := hw.1
  have ha := ahF_le M.2.2.2 l p
  have hb := bhF_le M.2.2.2 l hp
  have hc := cntF_le M.2.2.2 (l - 1) (bhF M.1 M.2.2.2 l p - ahF M.2.2.2 l p) (ahF M.2.2.2 l p)
  refine G_call rfl (ev_ahead hI hw hp (by omega)) ?_
  rintro r1 σ1 ⟨rfl, rfl⟩
  refine G_call rfl (ev_behind hI hw hp (by omega)) ?_
  rintro r1 σ1 ⟨rfl, rfl⟩
  refine G_callv rfl (by rw [lm1 hl, im1_add]) (ev_countOf hI hw (h := l - 1) (f := ahF M.2.2.2 l p) (t := bhF M.1 M.2.2.2 l p) (by omega) (by omega) (by omega)) ?_
  rintro r1 σ1 ⟨rfl, rfl⟩
  refine G_if rfl (fun h => ?_) (fun h => ?_)
  · have h := ieq (b := 1) h (by omega) (by decide)
    unfold helpF
    rw [if_pos h]
    have els : ¬ (bhF M.1 M.2.2.2 l p < M.1 ∧ M.2.2.2 (bhF M.1 M.2.2.2 l p) = l) → RR 21 62 [some (rI j), some (.inl (nI l)), some (.inl (nI p)), some (.inl (nI (ahF M.2.2.2 l p) - 1)), some (.inl (nI (bhF M.1 M.2.2.2 l p)))] [] σ1 (fun r σ' => r = none ∧ isI σ' j (setT M (if bhF M.1 M.2.2.2 l p < M.1 ∧ M.2.2.2 (bhF M.1 M.2.2.2 l p) = l then helpB M.1 M.2.2.2 l (bhF M.1 M.2.2.2 l p) else if 0 < ahF M.2.2.2 l p then helpA M.2.2.2 l (ahF M.2.2.2 l p - 1) else M.2.2.2)) ∧ frI j σ1 σ') := by
      intro hno
      rw [if_neg hno]
      refine G_if rfl (fun q => ?_) (fun q => ?_)
      · have q := (im1_lt (by omega)).mp q
        rw [if_neg (by omega)]
        exact G_ret rfl ⟨rfl, hI, frI.rf j _⟩
      · have q : 0 < ahF M.2.2.2 l p := by
          rcases Nat.eq_zero_or_pos (ahF M.2.2.2 l p) with h0 | h0
          · exact absurd ((im1_lt (by omega)).mpr h0) q
          · exact h0
        rw [if_pos q]
        have hat := ahF_at M.2.2.2 l p (ahF M.2.2.2 l p - 1) (by omega)
        refine G_callv rfl (by rw [lm1 q]) (ev_helpFromAhead hI hw hl hl2 (f := ahF M.2.2.2 l p - 1) (by omega) hat) ?_
        rintro r1 σ2 ⟨rfl, h3, h4⟩
        exact G_ret rfl ⟨rfl, h3, h4⟩
    refine G_if rfl (fun q => ?_) (fun q => ?_)
    · rw [hI.1] at q
      have q := ile q (by omega) (by omega)
      exact els (by omega)
    · rw [hI.1] at q
      have q := nle q (by omega) (by omega)
      refine G_ald rfl (bhF M.1 M.2.2.2 l p) rfl (by omega) (by decide) ?_
      rw [(hI.2 _ q).2.2]
      have hT := hw.2 _ q
      refine G_if rfl (fun q2 => ?_) (fun q2 => ?_)
      · exact els (fun e => q2 (by rw [e.2]))
      · have q2 := ieq (Classical.not_not.mp q2) (by omega) (by omega)
        rw [if_pos ⟨q, q2⟩]
        refine G_call rfl (ev_helpFromBehind hI hw hl hl2 q (by omega)) ?_
        rintro r1 σ2 ⟨rfl, h3, h4⟩
        exact G_ret rfl ⟨rfl, h3, h4⟩
  · have h : ¬ cntF M.2.2.2 (l - 1) (bhF M.1 M.2.2.2 l p - ahF M.2.2.2 l p) (ahF M.2.2.2 l p) = 1 := fun e => h (by rw [e]; rfl)
    unfold helpF
    rw [if_neg h]
    exact G_ret rfl ⟨rfl, hI, frI.rf j _⟩
end IT
